/-! the grid: kinds sorted into sets, sides -/
theorem bits_add {f y : Int64} {i : Nat} {P : Nat → Bool} (hf : ∀ q, q < 64 → bt f q = (decide (q < i) && P q)) (hy : ∀ q, q < 64 → bt y q = (decide (q = i) && P i)) : ∀ q, q < 64 → bt (f ||| y) q = (decide (q < i + 1) && P q) := by
  intro q hq
  rw [bt_or, hf q hq, hy q hq]
  rcases Nat.lt_trichotomy q i with h | h | h
  · have h1 : q < i + 1 := by omega
    have h2 : ¬ q = i := by omega
    simp [h, h1, h2]
  · subst h; simp
  · have h1 : ¬ q < i := by omega
    have h2 : ¬ q = i := by omega
    have h3 : ¬ q < i + 1 := by omega
    simp [h1, h2, h3]
theorem bit_yes {i : Nat} {P : Nat → Bool} (hi : i < 64) (h : P i = true) : ∀ q, q < 64 → bt ((1 : Int64) <<< (Int32.toInt64 (nI i) &&& 63)) q = (decide (q = i) && P i) := fun q hq => by rw [bt_one hi hq, h, Bool.and_true]
theorem bit_no {i : Nat} {P : Nat → Bool} (h : P i = false) : ∀ q, q < 64 → bt (0 : Int64) q = (decide (q = i) && P i) := fun q hq => by rw [bt_0, h, Bool.and_false]
theorem sk_loop {a : Abs} {gk : Nat → Int32} {Q : Int64 → Int64 → Int64 → Prop} (hn : aN a ≤ 64) (hk : ∀ c, c < aN a → gk c = nI (aKd a c)) (h3 : ∀ c, c < aN a → aKd a c ≤ 3) (hQ : ∀ f c s, IGk a gk f c s → Q f c s) : ∀ (n i : Nat) (f c s : Int64), i ≤ aN a → aN a - i < n → (∀ q, q < 64 → bt f q = (decide (q < i) && flr a q)) → (∀ q, q < 64 → bt c q = (decide (q < i) && clr a q)) → (∀ q, q < 64 → bt s q = (decide (q < i) && std a q)) → L_gr_sortKinds_17 (nI (aN a)) gk Q n f c s (nI i) := by
  intro n
  induction n with
  | zero => intro i f c s h1 h2; omega
  | succ n ih =>
    intro i f c s hi hm hf hc hs
    unfold L_gr_sortKinds_17
    rcases Nat.lt_or_ge i (aN a) with h | h
    · refine br_f (nI_ge h (by omega)) ?_
      rintro _ rfl
      refine ⟨vI (by omega) (by omega), ?_⟩
      rw [cl (by omega), hk i h]
      rintro _ rfl
      have nx : ∀ (yf yc ys : Int64), (∀ q, q < 64 → bt yf q = (decide (q = i) && flr a i)) → (∀ q, q < 64 → bt yc q = (decide (q = i) && clr a i)) → (∀ q, q < 64 → bt ys q = (decide (q = i) && std a i)) → L_gr_sortKinds_17 (nI (aN a)) gk Q n (f ||| yf) (c ||| yc) (s ||| ys) (nI i + 1) := by
        intro yf yc ys e1 e2 e3
        have := ih (i + 1) (f ||| yf) (c ||| yc) (s ||| ys) (by omega) (by omega) (bits_add hf e1) (bits_add hc e2) (bits_add hs e3)
        rw [nI_1]
        exact this
      rcases (show aKd a i = 0 ∨ aKd a i = 1 ∨ aKd a i = 2 ∨ aKd a i = 3 by have := h3 i h; omega) with e | e | e | e
      · rw [e]
        refine br_t rfl ?_
        unfold B_gr_sortKinds_52
        rintro _ rfl
        refine br_t rfl ?_
        unfold B_gr_sortKinds_77
        rintro _ rfl
        refine br_t rfl ?_
        rintro _ rfl
        exact nx _ _ _ (bit_yes (by omega) (by unfold flr; rw [e]; rfl)) (bit_yes (by omega) (by unfold clr; rw [e]; rfl)) (bit_yes (by omega) (by unfold std; rw [e]; rfl))
      · rw [e]
        refine br_f (by decide) ?_
        unfold B_gr_sortKinds_52
        rintro _ rfl
        refine br_f (by decide) (br_f (by decide) ?_)
        unfold B_gr_sortKinds_77
        rintro _ rfl
        refine br_f (by decide) (br_f (by decide) ?_)
        rintro _ rfl
        exact nx _ _ _ (bit_no (by unfold flr; rw [e]; rfl)) (bit_no (by unfold clr; rw [e]; rfl)) (bit_no (by unfold std; rw [e]; rfl))
      · rw [e]
        refine br_f (by decide) ?_
        unfold B_gr_sortKinds_52
        rintro _ rfl
        refine br_f (by decide) (br_t rfl ?_)
        unfold B_gr_sortKinds_77
        rintro _ rfl
        refine br_f (by decide) (br_f (by decide) ?_)
        rintro _ rfl
        exact nx _ _ _ (bit_no (by unfold flr; rw [e]; rfl)) (bit_yes (by omega) (by unfold clr; rw [e]; rfl)) (bit_no (by unfold std; rw [e]; rfl))
      · rw [e]
        refine br_f (by decide) ?_
        unfold B_gr_sortKinds_52
        rintro _ rfl
        refine br_f (by decide) (br_f (by decide) ?_)
        unfold B_gr_sortKinds_77
        rintro _ rfl
        refine br_f (by decide) (br_t rfl ?_)
        rintro _ rfl
        exact nx _ _ _ (bit_no (by unfold flr; rw [e]; rfl)) (bit_no (by unfold clr; rw [e]; rfl)) (bit_yes (by omega) (by unfold std; rw [e]; rfl))
    · have e : i = aN a := by omega
      subst e
      exact br_t (nI_le (Nat.le_refl _) (by omega)) (hQ _ _ _ ⟨hk, hf, hc, hs⟩)
theorem s_sortKinds {a : Abs} {gz : Int32} {gk : Nat → Int32} {f c s : Int64} {Q : Int64 → Int64 → Int64 → Prop} (hz : gz = nI (aN a)) (hn : aN a ≤ 64) (hk : ∀ c, c < aN a → gk c = nI (aKd a c)) (h3 : ∀ c, c < aN a → aKd a c ≤ 3) (hQ : ∀ f c s, IGk a gk f c s → Q f c s) : P_gr_sortKinds gz gk f c s Q := by
  subst hz
  unfold P_gr_sortKinds
  refine ⟨aN a + 1, ?_⟩
  have h0 : ∀ (P : Nat → Bool) (q : Nat), q < 64 → bt (0 : Int64) q = (decide (q < 0) && P q) := fun P q _ => by rw [bt_0]; simp
  exact sk_loop hn hk h3 hQ (aN a + 1) 0 0 0 0 (Nat.zero_le _) (by omega) (h0 _) (h0 _) (h0 _)
theorem md {y w x : Nat} (h : x < w) : (y * w + x) % w = x ∧ (y * w + x) / w = y := by
  have hw : 0 < w := by omega
  rw [Nat.mul_comm]
  exact ⟨by rw [Nat.mul_add_mod, Nat.mod_eq_of_lt h], by rw [Nat.mul_add_div hw, Nat.div_eq_of_lt h, Nat.add_zero]⟩
theorem row_split {y w q : Nat} (h1 : y * w ≤ q) (h2 : q < y * w + w) : ∃ r, r < w ∧ q = y * w + r := ⟨q - y * w, by omega, by omega⟩
theorem fc_add {y w : Nat} {f : Int64} (hw : 0 < w) (hy : y * w < 64) (hf : ∀ q, q < 64 → bt f q = (decide (q < y * w) && decide (q % w = 0))) : ∀ q, q < 64 → bt (f ||| ((1 : Int64) <<< (Int32.toInt64 (nI (y * w)) &&& 63))) q = (decide (q < y * w + w) && decide (q % w = 0)) := by
  intro q hq
  rw [bt_or, hf q hq, bt_one hy hq]
  rcases Nat.lt_or_ge q (y * w) with h | h
  · have h1 : ¬ q = y * w := by omega
    have h2 : q < y * w + w := by omega
    simp [h, h1, h2]
  · rcases Nat.lt_or_ge q (y * w + w) with h2 | h2
    · obtain ⟨r, hr, rfl⟩ := row_split h h2
      rw [(md hr).1]
      have h3 : ¬ y * w + r < y * w := by omega
      by_cases hz : r = 0
      · subst hz; simp [hw]
      · have h4 : ¬ y * w + r = y * w := by omega
        simp [hz]
    · have h3 : ¬ q < y * w := by omega
      have h4 : ¬ q < y * w + w := by omega
      have h5 : ¬ q = y * w := by omega
      simp [h3, h4, h5]
theorem lc_add {y w : Nat} {f : Int64} (hw : 0 < w) (hy : y * w + w ≤ 64) (hf : ∀ q, q < 64 → bt f q = (decide (q < y * w) && decide (q % w + 1 = w))) : ∀ q, q < 64 → bt (f ||| ((1 : Int64) <<< (Int32.toInt64 (nI (y * w + w - 1)) &&& 63))) q = (decide (q < y * w + w) && decide (q % w + 1 = w)) := by
  intro q hq
  rw [bt_or, hf q hq, bt_one (by omega) hq]
  rcases Nat.lt_or_ge q (y * w) with h | h
  · have h1 : ¬ q = y * w + w - 1 := by omega
    have h2 : q < y * w + w := by omega
    simp [h, h1, h2]
  · rcases Nat.lt_or_ge q (y * w + w) with h2 | h2
    · obtain ⟨r, hr, rfl⟩ := row_split h h2
      rw [(md hr).1]
      have h3 : ¬ y * w + r < y * w := by omega
      by_cases hz : r + 1 = w
      · have h4 : y * w + r = y * w + w - 1 := by omega
        have h5 : y * w + w - 1 < y * w + w := by omega
        simp [hz, h4, h5]
      · have h4 : ¬ y * w + r = y * w + w - 1 := by omega
        simp [hz, h4]
    · have h3 : ¬ q < y * w := by omega
      have h4 : ¬ q < y * w + w := by omega
      have h5 : ¬ q = y * w + w - 1 := by omega
      simp [h3, h4, h5]
def colsTo (w n : Nat) (gc gr : Nat → Int32) : Prop := ∀ c, c < n → gc c = nI (c % w) ∧ gr c = nI (c / w)
theorem cs_in {w h y : Nat} {Q : Int32 → Int32 → Int32 → (Nat → Int32) → (Nat → Int32) → Int64 → Int64 → Prop} {k29 : Int32 → Int32 → Int32 → (Nat → Int32) → (Nat → Int32) → Int64 → Int64 → Int32 → Int32 → Int32 → Prop} {A1 A2 A3 : Int32} {f l : Int64} (hw : 2 ≤ w ∧ w ≤ 8) (hy : y * w + w ≤ 64)
    (hk : ∀ gc gr, colsTo w (y * w + w) gc gr → k29 A1 A2 A3 gc gr (f ||| ((1 : Int64) <<< (Int32.toInt64 (nI (y * w)) &&& 63))) (l ||| ((1 : Int64) <<< (Int32.toInt64 (nI (y * w + w - 1)) &&& 63))) (nI w) (nI h) (nI (y + 1))) : ∀ (n x : Nat) (gc gr : Nat → Int32), x ≤ w → w - x < n → colsTo w (y * w + x) gc gr → L_gr_changeSides_37 Q k29 n A1 A2 A3 gc gr f l (nI w) (nI h) (nI y) (nI x) := by
  intro n
  induction n with
  | zero => intro x gc gr h1 h2; omega
  | succ n ih =>
    intro x gc gr hx hm hc
    unfold L_gr_changeSides_37
    rcases Nat.lt_or_ge x w with q | q
    · refine br_f (nI_ge q (by omega)) ?_
      rw [pk_mul, nI_add, cl (by omega), nI_1]
      refine ⟨vI (by omega) (by omega), vI (by omega) (by omega), ih (x + 1) _ _ (by omega) (by omega) ?_⟩
      intro c hc2
      by_cases e : c = y * w + x
      · subst e
        rw [u_s, u_s, (md q).1, (md q).2]
        exact ⟨rfl, rfl⟩
      · rw [u_n e, u_n e]
        exact hc c (by omega)
    · have e : x = w := by omega
      subst e
      refine br_t (nI_le (Nat.le_refl _) (by omega)) ?_
      unfold B_gr_changeSides_74
      rw [pk_mul, nI_add, nI_1]
      rintro _ rfl
      rintro _ rfl
      rw [show nI (y * x + x) - 1 = nI (y * x + x - 1) from pk_sub (b := 1) (by omega)]
      exact hk gc gr hc
theorem s_changeSides {w h : Nat} {A1 A2 A3 : Int32} {gc gr : Nat → Int32} {f l : Int64} {Q : Int32 → Int32 → Int32 → (Nat → Int32) → (Nat → Int32) → Int64 → Int64 → Prop} (hw : 2 ≤ w ∧ w ≤ 8) (hh : 2 ≤ h ∧ h ≤ 8)
    (hQ : ∀ gc gr f l, colsTo w (w * h) gc gr → (∀ q, q < 64 → bt f q = (decide (q < w * h) && decide (q % w = 0))) → (∀ q, q < 64 → bt l q = (decide (q < w * h) && decide (q % w + 1 = w))) → Q (nI w) (nI h) (nI (w * h)) gc gr f l) : P_gr_changeSides A1 A2 A3 gc gr f l (nI w) (nI h) Q := by
  unfold P_gr_changeSides
  rintro _ rfl
  rw [pk_mul]
  have hwh : w * h ≤ 64 := Nat.mul_le_mul hw.2 hh.2
  have key : ∀ (n y : Nat) (gc gr : Nat → Int32) (f l : Int64), y ≤ h → h - y < n → colsTo w (y * w) gc gr → (∀ q, q < 64 → bt f q = (decide (q < y * w) && decide (q % w = 0))) → (∀ q, q < 64 → bt l q = (decide (q < y * w) && decide (q % w + 1 = w))) → L_gr_changeSides_29 Q n (nI w) (nI h) (nI (w * h)) gc gr f l (nI w) (nI h) (nI y) := by
    intro n
    induction n with
    | zero => intro y gc gr f l h1 h2; omega
    | succ n ih =>
      intro y gc gr f l hy hm hc hf hl
      unfold L_gr_changeSides_29
      rcases Nat.lt_or_ge y h with q | q
      · refine br_f (nI_ge q (by omega)) ⟨w + 1, ?_⟩
        have hy2 : y * w + w ≤ 64 := by
          have h1 : (y + 1) * w ≤ h * w := Nat.mul_le_mul_right w q
          rw [Nat.add_mul, Nat.one_mul, Nat.mul_comm h w] at h1
          omega
        refine cs_in hw hy2 (fun gc gr hc2 => ?_) (w + 1) 0 gc gr (Nat.zero_le _) (by omega) (by rw [Nat.add_zero]; exact hc)
        have e : y * w + w = (y + 1) * w := by rw [Nat.add_mul, Nat.one_mul]
        refine ih (y + 1) gc gr _ _ q (by omega) (by rw [← e]; exact hc2) ?_ ?_
        · rw [← e]; exact fc_add (by omega) (by omega) hf
        · rw [← e]; exact lc_add (by omega) hy2 hl
      · have e : y = h := by omega
        subst e
        refine br_t (nI_le (Nat.le_refl _) (by omega)) ?_
        rw [Nat.mul_comm] at hc hf hl
        exact hQ gc gr f l hc hf hl
  refine ⟨h + 1, ?_⟩
  refine key (h + 1) 0 gc gr 0 0 (Nat.zero_le _) (by omega) (fun c hc => by omega) (fun q _ => by rw [bt_0]; simp) (fun q _ => by rw [bt_0]; simp)
theorem s_layHall {w h : Nat} {A1 A2 A4 : Int32} {mk rm sh : Nat → Int32} {Q : Int32 → Int32 → (Nat → Int32) → Int32 → (Nat → Int32) → (Nat → Int32) → Prop} {x1 x2 : Int32} (hQ : ∀ mk rm sh, (∀ c, c < 64 → mk c = 0) → (∀ k, k < 4 → rm k = 0) → (∀ k, k < 4 → sh k = 0) → Q x1 x2 mk 0 rm sh) : P_mo_layHall A1 A2 mk A4 rm sh x1 x2 Q := by
  unfold P_mo_layHall
  have key2 : ∀ (n i : Nat) (mk rm sh : Nat → Int32), i ≤ 4 → 4 - i < n → (∀ c, c < 64 → mk c = 0) → (∀ k, k < i → rm k = 0) → (∀ k, k < i → sh k = 0) → L_mo_layHall_38 Q n x1 x2 mk 0 rm sh (nI i) := by
    intro n
    induction n with
    | zero => intro i mk rm sh h1 h2; omega
    | succ n ih =>
      intro i mk rm sh hi hm h1 h2 h3
      unfold L_mo_layHall_38
      rcases Nat.lt_or_ge i 4 with q | q
      · refine br_f (nI_ge (b := 4) q (by omega)) ⟨vI q (by omega), vI q (by omega), ?_⟩
        rw [cl (by omega), nI_1]
        refine ih (i + 1) mk _ _ (by omega) (by omega) h1 (fun k hk => ?_) (fun k hk => ?_)
        · by_cases e : k = i
          · subst e; exact u_s
          · rw [u_n e]; exact h2 k (by omega)
        · by_cases e : k = i
          · subst e; exact u_s
          · rw [u_n e]; exact h3 k (by omega)
      · have e : i = 4 := by omega
        subst e
        exact br_t (nI_le (a := 4) (by omega) (by omega)) (hQ mk rm sh h1 h2 h3)
  have key : ∀ (n i : Nat) (mk : Nat → Int32), i ≤ 64 → 64 - i < n → (∀ c, c < i → mk c = 0) → L_mo_layHall_12 Q n x1 x2 mk A4 rm sh (nI i) := by
    intro n
    induction n with
    | zero => intro i mk h1 h2; omega
    | succ n ih =>
      intro i mk hi hm h1
      unfold L_mo_layHall_12
      rcases Nat.lt_or_ge i 64 with q | q
      · refine br_f (nI_ge (b := 64) q (by omega)) ⟨vI q (by omega), ?_⟩
        rw [cl (by omega), nI_1]
        refine ih (i + 1) _ (by omega) (by omega) (fun k hk => ?_)
        by_cases e : k = i
        · subst e; exact u_s
        · rw [u_n e]; exact h1 k (by omega)
      · have e : i = 64 := by omega
        subst e
        refine br_t (nI_le (a := 64) (by omega) (by omega)) ?_
        unfold B_mo_layHall_31
        exact ⟨5, key2 5 0 mk rm sh (by omega) (by omega) h1 (fun k hk => by omega) (fun k hk => by omega)⟩
  exact ⟨65, key 65 0 mk (by omega) (by omega) (fun c hc => by omega)⟩
theorem s_layOut {a : Abs} {A1 A2 A3 : Int32} {gk gc gr : Nat → Int32} {f c s fc lc : Int64} {Q : Int32 → Int32 → Int32 → (Nat → Int32) → (Nat → Int32) → (Nat → Int32) → Int64 → Int64 → Int64 → Int64 → Int64 → Prop} (hw : 2 ≤ aW a ∧ aW a ≤ 8) (hh : 2 ≤ aH a ∧ aH a ≤ 8) (h0 : ∀ c, aKd a c = 0)
    (hQ : ∀ gw gh gz gk gc gr f c s fc lc, gz = nI (aN a) → IGs a gw gh gz gc gr fc lc → IGk a gk f c s → Q gw gh gz gk gc gr f c s fc lc) : P_gr_layOut A1 A2 A3 gk gc gr f c s fc lc (nI (aW a)) (nI (aH a)) Q := by
  unfold P_gr_layOut
  have hn : aN a ≤ 64 := Nat.mul_le_mul hw.2 hh.2
  refine s_changeSides hw hh (fun gc gr f l hc hf hl => ?_)
  refine s_sortKinds (a := a) rfl hn (fun c hc => ?_) (fun c _ => by rw [h0]; omega) (fun f2 c2 s2 hG => ?_)
  · rw [h0]
    have : c < 64 := by omega
    simp only [filli, this, if_true]
    rfl
  · exact hQ _ _ _ _ _ _ _ _ _ _ _ rfl ⟨rfl, rfl, rfl, fun c hc2 => (hc c hc2).1, fun c hc2 => (hc c hc2).2, hf, hl⟩ hG
theorem s_isSide {x : Int32} {Q : Int32 → Prop} (h : Q (bI (isR 2 8 x))) : P_wh_isSide x Q := by
  unfold P_wh_isSide
  exact chk2 (l := 2) (h := 8) rfl rfl (fun hf => by rw [hf] at h; exact h) (fun ht => by rw [ht] at h; exact h)
theorem s_isTime {x : Int32} {Q : Int32 → Prop} (h : Q (bI (isR 0 9999 x))) : P_wh_isTime x Q := by
  unfold P_wh_isTime
  exact chk2 (l := 0) (h := 9999) rfl rfl (fun hf => by rw [hf] at h; exact h) (fun ht => by rw [ht] at h; exact h)
theorem s_isWatcher {x : Int32} {Q : Int32 → Prop} (h : Q (bI (isC 4 x))) : P_wh_isWatcher x Q := s_gc (n := 4) (g := 4) rfl (by decide) h
theorem s_mWatcher {x : Int32} {Q : Int32 → Prop} (h : Q (bI (isC 4 x))) : P_mo_isWatcher x Q := by
  unfold P_mo_isWatcher
  refine s_in (l := 0) (h := 3) rfl rfl ⟨bI_01 _, ?_⟩
  have e : isR 0 3 x = isC 4 x := by
    unfold isR isC
    by_cases q : 0 ≤ x.toInt ∧ x.toInt ≤ 3
    · rw [decide_eq_true q, decide_eq_true (by omega)]
    · rw [decide_eq_false q, decide_eq_false (by omega)]
  rw [e]
  exact h
theorem s_yesNo {b : Bool} {Q : Int32 → Prop} (h : Q (bI b)) : P_wh_yesOrNo (bI b) Q := by
  unfold P_wh_yesOrNo
  cases b
  · exact br_t rfl h
  · exact br_f (by decide) h
