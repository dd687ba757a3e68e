/-! the class's trail: a search in order of coming -/
def ap (many x : Nat) (f : Nat → Nat) : Nat → Nat := fun i => if i = many then x else f i
theorem ap_n {many x i : Nat} {f : Nat → Nat} (h : i < many) : ap many x f i = f i := if_neg (by omega)
theorem ap_s {many x : Nat} {f : Nat → Nat} : ap many x f many = x := if_pos rfl
theorem Bfs_add {mv : Nat → Nat → Option Nat} {s0 : Nat} {goal : Nat → Prop} {st cd dp : Nat → Nat} {many mark d t : Nat} (B : Bfs mv s0 goal st cd dp many mark) (hm : mark < many) (hmv : mv (st mark) d = some t) (hd : d < 8) (hout : ∀ i, i < many → st i ≠ t) (hb : ∀ j, j < many → cd j < 8 * cd mark + d) : Bfs mv s0 goal (ap many t st) (ap many (8 * cd mark + d) cd) (ap many (dp mark + 1) dp) (many + 1) mark := by
  obtain ⟨⟨b0, b1, b2, b3⟩, hr, hc, hs, he, hg⟩ := B
  refine ⟨⟨by omega, by rw [ap_n b0]; exact b1, by rw [ap_n b0]; exact b2, by rw [ap_n b0]; exact b3⟩, fun i hi => ?_, fun i j hij hj => ?_, fun i j hij hj => ?_, fun i d2 x hi hd2 hx => ?_, fun i hi => ?_⟩
  · rcases Nat.lt_or_ge i many with e | e
    · rw [ap_n e, ap_n e, ap_n e]; exact hr i e
    · have e2 : i = many := by omega
      subst e2
      rw [ap_s, ap_s, ap_s]
      exact ⟨cd mark, d, st mark, hd, rfl, hr mark hm, hmv⟩
  · rcases Nat.lt_or_ge j many with e | e
    · rw [ap_n e, ap_n (by omega)]; exact hc i j hij e
    · have e2 : j = many := by omega
      subst e2
      rw [ap_s, ap_n hij]; exact hb i hij
  · rcases Nat.lt_or_ge j many with e | e
    · rw [ap_n e, ap_n (by omega)]; exact hs i j hij e
    · have e2 : j = many := by omega
      subst e2
      rw [ap_s, ap_n hij]; exact hout i hij
  · rw [ap_n (by omega)] at hx
    obtain ⟨j, j1, j2, j3⟩ := he i d2 x hi hd2 hx
    exact ⟨j, by omega, by rw [ap_n j1]; exact j2, by rw [ap_n j1, ap_n (by omega)]; exact j3⟩
  · rw [ap_n (by omega)]; exact hg i hi
def TR (mv : Nat → Nat → Option Nat) (s0 : Nat) (goal : Nat → Prop) (lay cel : Nat → Nat) (V : Nat → Prop) (marks : Nat → Int32) (visited : Nat → Int64) (st cd dp par mvd : Nat → Nat) (many mark : Nat) : Prop :=
  Bfs mv s0 goal st cd dp many mark ∧ (∀ i, i < many → V (st i) ∧ marks i = nI (131072 * par i + (16384 * mvd i + (64 * lay (st i) + cel (st i))))) ∧ (∀ i, i < many → mvd i < 8 ∧ par i ≤ i ∧ dp i ≤ i ∧ (0 < i → par i < i ∧ cd i = 8 * cd (par i) + mvd i ∧ dp i = dp (par i) + 1)) ∧ ∀ l c, l < 256 → c < 64 → (bt (visited l) c = true ↔ ∃ i, i < many ∧ lay (st i) = l ∧ cel (st i) = c)
def Enc (lay cel : Nat → Nat) (V : Nat → Prop) : Prop := (∀ s, V s → lay s < 256 ∧ cel s < 64) ∧ ∀ s t, V s → V t → lay s = lay t → cel s = cel t → s = t
theorem TR_le {mv : Nat → Nat → Option Nat} {s0 : Nat} {goal : Nat → Prop} {lay cel : Nat → Nat} {V : Nat → Prop} {marks : Nat → Int32} {visited : Nat → Int64} {st cd dp par mvd : Nat → Nat} {many mark : Nat} (hE : Enc lay cel V) (B : TR mv s0 goal lay cel V marks visited st cd dp par mvd many mark) : many ≤ 16384 := by
  refine pigeon 16384 many (fun i => 64 * lay (st i) + cel (st i)) (fun i hi => ?_) (fun i j hij hj e => ?_)
  · have := hE.1 _ (B.2.1 i hi).1
    show 64 * lay (st i) + cel (st i) < 16384
    omega
  · have h1 := hE.1 _ (B.2.1 i (by omega)).1
    have h2 := hE.1 _ (B.2.1 j hj).1
    have e' : 64 * lay (st i) + cel (st i) = 64 * lay (st j) + cel (st j) := e
    exact B.1.2.2.2.1 i j hij hj (hE.2 _ _ (B.2.1 i (by omega)).1 (B.2.1 j hj).1 (by omega) (by omega))
def TI (mv : Nat → Nat → Option Nat) (s0 : Nat) (goal : Nat → Prop) (lay cel : Nat → Nat) (V : Nat → Prop) (marks : Nat → Int32) (visited : Nat → Int64) (many mark c e d : Nat) : Prop :=
  ∃ st cd dp par mvd, TR mv s0 goal lay cel V marks visited st cd dp par mvd many mark ∧ mark < many ∧ st mark = c ∧ cd mark = e ∧ (∀ j, j < many → cd j < 8 * e + d) ∧ ∀ d' t, d' < d → mv c d' = some t → ∃ j, j < many ∧ st j = t ∧ cd j ≤ 8 * e + d'
def TO (mv : Nat → Nat → Option Nat) (s0 : Nat) (goal : Nat → Prop) (lay cel : Nat → Nat) (V : Nat → Prop) (marks : Nat → Int32) (visited : Nat → Int64) (many mark : Nat) : Prop :=
  ∃ st cd dp par mvd, TR mv s0 goal lay cel V marks visited st cd dp par mvd many mark ∧ mark ≤ many ∧ (mark < many → ∀ j, j < many → cd j < 8 * cd mark)
theorem TI_start {mv : Nat → Nat → Option Nat} {s0 : Nat} {goal : Nat → Prop} {lay cel : Nat → Nat} {V : Nat → Prop} {marks : Nat → Int32} {visited : Nat → Int64} {many mark : Nat} (B : TO mv s0 goal lay cel V marks visited many mark) (hm : mark < many) : ∃ c e, TI mv s0 goal lay cel V marks visited many mark c e 0 := by
  obtain ⟨st, cd, dp, par, mvd, B, h1, h2⟩ := B
  exact ⟨st mark, cd mark, st, cd, dp, par, mvd, B, hm, rfl, rfl, fun j hj => by have := h2 hm j hj; omega, fun d' t h => absurd h (Nat.not_lt_zero _)⟩
theorem TI_skip {mv : Nat → Nat → Option Nat} {s0 : Nat} {goal : Nat → Prop} {lay cel : Nat → Nat} {V : Nat → Prop} {marks : Nat → Int32} {visited : Nat → Int64} {many mark c e d : Nat} (B : TI mv s0 goal lay cel V marks visited many mark c e d) (h : mv c d = none) : TI mv s0 goal lay cel V marks visited many mark c e (d + 1) := by
  obtain ⟨st, cd, dp, par, mvd, B, h1, h2, h3, h4, h5⟩ := B
  refine ⟨st, cd, dp, par, mvd, B, h1, h2, h3, fun j hj => by have := h4 j hj; omega, fun d' t hd hm => ?_⟩
  rcases Nat.lt_or_ge d' d with q | q
  · exact h5 d' t q hm
  · have : d' = d := by omega
    subst this
    rw [h] at hm; cases hm
theorem TI_end {mv : Nat → Nat → Option Nat} {s0 : Nat} {goal : Nat → Prop} {lay cel : Nat → Nat} {V : Nat → Prop} {marks : Nat → Int32} {visited : Nat → Int64} {many mark c e d : Nat} (B : TI mv s0 goal lay cel V marks visited many mark c e d) (hd8 : d ≤ 8) (hn : ∀ d', d ≤ d' → mv c d' = none) (hg : ¬ goal c) : TO mv s0 goal lay cel V marks visited many (mark + 1) := by
  obtain ⟨st, cd, dp, par, mvd, B, h1, h2, h3, h4, h5⟩ := B
  refine ⟨st, cd, dp, par, mvd, ⟨⟨B.1.1, B.1.2.1, B.1.2.2.1, B.1.2.2.2.1, fun i d' t hi hd' hm => ?_, fun i hi => ?_⟩, B.2.1, B.2.2.1, B.2.2.2⟩, by omega, fun hm j hj => ?_⟩
  · rcases Nat.lt_or_ge i mark with q | q
    · exact B.1.2.2.2.2.1 i d' t q hd' hm
    · have : i = mark := by omega
      subst this
      rw [h2] at hm
      rcases Nat.lt_or_ge d' d with q2 | q2
      · rw [h3]; exact h5 d' t q2 hm
      · rw [hn d' q2] at hm; cases hm
  · rcases Nat.lt_or_ge i mark with q | q
    · exact B.1.2.2.2.2.2 i q
    · have : i = mark := by omega
      subst this
      rw [h2]; exact hg
  · have w1 := h4 j hj
    have w2 := B.1.2.2.1 mark (mark + 1) (by omega) hm
    omega
theorem mk_i {m d l c : Nat} (hm : m < 16384) (hd : d < 8) (hl : l < 256) (hc : c < 64) : (((nI m <<< ((17 : Int32) &&& 31)) ||| (nI d <<< ((14 : Int32) &&& 31))) ||| (nI l <<< ((6 : Int32) &&& 31))) ||| nI c = nI (131072 * m + (16384 * d + (64 * l + c))) := by
  rw [pk_shlN _ 17 (by decide) (by omega), pk_shlN _ 14 (by decide) (by omega), pk_shlN _ 6 (by decide) (by omega), nI_or, nI_or, nI_or]
  apply congrArg nI
  have e1 : m * 2 ^ 17 ||| d * 2 ^ 14 = 2 ^ 14 * (8 * m + d) := by
    have := Nat.two_pow_add_eq_or_of_lt (i := 17) (b := d * 2 ^ 14) (by omega) m
    rw [Nat.mul_comm m, ← this]
    omega
  rw [e1]
  have e2 : 2 ^ 14 * (8 * m + d) ||| l * 2 ^ 6 = 2 ^ 6 * (256 * (8 * m + d) + l) := by
    rw [← Nat.two_pow_add_eq_or_of_lt (i := 14) (b := l * 2 ^ 6) (by omega)]
    omega
  rw [e2, ← Nat.two_pow_add_eq_or_of_lt (i := 6) (b := c) (by omega)]
  omega
theorem TI_visit {mv : Nat → Nat → Option Nat} {s0 : Nat} {goal : Nat → Prop} {lay cel : Nat → Nat} {V : Nat → Prop} {marks : Nat → Int32} {visited : Nat → Int64} {many mark c e d t : Nat} {x1 x2 : Int32} {Q : (Nat → Int32) → (Nat → Int64) → Int32 → Prop} (hE : Enc lay cel V) (B : TI mv s0 goal lay cel V marks visited many mark c e d) (hd : d < 8) (hmv : mv c d = some t) (hV : V t) (hx1 : x1 = nI (lay t)) (hx2 : x2 = nI (cel t)) (h : ∀ marks' visited' many', TI mv s0 goal lay cel V marks' visited' many' mark c e (d + 1) → Q marks' visited' (nI many')) : P_tr_visit marks visited (nI many) x1 x2 (nI d) (nI mark) Q := by
  obtain ⟨st, cd, dp, par, mvd, B, h1, h2, h3, h4, h5⟩ := B
  subst h2 h3 hx1 hx2
  have hle := TR_le hE B
  obtain ⟨hl, hc⟩ := hE.1 t hV
  unfold P_tr_visit
  rw [cl (n := lay t) (by omega)]
  refine ⟨vI hl (by omega), s_holds hc (brB (fun hf => ?_) (fun ht => ?_))⟩
  · have hout : ∀ i, i < many → st i ≠ t := fun i hi e => by
      rw [(B.2.2.2 _ _ hl hc).mpr ⟨i, hi, by rw [e], by rw [e]⟩] at hf
      cases hf
    have B1 := Bfs_add B.1 h1 hmv hd hout h4
    have B2 : TR mv s0 goal lay cel V (upd marks many (nI (131072 * mark + (16384 * d + (64 * lay t + cel t))))) (vp_updL visited (lay t) (visited (lay t) ||| ((1 : Int64) <<< (Int32.toInt64 (nI (cel t)) &&& 63)))) (ap many t st) (ap many (8 * cd mark + d) cd) (ap many (dp mark + 1) dp) (ap many mark par) (ap many d mvd) (many + 1) mark := by
      refine ⟨B1, fun i hi => ?_, fun i hi => ?_, fun l c hl2 hc2 => ?_⟩
      · rcases Nat.lt_or_ge i many with q | q
        · rw [ap_n q, ap_n q, ap_n q, u_n (by omega)]; exact B.2.1 i q
        · have q2 : i = many := by omega
          subst q2
          rw [ap_s, ap_s, ap_s, u_s]; exact ⟨hV, rfl⟩
      · rcases Nat.lt_or_ge i many with q | q
        · obtain ⟨w1, w2, w4, w3⟩ := B.2.2.1 i q
          rw [ap_n q, ap_n q, ap_n q, ap_n q, ap_n (by omega), ap_n (by omega)]
          exact ⟨w1, w2, w4, w3⟩
        · have q2 : i = many := by omega
          subst q2
          obtain ⟨-, -, w4, -⟩ := B.2.2.1 mark h1
          rw [ap_s, ap_s, ap_s, ap_s, ap_n h1, ap_n h1]
          exact ⟨hd, by omega, by omega, fun _ => ⟨h1, rfl, rfl⟩⟩
      · constructor
        · intro hx
          by_cases el : l = lay t
          · subst el
            rw [pk_uLs, bt_or, bt_one hc hc2] at hx
            simp only [Bool.or_eq_true, decide_eq_true_eq] at hx
            rcases hx with hx | hx
            · obtain ⟨i, i1, i2, i3⟩ := (B.2.2.2 _ _ hl2 hc2).mp hx
              exact ⟨i, by omega, by rw [ap_n i1]; exact i2, by rw [ap_n i1]; exact i3⟩
            · exact ⟨many, by omega, by rw [ap_s], by rw [ap_s]; exact hx.symm⟩
          · rw [pk_uLn el] at hx
            obtain ⟨i, i1, i2, i3⟩ := (B.2.2.2 _ _ hl2 hc2).mp hx
            exact ⟨i, by omega, by rw [ap_n i1]; exact i2, by rw [ap_n i1]; exact i3⟩
        · rintro ⟨i, i1, i2, i3⟩
          rcases Nat.lt_or_ge i many with q | q
          · rw [ap_n q] at i2 i3
            have hb := (B.2.2.2 _ _ hl2 hc2).mpr ⟨i, q, i2, i3⟩
            by_cases el : l = lay t
            · subst el
              rw [pk_uLs, bt_or, hb]; rfl
            · rw [pk_uLn el]; exact hb
          · have q2 : i = many := by omega
            subst q2
            rw [ap_s] at i2 i3
            subst i2 i3
            rw [pk_uLs, bt_or, bt_one hc hc2]
            simp
    have hle2 := TR_le hE B2
    refine br_t (nI_lt (b := 16384) (by omega) (by omega)) ⟨vI hl (by omega), vI hl (by omega), vI (by omega) (by omega), ?_⟩
    rw [cl (n := many) (by omega), mk_i (by omega) hd hl hc, nI_1 many]
    refine h _ _ _ ⟨_, _, _, _, _, B2, by omega, by rw [ap_n h1], by rw [ap_n h1], fun j hj => ?_, fun d' t' hd' hm' => ?_⟩
    · rcases Nat.lt_or_ge j many with q | q
      · rw [ap_n q]; have := h4 j q; omega
      · have q2 : j = many := by omega
        subst q2
        rw [ap_s]; omega
    · rcases Nat.lt_or_ge d' d with q | q
      · obtain ⟨j, j1, j2, j3⟩ := h5 d' t' q hm'
        exact ⟨j, by omega, by rw [ap_n j1]; exact j2, by rw [ap_n j1]; exact j3⟩
      · have : d' = d := by omega
        subst this
        rw [hmv] at hm'
        cases hm'
        exact ⟨many, by omega, ap_s, by rw [ap_s]; exact Nat.le_refl _⟩
  · obtain ⟨i, i1, i2, i3⟩ := (B.2.2.2 _ _ hl hc).mp ht
    have e1 : st i = t := hE.2 _ _ (B.2.1 i i1).1 hV i2 i3
    refine h _ _ _ ⟨st, cd, dp, par, mvd, B, h1, rfl, rfl, fun j hj => by have := h4 j hj; omega, fun d' t' hd' hm' => ?_⟩
    rcases Nat.lt_or_ge d' d with q | q
    · exact h5 d' t' q hm'
    · have : d' = d := by omega
      subst this
      rw [hmv] at hm'
      cases hm'
      exact ⟨i, i1, e1, Nat.le_of_lt (h4 i i1)⟩
theorem filll_z {f : Nat → Int64} {l : Nat} (hl : l < 256) : filll 256 (0 : Int64) f l = 0 := by simp [filll, hl]
/-- the first mark -/
theorem TO_first {mv : Nat → Nat → Option Nat} {s0 : Nat} {goal : Nat → Prop} {lay cel : Nat → Nat} {V : Nat → Prop} {marks : Nat → Int32} {visited : Nat → Int64} {x1 x2 : Int32} {Q : (Nat → Int32) → (Nat → Int64) → Int32 → Prop} (hE : Enc lay cel V) (hV : V s0) (hx1 : x1 = nI (lay s0)) (hx2 : x2 = nI (cel s0)) (h0 : ∀ l, l < 256 → visited l = 0) (h : ∀ marks' visited', TO mv s0 goal lay cel V marks' visited' 1 0 → Q marks' visited' 1) : P_tr_visit marks visited 0 x1 x2 4 0 Q := by
  subst hx1 hx2
  obtain ⟨hl, hc⟩ := hE.1 s0 hV
  unfold P_tr_visit
  rw [cl (n := lay s0) (by omega), h0 _ hl]
  refine ⟨vI hl (by omega), s_holds hc (brF (bt_0 _) ?_)⟩
  refine br_t (by decide) ⟨vI hl (by omega), vI hl (by omega), vI (n := 0) (by omega) (by omega), ?_⟩
  have mk := mk_i (m := 0) (d := 4) (by decide) (by decide) hl hc
  have mk' : ((((0 : Int32) <<< ((17 : Int32) &&& 31)) ||| ((4 : Int32) <<< ((14 : Int32) &&& 31))) ||| (nI (lay s0) <<< ((6 : Int32) &&& 31))) ||| nI (cel s0) = nI (131072 * 0 + (16384 * 4 + (64 * lay s0 + cel s0))) := mk
  rw [mk']
  refine h _ _ ⟨fun _ => s0, fun _ => 1, fun _ => 0, fun _ => 0, fun _ => 4, ⟨⟨⟨by omega, rfl, rfl, rfl⟩, fun i hi => ⟨rfl, rfl⟩, fun i j hij hj => by omega, fun i j hij hj => by omega, fun i d t hi => absurd hi (Nat.not_lt_zero _), fun i hi => absurd hi (Nat.not_lt_zero _)⟩, fun i hi => ?_, fun i hi => ⟨(by decide : 4 < 8), Nat.zero_le _, Nat.zero_le _, fun hp => by omega⟩, fun l c hl2 hc2 => ?_⟩, by omega, fun _ j _ => (by decide : 1 < 8 * 1)⟩
  · have : i = 0 := by omega
    subst this
    exact ⟨hV, u_s⟩
  · constructor
    · intro hx
      by_cases el : l = lay s0
      · subst el
        rw [pk_uLs, bt_or, bt_one hc hc2, bt_0] at hx
        simp only [Bool.false_or, decide_eq_true_eq] at hx
        exact ⟨0, by omega, rfl, hx.symm⟩
      · rw [pk_uLn el, h0 l hl2, bt_0] at hx; cases hx
    · rintro ⟨i, i1, i2, i3⟩
      subst i2 i3
      rw [pk_uLs, bt_or, bt_one hc hc2]
      simp
theorem TI_at {mv : Nat → Nat → Option Nat} {s0 : Nat} {goal : Nat → Prop} {lay cel : Nat → Nat} {V : Nat → Prop} {marks : Nat → Int32} {visited : Nat → Int64} {many mark c e d : Nat} (hE : Enc lay cel V) (B : TI mv s0 goal lay cel V marks visited many mark c e d) : V c ∧ many ≤ 16384 ∧ mark < many ∧ marks mark &&& (63 : Int32) = nI (cel c) ∧ (marks mark >>> ((6 : Int32) &&& 31)) &&& (255 : Int32) = nI (lay c) := by
  obtain ⟨st, cd, dp, par, mvd, B, h1, rfl, h3, h4, h5⟩ := B
  have hle := TR_le hE B
  obtain ⟨hV, hmk⟩ := B.2.1 mark h1
  obtain ⟨hl, hc⟩ := hE.1 _ hV
  obtain ⟨w1, w2, -, -⟩ := B.2.2.1 mark h1
  refine ⟨hV, hle, h1, ?_, ?_⟩
  · rw [hmk, pk_andN (by omega) 6 (by decide)]
    exact congrArg nI (by omega)
  · rw [hmk, pk_shrN (by omega) _ 6 (by decide), pk_andN (by omega) 8 (by decide)]
    exact congrArg nI (by omega)
/-- the way to a mark -/
def TC (marks : Nat → Int32) (m k e : Nat) : Prop := ∃ par mvd rst cd dp : Nat → Nat, m < 16384 ∧ dp m = k ∧ cd m = e ∧ dp 0 = 0 ∧ ∀ i, i ≤ m → dp i ≤ i ∧ (0 < i → mvd i < 8 ∧ par i < i ∧ cd i = 8 * cd (par i) + mvd i ∧ dp i = dp (par i) + 1 ∧ rst i < 16384 ∧ marks i = nI (131072 * par i + (16384 * mvd i + rst i)))
theorem TI_goal {mv : Nat → Nat → Option Nat} {s0 : Nat} {goal : Nat → Prop} {lay cel : Nat → Nat} {V : Nat → Prop} {marks : Nat → Int32} {visited : Nat → Int64} {many mark c e d : Nat} (hE : Enc lay cel V) (B : TI mv s0 goal lay cel V marks visited many mark c e d) (hg : goal c) : ∃ k, Best mv s0 goal k e ∧ TC marks mark k e := by
  obtain ⟨st, cd, dp, par, mvd, B, h1, rfl, rfl, h4, h5⟩ := B
  have hle := TR_le hE B
  refine ⟨dp mark, Bfs_goal B.1 h1 hg, par, mvd, fun i => 64 * lay (st i) + cel (st i), cd, dp, by omega, rfl, rfl, B.1.1.2.2.2, fun i hi => ?_⟩
  obtain ⟨w1, w2, w3, w4⟩ := B.2.2.1 i (by omega)
  refine ⟨w3, fun hp => ?_⟩
  obtain ⟨x1, x2, x3⟩ := w4 hp
  obtain ⟨hV, hmk⟩ := B.2.1 i (by omega)
  have := hE.1 _ hV
  exact ⟨w1, x1, x2, x3, by show 64 * lay (st i) + cel (st i) < 16384; omega, hmk⟩
theorem TO_none {mv : Nat → Nat → Option Nat} {s0 : Nat} {goal : Nat → Prop} {lay cel : Nat → Nat} {V : Nat → Prop} {marks : Nat → Int32} {visited : Nat → Int64} {many mark : Nat} (B : TO mv s0 goal lay cel V marks visited many mark) (hm : many ≤ mark) : NoWay mv s0 goal := by
  obtain ⟨st, cd, dp, par, mvd, B, -, -⟩ := B
  exact Bfs_none B.1 hm
theorem s_parent {marks : Nat → Int32} {i p d r : Nat} {Q : Int32 → Prop} (hi : i < 16384) (hp : p < i) (hd : d < 8) (hr : r < 16384) (hm : marks i = nI (131072 * p + (16384 * d + r))) (h : Q (nI p)) : P_tr_parentOf marks (nI i) Q := by
  unfold P_tr_parentOf
  rw [cl (n := i) (by omega), hm, pk_shrN (by omega) _ 17 (by decide), show (131072 * p + (16384 * d + r)) / 2 ^ 17 = p by omega]
  exact ⟨vI hi (by omega), h⟩
theorem s_movesTo {marks : Nat → Int32} {m k e : Nat} {Q : Int32 → Prop} (hT : TC marks m k e) (h : Q (nI k)) : P_tr_movesTo marks (nI m) Q := by
  obtain ⟨par, mvd, rst, cd, dp, hm, hk, he, h0, hs⟩ := hT
  unfold P_tr_movesTo
  refine br_f (nI_ne1 (by omega)) ?_
  have hdm := (hs m (Nat.le_refl _)).1
  have loop : ∀ (n cnt at_ : Nat), at_ < n → at_ ≤ m → cnt + dp at_ = k → L_tr_movesTo_12 marks Q n (nI cnt) (nI at_) := by
    intro n
    induction n with
    | zero => intro cnt at_ hx; omega
    | succ n ih =>
      intro cnt at_ hx ha hc
      unfold L_tr_movesTo_12
      obtain ⟨w1, w2⟩ := hs at_ ha
      rcases Nat.eq_zero_or_pos at_ with z | z
      · subst z
        rw [h0] at hc
        have : cnt = k := by omega
        subst this
        exact br_t (by decide) h
      · obtain ⟨v1, v2, v3, v4, v5, v6⟩ := w2 z
        refine br_f (nI_nle z (by omega)) (br_f (nI_ge (b := 16384) (by omega) (by omega)) (s_parent (by omega) v2 v1 v5 v6 ?_))
        rw [nI_1]
        exact ih (cnt + 1) (par at_) (by omega) (by omega) (by omega)
  exact ⟨m + 1, loop (m + 1) 0 m (by omega) (Nat.le_refl _) (by omega)⟩
theorem s_movesTo1 {marks : Nat → Int32} {Q : Int32 → Prop} (h : Q (-9)) : P_tr_movesTo marks (-1) Q := by
  unfold P_tr_movesTo
  exact br_t rfl h
/-- move i of a word -/
def dgt (k e i : Nat) : Nat := e / 8 ^ (k - 1 - i) % 8
theorem s_moveTo {marks : Nat → Int32} {m k e : Nat} {x : Int32} {Q : Int32 → Prop} (hT : TC marks m k e) (hn : isC k x = false → Q (-9)) (hy : ∀ i, i < k → x = nI i → Q (nI (dgt k e i))) : P_tr_moveTo marks (nI m) x Q := by
  unfold P_tr_moveTo
  refine s_movesTo hT ?_
  obtain ⟨par, mvd, rst, cd, dp, hm, hk, he, h0, hs⟩ := hT
  have hdm := (hs m (Nat.le_refl _)).1
  have hk31 : k < 2147483648 := by omega
  have key : ∀ i, i < k → x = nI i → ∃ n : Nat, L_tr_moveTo_26 marks Q n x (nI m) (nI k - 1) := by
    intro i hi hx
    subst hx
    rw [show (1 : Int32) = nI 1 from rfl, pk_sub (by omega)]
    have loop : ∀ (n nn at_ : Nat), nn - i < n → i ≤ nn → nn < k → at_ ≤ m → dp at_ = nn + 1 → cd at_ = e / 8 ^ (k - 1 - nn) → L_tr_moveTo_26 marks Q n (nI i) (nI at_) (nI nn) := by
      intro n
      induction n with
      | zero => intro nn at_ hx; omega
      | succ n ih =>
        intro nn at_ hx h1 hnk h2 h3 h4
        obtain ⟨w1, w2⟩ := hs at_ h2
        have z : 0 < at_ := by
          rcases Nat.eq_zero_or_pos at_ with z | z
          · subst z; omega
          · exact z
        obtain ⟨v1, v2, v3, v4, v5, v6⟩ := w2 z
        unfold L_tr_moveTo_26
        rcases Nat.lt_or_ge i nn with q | q
        · refine br_f (nI_ge q (by omega)) (s_parent (by omega) v2 v1 v5 v6 ?_)
          obtain ⟨z2, rfl⟩ : ∃ z2, nn = z2 + 1 := ⟨nn - 1, by omega⟩
          rw [pk_m1]
          refine ih z2 (par at_) (by omega) (by omega) (by omega) (by omega) (by omega) ?_
          rw [show k - 1 - z2 = (k - 1 - (z2 + 1)) + 1 by omega, Nat.pow_succ, ← Nat.div_div_eq_div_mul, ← h4, v3]
          omega
        · have : nn = i := by omega
          subst this
          refine br_t (nI_le (Nat.le_refl _) (by omega)) ?_
          unfold B_tr_moveTo_46 P_tr_moveAt
          rw [cl (n := at_) (by omega), v6, pk_shrN (by omega) _ 14 (by decide), pk_andN (by omega) 3 (by decide)]
          refine ⟨vI (by omega) (by omega), ?_⟩
          have e1 : (131072 * par at_ + (16384 * mvd at_ + rst at_)) / 2 ^ 14 % 2 ^ 3 = dgt k e nn := by
            unfold dgt
            rw [← h4, v3]
            omega
          rw [e1]
          exact hy nn hi rfl
    refine ⟨k + 1, loop (k + 1) (k - 1) m (by omega) (by omega) (by omega) (Nat.le_refl _) (by omega) ?_⟩
    rw [show k - 1 - (k - 1) = 0 by omega, Nat.pow_zero, Nat.div_one]
    exact he
  refine ⟨fun q => hn ?_, fun q => ⟨fun q2 => ?_, fun q2 => hn ?_⟩⟩
  · rw [ltz] at q
    exact decide_eq_false (by omega)
  · rw [ltz] at q
    rw [ltI, tI hk31] at q2
    obtain ⟨i, hi, hx⟩ := isC_of hk31 (x := x) (decide_eq_true ⟨by omega, q2⟩)
    exact key i hi hx
  · rw [ltI, tI hk31] at q2
    exact decide_eq_false (by omega)
theorem s_moveTo1 {marks : Nat → Int32} {x : Int32} {Q : Int32 → Prop} (h : Q (-9)) : P_tr_moveTo marks (-1) x Q := by
  unfold P_tr_moveTo
  refine s_movesTo1 ⟨fun _ => h, fun q => br_f (fun q2 => ?_) h⟩
  rw [ltz] at q
  rw [ltI] at q2
  have : (-9 : Int32).toInt = -9 := by decide
  omega
/-! the best way, from both sides -/
theorem Best_dist {mv : Nat → Nat → Option Nat} {s0 : Nat} {goal : Nat → Prop} {k e : Nat} (h : Best mv s0 goal k e) : Dist mv goal s0 k := by
  obtain ⟨⟨g, r, hg⟩, b⟩ := h
  refine ⟨?_, fun j hj => ?_⟩
  · obtain ⟨e1, s1, -, ⟨-, rfl⟩, h2⟩ := Rn_pre (n := k) (j := 0) (goal := goal) (by rw [Nat.zero_add]; exact r) hg
    exact h2
  · obtain ⟨e2, g2, r2, hg2⟩ := Rn_app (n := j) (k := 0) (e := 1) (s := s0) ⟨rfl, rfl⟩ hj
    rw [Nat.zero_add] at r2
    exact Rn_len r r2 (b _ _ _ r2 hg2)
theorem Greedy_ext {mv : Nat → Nat → Option Nat} {goal : Nat → Prop} {s0 K : Nat} (h0 : Dist mv goal s0 K) : ∀ (n j e s : Nat), j + n = K → Greedy mv goal s0 K j e s → ∃ e' s', Greedy mv goal s0 K K e' s' ∧ e' / 8 ^ n = e := by
  intro n
  induction n with
  | zero =>
    intro j e s hj h
    have : j = K := by omega
    subst this
    exact ⟨e, s, h, by simp⟩
  | succ n ih =>
    intro j e s hj h
    obtain ⟨d, t, hd, hm, hD, hl⟩ := Greedy_next h0 (by omega) h
    obtain ⟨e', s', g1, g2⟩ := ih (j + 1) (8 * e + d) t (by omega) ⟨e, d, s, hd, rfl, h, hm, hD, hl⟩
    refine ⟨e', s', g1, ?_⟩
    rw [Nat.pow_succ, ← Nat.div_div_eq_div_mul, g2]
    omega
theorem Greedy_dgt {mv : Nat → Nat → Option Nat} {goal : Nat → Prop} {s0 K eB j e s : Nat} (hB : Best mv s0 goal K eB) (hj : j < K) (h : Greedy mv goal s0 K (j + 1) e s) : dgt K eB j = e % 8 := by
  have h0 := Best_dist hB
  obtain ⟨e', s', g1, g2⟩ := Greedy_ext h0 (K - (j + 1)) (j + 1) e s (by omega) h
  have := (Best_one hB (Greedy_best h0 g1)).2
  subst this
  unfold dgt
  rw [show K - 1 - j = K - (j + 1) by omega, g2]
