/-! how far: a step to the cells beside -/
theorem adj_iff {w c q : Nat} (hw : 0 < w) : (((c % w : Nat) : Int) - ((q % w : Nat) : Int)).natAbs + (((c / w : Nat) : Int) - ((q / w : Nat) : Int)).natAbs = 1 ↔ (q = c + 1 ∧ c % w + 1 ≠ w) ∨ (c = q + 1 ∧ c % w ≠ 0) ∨ q = c + w ∨ c = q + w := by
  have ec := Nat.div_add_mod c w
  have eq := Nat.div_add_mod q w
  have lc := Nat.mod_lt c hw
  have lq := Nat.mod_lt q hw
  constructor
  · intro h
    have : (c / w = q / w ∧ (q % w = c % w + 1 ∨ c % w = q % w + 1)) ∨ (c % w = q % w ∧ (q / w = c / w + 1 ∨ c / w = q / w + 1)) := by
      generalize c % w = x1 at *
      generalize q % w = x2 at *
      generalize c / w = y1 at *
      generalize q / w = y2 at *
      omega
    rcases this with ⟨e, e2 | e2⟩ | ⟨e, e2 | e2⟩
    · rw [← e] at eq; exact Or.inl ⟨by omega, by omega⟩
    · rw [← e] at eq; exact Or.inr (Or.inl ⟨by omega, by omega⟩)
    · rw [e2, Nat.mul_succ] at eq; exact Or.inr (Or.inr (Or.inl (by omega)))
    · rw [e2, Nat.mul_succ] at ec; exact Or.inr (Or.inr (Or.inr (by omega)))
  · intro h
    rcases h with ⟨h, h2⟩ | ⟨h, h2⟩ | h | h
    · have m := md (y := c / w) (w := w) (x := c % w + 1) (by omega)
      have e : q = c / w * w + (c % w + 1) := by rw [Nat.mul_comm]; omega
      rw [e, m.1, m.2]
      omega
    · have m := md (y := c / w) (w := w) (x := c % w - 1) (by omega)
      have e : q = c / w * w + (c % w - 1) := by rw [Nat.mul_comm]; omega
      rw [e, m.1, m.2]
      omega
    · rw [h, Nat.add_mod_right, Nat.add_div_right _ hw]
      omega
    · rw [h, Nat.add_mod_right, Nat.add_div_right _ hw]
      omega
theorem nbr_sym {a : Abs} {x y : Nat} (h : nbr a x y = true) : nbr a y x = true := by
  unfold nbr at *
  simp only [Bool.and_eq_true, decide_eq_true_eq] at *
  obtain ⟨⟨h1, h2⟩, h3⟩ := h
  refine ⟨⟨?_, h3⟩, h2⟩
  rw [← Int.natAbs_neg, ← Int.natAbs_neg (((y / aW a : Nat) : Int) - _), Int.neg_sub, Int.neg_sub]
  exact h1
theorem nbr_std {a : Abs} {x y : Nat} (h : nbr a x y = true) : std a x = true ∧ std a y = true := by
  unfold nbr at h
  simp only [Bool.and_eq_true] at h
  exact ⟨h.1.2, h.2⟩
def onB (a : Abs) (b : Int64) : Prop := ∀ q, q < 64 → bt b q = true → q < aN a ∧ std a q = true
theorem s_spread {a : Abs} {gw gh gz : Int32} {gc gr gk : Nat → Int32} {fc lc f c2 st b : Int64} {Q : Int64 → Prop} (hA : AOk a) (hs : IGs a gw gh gz gc gr fc lc) (hk : IGk a gk f c2 st) (hb : onB a b) (h : ∀ b', (∀ q, q < 64 → (bt b' q = true ↔ q < aN a ∧ std a q = true ∧ (bt b q = true ∨ ∃ c, c < aN a ∧ bt b c = true ∧ nbr a c q = true))) → Q b') : P_gr_spread gw st fc lc b Q := by
  obtain ⟨-, hn⟩ := aN_le hA
  have hW := hA.1
  obtain ⟨s1, s2, s3, s4, s5, s6, s7⟩ := id hs
  subst s1
  unfold P_gr_spread
  rintro _ rfl
  refine h _ (fun q hq => ?_)
  have hbig : ∀ i, 64 ≤ i → bt b i = false := fun i hi => bt_big b hi
  have one : (1 : Int32) = nI 1 := rfl
  rw [bt_and, bt_or, bt_or, bt_or, bt_or, one, bt_shl _ (k := 1) (by omega) hq, bt_and, bt_ushr _ (k := 1) (by omega), bt_and, bt_shl _ (k := aW a) (by omega) hq, bt_ushr _ (k := aW a) (by omega), hk.2.2.2 q hq, bt_not lc (i := q - 1) (by omega), s7 (q - 1) (by omega)]
  have e1 : (bt b (1 + q) && bt (fc ^^^ (-1)) (1 + q)) = (bt b (1 + q) && !(decide (1 + q < aN a) && decide ((1 + q) % aW a = 0))) := by
    rcases Nat.lt_or_ge (1 + q) 64 with g | g
    · rw [bt_not fc g, s6 _ g]
    · rw [hbig _ g]; rfl
  rw [e1]
  have hbl : ∀ i, bt b i = true → i < 64 ∧ i < aN a ∧ std a i = true := by
    intro i hi
    rcases Nat.lt_or_ge i 64 with g | g
    · exact ⟨g, hb i g hi⟩
    · rw [hbig i g] at hi; cases hi
  have hw : 0 < aW a := by omega
  have nb : ∀ c, bt b c = true → std a q = true → ((q = c + 1 ∧ c % aW a + 1 ≠ aW a) ∨ (c = q + 1 ∧ c % aW a ≠ 0) ∨ q = c + aW a ∨ c = q + aW a) → ∃ c, c < aN a ∧ bt b c = true ∧ nbr a c q = true := by
    intro c hc hsq hadj
    obtain ⟨-, h2, h3⟩ := hbl c hc
    refine ⟨c, h2, hc, ?_⟩
    unfold nbr
    rw [decide_eq_true ((adj_iff hw).mpr hadj), h3, hsq]
    rfl
  constructor
  · intro hx
    simp only [Bool.and_eq_true, Bool.or_eq_true, decide_eq_true_eq, Bool.not_eq_true', Bool.and_eq_false_iff, decide_eq_false_iff_not] at hx
    obtain ⟨hx, hqn, hqs⟩ := hx
    refine ⟨hqn, hqs, ?_⟩
    rcases hx with ((hx | hx | hx) | hx) | hx
    · exact Or.inl hx
    · obtain ⟨g1, g2, g3⟩ := hx
      have := hbl _ g2
      exact Or.inr (nb (q - 1) g2 hqs (Or.inl ⟨by omega, by
        rcases g3 with g3 | g3
        · omega
        · exact g3⟩))
    · obtain ⟨g2, g3⟩ := hx
      have := hbl _ g2
      exact Or.inr (nb (1 + q) g2 hqs (Or.inr (Or.inl ⟨by omega, by
        rcases g3 with g3 | g3
        · omega
        · exact g3⟩)))
    · exact Or.inr (nb (q - aW a) hx.2 hqs (Or.inr (Or.inr (Or.inl (by omega)))))
    · exact Or.inr (nb (aW a + q) hx hqs (Or.inr (Or.inr (Or.inr (by omega)))))
  · rintro ⟨hqn, hqs, hx⟩
    simp only [Bool.and_eq_true, Bool.or_eq_true, decide_eq_true_eq, Bool.not_eq_true', Bool.and_eq_false_iff, decide_eq_false_iff_not]
    refine ⟨?_, hqn, hqs⟩
    rcases hx with hx | ⟨c, h1, h2, h3⟩
    · exact Or.inl (Or.inl (Or.inl hx))
    · unfold nbr at h3
      simp only [Bool.and_eq_true, decide_eq_true_eq] at h3
      rcases (adj_iff hw).mp h3.1.1 with ⟨e, e2⟩ | ⟨e, e2⟩ | e | e
      · refine Or.inl (Or.inl (Or.inr (Or.inl ⟨by omega, ?_, Or.inr ?_⟩)))
        · rw [show q - 1 = c by omega]; exact h2
        · rw [show q - 1 = c by omega]; exact e2
      · refine Or.inl (Or.inl (Or.inr (Or.inr ⟨?_, Or.inr ?_⟩)))
        · rw [show 1 + q = c by omega]; exact h2
        · rw [show 1 + q = c by omega]; exact e2
      · refine Or.inl (Or.inr ⟨by omega, ?_⟩)
        rw [show q - aW a = c by omega]; exact h2
      · refine Or.inr ?_
        rw [show aW a + q = c by omega]; exact h2
def fstp (a : Abs) (s d : Nat) : Option Nat := if s < aN a ∧ d < 4 then bsd a s d else none
def fgoal (a : Abs) (p s : Nat) : Prop := s = p ∧ p < aN a ∧ std a p = true
theorem fstp_nbr {a : Abs} (hA : AOk a) {s d t : Nat} (h : fstp a s d = some t) : s < aN a ∧ t < aN a ∧ nbr a s t = true := by
  unfold fstp at h
  by_cases e : s < aN a ∧ d < 4
  · rw [if_pos e] at h
    have ht : t < aN a := by
      have h2 := h
      unfold bsd at h2
      split at h2
      · exact (stp_some h2).1
      · cases h2
    exact ⟨e.1, ht, (nbr_iff hA e.1 ht).mpr ⟨d, e.2, h⟩⟩
  · rw [if_neg e] at h; cases h
theorem nbr_fstp {a : Abs} (hA : AOk a) {s t : Nat} (hs : s < aN a) (ht : t < aN a) (h : nbr a s t = true) : ∃ d, d < 4 ∧ fstp a s d = some t := by
  obtain ⟨d, h1, h2⟩ := (nbr_iff hA hs ht).mp h
  exact ⟨d, h1, by unfold fstp; rw [if_pos ⟨hs, h1⟩]; exact h2⟩
theorem fGd_std {a : Abs} (hA : AOk a) {p : Nat} : ∀ {k q : Nat}, Gd (fstp a) (fgoal a p) k q → q < aN a ∧ std a q = true
  | 0, q, h => by obtain ⟨rfl, h1, h2⟩ := h; exact ⟨h1, h2⟩
  | k + 1, q, h => by
    obtain ⟨d, t, -, h1, -⟩ := h
    obtain ⟨h2, -, h3⟩ := fstp_nbr hA h1
    exact ⟨h2, (nbr_std h3).1⟩
theorem s_steps {a : Abs} {gw gh gz : Int32} {gc gr gk : Nat → Int32} {fc lc f c2 st : Int64} {p t : Nat} {Q : Int32 → Prop} (hA : AOk a) (hs : IGs a gw gh gz gc gr fc lc) (hk : IGk a gk f c2 st) (hp : p < aN a) (ht : t < aN a) (h1 : (∀ j, j < aN a → ¬ Gd (fstp a) (fgoal a p) j t) → Q (-9)) (h2 : ∀ k, k < aN a → Dist (fstp a) (fgoal a p) t k → Q (nI k)) : P_gr_stepsBetween gw gz st fc lc (nI p) (nI t) Q := by
  obtain ⟨-, hn⟩ := aN_le hA
  have hz : gz = nI (aN a) := hs.2.2.1
  unfold P_gr_stepsBetween
  rintro _ rfl
  refine cnt0 (fun n i (s : Int64) => L_gr_stepsBetween_12 gw gz st fc lc Q n (nI t) s (nI i)) (aN a) (fun i s => (∀ q, q < 64 → (bt s q = true ↔ ∃ j, j ≤ i ∧ Gd (fstp a) (fgoal a p) j q)) ∧ ∀ j, j < i → ¬ Gd (fstp a) (fgoal a p) j t) _ ⟨fun q hq => ?_, fun j hj => absurd hj (Nat.not_lt_zero _)⟩ ?_ ?_
  · rw [bt_and, bt_one (by omega) hq, hk.2.2.2 q hq]
    simp only [Bool.and_eq_true, decide_eq_true_eq]
    constructor
    · rintro ⟨rfl, h3, h4⟩; exact ⟨0, Nat.le_refl _, rfl, h3, h4⟩
    · rintro ⟨j, hj, hg⟩
      have : j = 0 := by omega
      subst this
      obtain ⟨rfl, h3, h4⟩ := hg
      exact ⟨rfl, h3, h4⟩
  · rintro n s ⟨hI1, hI2⟩
    unfold L_gr_stepsBetween_12
    rw [hz]
    exact br_t (nI_le (Nat.le_refl _) (by omega)) (h1 hI2)
  · rintro n i s hi ⟨hI1, hI2⟩ ih
    unfold L_gr_stepsBetween_12
    rw [nI_1 i]
    refine br_f (by rw [hz]; exact nI_ge hi (by omega)) (s_holds (by omega) (brB (fun hf => ?_) (fun htt => ?_)))
    · have hnot : ∀ j, j ≤ i → ¬ Gd (fstp a) (fgoal a p) j t := fun j hj hg => by
        rw [(hI1 t (by omega)).mpr ⟨j, hj, hg⟩] at hf; cases hf
      refine s_spread hA hs hk (fun q hq hbq => ?_) (fun b' hb' => ih b' ⟨fun q hq => ?_, fun j hj => hnot j (by omega)⟩)
      · obtain ⟨j, -, hg⟩ := (hI1 q hq).mp hbq
        exact fGd_std hA hg
      · rw [hb' q hq]
        constructor
        · rintro ⟨h3, h4, h5 | ⟨c, h5, h6, h7⟩⟩
          · obtain ⟨j, hj, hg⟩ := (hI1 q hq).mp h5
            exact ⟨j, by omega, hg⟩
          · obtain ⟨j, hj, hg⟩ := (hI1 c (by omega)).mp h6
            obtain ⟨d, hd, hm⟩ := nbr_fstp hA h3 h5 (nbr_sym h7)
            exact ⟨j + 1, by omega, d, c, by omega, hm, hg⟩
        · rintro ⟨j, hj, hg⟩
          have hq2 := fGd_std hA hg
          refine ⟨hq2.1, hq2.2, ?_⟩
          cases j with
          | zero => exact Or.inl ((hI1 q hq).mpr ⟨0, Nat.zero_le _, hg⟩)
          | succ j =>
            obtain ⟨d, c, hd, hm, hg2⟩ := hg
            obtain ⟨g1, g2, g3⟩ := fstp_nbr hA hm
            exact Or.inr ⟨c, g2, (hI1 c (by omega)).mpr ⟨j, by omega, hg2⟩, nbr_sym g3⟩
    · obtain ⟨j, hj, hg⟩ := (hI1 t (by omega)).mp htt
      have hji : j = i := by
        rcases Nat.lt_or_ge j i with q | q
        · exact absurd hg (hI2 j q)
        · omega
      subst hji
      exact h2 j hi ⟨hg, fun k hk2 => by
        rcases Nat.lt_or_ge k j with q | q
        · exact absurd hk2 (hI2 k q)
        · exact q⟩
theorem s_layFar {a : Abs} {mw mt : Int32} {mk mq mf : Nat → Int32} {p : Nat} {Q : (Nat → Int32) → (Nat → Int32) → Prop} (hA : AOk a) (hm : ∀ c, c < aN a → mk c = nI (aKd a c)) (h1 : mw = nI (aW a)) (h2 : mt = nI (aH a)) (hp : p < aN a) (hsp : std a p = true) (h : ∀ q D, DT (fstp a) (fgoal a p) (aN a) D → Q q D) : P_mo_layFar mw mt mk mq mf (nI p) Q := by
  obtain ⟨-, hn⟩ := aN_le hA
  have outer : ∀ (n mark many : Nat) (q D : Nat → Int32), aN a - mark < n → mark ≤ many → (∃ st dp, BQ (fstp a) (fgoal a p) (aN a) q D st dp many mark) → L_mo_layFar_40 mw mt mk Q n q D (nI many) (nI mark) := by
    intro n
    induction n with
    | zero => intro mark many q D hx; omega
    | succ n ih =>
      rintro mark many q D hx hml ⟨st, dp, B⟩
      have hle := BQ_le B
      unfold L_mo_layFar_40
      rcases Nat.lt_or_ge mark many with hmk | hmk
      · refine br_f (nI_ge hmk (by omega)) ?_
        obtain ⟨c, b, BI0⟩ := BI_start B hmk
        refine cnt0 (fun n' d (s : (Nat → Int32) × (Nat → Int32) × Nat) => L_mo_layFar_48 mw mt mk Q (L_mo_layFar_40 mw mt mk Q n) n' s.1 s.2.1 (nI s.2.2) (nI mark) (nI d)) 4 (fun d s => BI (fstp a) (fgoal a p) (aN a) s.1 s.2.1 s.2.2 mark c b (fun x => ∃ d', d' < d ∧ bsd a c d' = some x)) (q, D, many) (BI_sub BI0 (fun x hx => by obtain ⟨d', hd, -⟩ := hx; omega)) ?_ ?_
        · rintro n' ⟨q', D', many'⟩ hB
          unfold L_mo_layFar_48
          refine br_t (nI_le (a := 4) (b := 4) (Nat.le_refl _) (by omega)) ?_
          rw [nI_1 mark]
          have hc := BI_at hB
          have hc7 : mark < many' := hc.2.2.2.2.2.2
          refine ih (mark + 1) many' q' D' (by omega) (by omega) (BI_end hB (fun d s hd hmv => ?_))
          obtain ⟨g1, g2, g3⟩ := fstp_nbr hA hmv
          exact (nbr_iff hA g2 g1).mp (nbr_sym g3)
        · rintro n' d ⟨q', D', many'⟩ hd hB ih2
          have hat := BI_at hB
          simp only at hat
          obtain ⟨k1, k2, k3, k4, k5, k6, k7⟩ := hat
          unfold L_mo_layFar_48
          simp only
          rw [nI_1 d, cl (n := mark) (by omega), k1]
          refine br_f (nI_ge (b := 4) hd (by omega)) ⟨vI (by omega) (by omega), s_beside hA hm h1 h2 k3 hd ?_⟩
          cases hb : bsd a c d with
          | none =>
            refine br_t rfl (ih2 (q', D', many') (BI_sub hB (fun x hx => ?_)))
            obtain ⟨d', g1, g2⟩ := hx
            rcases Nat.lt_or_ge d' d with g | g
            · exact ⟨d', g, g2⟩
            · have : d' = d := by omega
              subst this
              rw [hb] at g2; cases g2
          | some x =>
            have hnb : ∃ d2, d2 < 4 ∧ fstp a x d2 = some c ∧ x < aN a := by
              have hfm : fstp a c d = some x := by unfold fstp; rw [if_pos ⟨k3, hd⟩]; exact hb
              obtain ⟨g1, g2, g3⟩ := fstp_nbr hA hfm
              obtain ⟨d2, e1, e2⟩ := nbr_fstp hA g2 g1 (nbr_sym g3)
              exact ⟨d2, e1, e2, g2⟩
            obtain ⟨d2, hd2, hm2, hx⟩ := hnb
            show (nI x = -9 → _) ∧ _
            have sub : ∀ y, (∃ d', d' < d + 1 ∧ bsd a c d' = some y) → (∃ d', d' < d ∧ bsd a c d' = some y) ∨ y = x := by
              rintro y ⟨d', g1, g2⟩
              rcases Nat.lt_or_ge d' d with g | g
              · exact Or.inl ⟨d', g, g2⟩
              · have : d' = d := by omega
                subst this
                rw [hb] at g2
                exact Or.inr (Option.some.inj g2).symm
            refine br_f (nI_ne9 (by omega)) ⟨vI (by omega) (by omega), ?_⟩
            rw [show oI (-9) (some x) = nI x from rfl, cl (n := x) (by omega)]
            refine ⟨fun e => ?_, fun e => ih2 (q', D', many') (BI_sub (BI_old hB hx e) sub)⟩
            obtain ⟨w1, w2⟩ := BI_new hB (by omega) hx e ⟨d2, c, by omega, hm2, k5⟩
            refine ⟨vI (by omega) (by omega), vI (by omega) (by omega), vI (by omega) (by omega), vI (by omega) (by omega), ?_⟩
            have w1' : many' < aN a := w1
            rw [cl (n := many') (by omega), cl (n := c) (by omega), k2, nI_1, nI_1]
            exact ih2 (_, _, _) (BI_sub w2 sub)
      · exact br_t (nI_le hmk (by omega)) (h q D (BQ_end B hmk))
  unfold P_mo_layFar
  refine cnt0 (fun n i (s : Nat → Int32) => L_mo_layFar_2 mw mt mk Q n mq s (nI p) (nI i)) 64 (fun i s => ∀ c, c < i → s c = -9) mf (fun c hc => absurd hc (Nat.not_lt_zero _)) ?_ ?_
  · intro n s hI
    unfold L_mo_layFar_2 B_mo_layFar_22
    rw [cl (n := p) (by omega)]
    refine br_t (nI_le (a := 64) (b := 64) (Nat.le_refl _) (by omega)) ⟨vI (by omega) (by omega), vI (n := 0) (by omega) (by omega), aN a + 1, ?_⟩
    refine outer (aN a + 1) 0 1 _ _ (by omega) (by omega) ⟨fun _ => p, fun _ => 0, ⟨fun i hi => ?_, fun x hx hno => ?_⟩, ⟨fun g hg => ⟨0, by omega, hg.1.symm, rfl⟩, fun i hi => ⟨rfl, hp, hsp⟩, fun i j hij hj => by omega, fun i j _ _ => Nat.le_refl _, fun i d x hi => absurd hi (Nat.not_lt_zero _)⟩, fun i _ => Nat.zero_le _, fun j _ _ => Nat.zero_le _⟩
    · have : i = 0 := by omega
      subst this
      exact ⟨u_s, hp, u_s⟩
    · rw [u_n (fun e => hno 0 (by omega) e.symm)]
      exact hI x (by omega)
  · intro n i s hi hI ih
    unfold L_mo_layFar_2
    rw [nI_1 i, cl (n := i) (by omega)]
    refine br_f (nI_ge (b := 64) hi (by omega)) ⟨vI hi (by omega), ih _ (fun c hc => ?_)⟩
    by_cases e : c = i
    · subst e; rw [u_s]
    · rw [u_n e]; exact hI c (by omega)
theorem op_far {gr_width : Int32} {gr_height : Int32} {gr_size : Int32} {gr_kinds : Nat → Int32} {gr_columns : Nat → Int32} {gr_rows : Nat → Int32} {gr_floorCells : Int64} {gr_clearCells : Int64} {gr_standCells : Int64} {gr_firstColumn : Int64} {gr_lastColumn : Int64} {pi_cells : Nat → Int32} {pi_facings : Nat → Int32} {pi_size : Int32} {ro_cells : Nat → Int32} {ro_lengths : Nat → Int32} {ro_shifts : Nat → Int32} {si_sightLaw : Int32} {si_sightRange : Int32} {mo_wide : Int32} {mo_tall : Int32} {mo_kind : Nat → Int32} {mo_law : Int32} {mo_range : Int32} {mo_queue : Nat → Int32} {mo_far : Nat → Int32} {mo_pictures : Int32} {mo_pictureCell : Nat → Int32} {mo_facing : Nat → Int32} {mo_roundMany : Nat → Int32} {mo_round : Nat → Int32} {mo_shift : Nat → Int32} (hR : Rel gr_width gr_height gr_size gr_columns gr_rows gr_firstColumn gr_lastColumn gr_kinds gr_floorCells gr_clearCells gr_standCells pi_cells pi_facings pi_size ro_cells ro_lengths ro_shifts si_sightLaw si_sightRange mo_wide mo_tall mo_kind mo_law mo_range mo_pictures mo_pictureCell mo_facing mo_roundMany mo_round mo_shift) (a1 a2 : Int32) : P_wh_far gr_width gr_size gr_standCells gr_firstColumn gr_lastColumn a1 a2 (fun r1 => P_mo_far mo_wide mo_tall mo_kind mo_queue mo_far a1 a2 (fun r2 mo_queue' mo_far' => r1 = r2 ∧ Rel gr_width gr_height gr_size gr_columns gr_rows gr_firstColumn gr_lastColumn gr_kinds gr_floorCells gr_clearCells gr_standCells pi_cells pi_facings pi_size ro_cells ro_lengths ro_shifts si_sightLaw si_sightRange mo_wide mo_tall mo_kind mo_law mo_range mo_pictures mo_pictureCell mo_facing mo_roundMany mo_round mo_shift)) := by
  obtain ⟨a, hA, hGs, hGk, hPi, hRo, hSi, hM⟩ := id hR
  obtain ⟨m1, m2, m3, m4, m5, m6, m7, m8, m9, m10, m11⟩ := id hM
  obtain ⟨hn4, hn⟩ := aN_le hA
  have hnw : aW a * aH a < 1073741824 := by unfold aN at hn; omega
  have hnp : aNp a ≤ 8 := hA.2.2.2.2.2.1
  unfold P_wh_far
  refine s_gc hGs.2.2.1 (by omega) (brB (fun hf => ?_) (fun ht => ?_))
  · unfold P_mo_far
    exact s_mc m1 m2 hnw (brF hf ⟨rfl, hR⟩)
  · refine s_gc hGs.2.2.1 (by omega) (brB (fun hf2 => ?_) (fun ht2 => ?_))
    · unfold P_mo_far
      exact s_mc m1 m2 hnw (brT ht (s_mc m1 m2 hnw (brF hf2 ⟨rfl, hR⟩)))
    · obtain ⟨p, hp, rfl⟩ := isC_of (by omega) ht
      obtain ⟨q, hq, rfl⟩ := isC_of (by omega) ht2
      refine s_steps hA hGs hGk hp hq (fun hno => ?_) (fun k hk hD => ?_)
      · unfold P_mo_far
        refine s_mc m1 m2 hnw (brT ht (s_mc m1 m2 hnw (brT ht2 (s_mstands hA m3 hp (brB (fun g => ⟨rfl, hR⟩) (fun g => s_mstands hA m3 hq (brB (fun g2 => ⟨rfl, hR⟩) (fun g2 => s_layFar hA m3 m1 m2 hp g (fun qq D hDT => ⟨vI (by omega) (by omega), ?_⟩)))))))))
        rw [cl (n := q) (by omega)]
        rcases hDT q hq with ⟨e, -⟩ | ⟨k, -, e2, e3⟩
        · exact ⟨e.symm, hR⟩
        · exact absurd e2.1 (hno k e3)
      · have hst := fGd_std hA hD.1
        have hsp : std a p = true := by
          have : ∀ {k s}, Gd (fstp a) (fgoal a p) k s → std a p = true := by
            intro k
            induction k with
            | zero => intro s h; exact h.2.2
            | succ k ih => intro s h; obtain ⟨-, t, -, -, h⟩ := h; exact ih h
          exact this hD.1
        unfold P_mo_far
        refine s_mc m1 m2 hnw (brT ht (s_mc m1 m2 hnw (brT ht2 (s_mstands hA m3 hp (brT hsp (s_mstands hA m3 hq (brT hst.2 (s_layFar hA m3 m1 m2 hp hsp (fun qq D hDT => ⟨vI (by omega) (by omega), ?_⟩)))))))))
        rw [cl (n := q) (by omega)]
        rcases hDT q hq with ⟨-, e⟩ | ⟨k2, e1, e2, -⟩
        · exact absurd hD.1 (e k)
        · rw [e1, Dist_one hD e2]; exact ⟨rfl, hR⟩
