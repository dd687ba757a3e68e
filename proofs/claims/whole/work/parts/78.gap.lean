/-! how long a picture is out of sight -/
noncomputable def is1 (a : Abs) (k p t : Nat) : Bool := match plc a k t with
  | none => false
  | some x => sPic a p x
noncomputable def isN (a : Abs) (p t : Nat) : Nat → Bool
  | 0 => false
  | k + 1 => isN a p t k || is1 a k p t
noncomputable def ins (a : Abs) (p t : Nat) : Bool := isN a p t 4
theorem sPic_std {a : Abs} {p c : Nat} (h : sPic a p c = true) : std a c = true := by
  unfold sPic at h
  rw [Bool.and_eq_true] at h
  exact sees_std h.2
theorem ins_per {a : Abs} {p t : Nat} : ins a p (t % per a) = ins a p t := by
  have : ∀ k, k ≤ 4 → isN a p (t % per a) k = isN a p t k := by
    intro k
    induction k with
    | zero => intro _; rfl
    | succ k ih =>
      intro hk
      unfold isN is1
      rw [ih (by omega), plc_per (by omega)]
  exact this 4 (by omega)
theorem ins_eq {a : Abs} {p t t' : Nat} (h : t % per a = t' % per a) : ins a p t = ins a p t' := by rw [← ins_per, h, ins_per]
def Run (a : Abs) (p L : Nat) : Prop := ∃ s, ∀ i, i < L → ins a p (s + i) = false
theorem Run_0 {a : Abs} {p : Nat} : Run a p 0 := ⟨0, fun i hi => absurd hi (Nat.not_lt_zero _)⟩
theorem Run_mono {a : Abs} {p L L' : Nat} (hl : L' ≤ L) (h : Run a p L) : Run a p L' := by
  obtain ⟨s, hs⟩ := h
  exact ⟨s, fun i hi => hs i (by omega)⟩
theorem Run_start {a : Abs} (hA : AOk a) {p L : Nat} (h : Run a p L) : ∃ s, s < per a ∧ ∀ i, i < L → ins a p (s + i) = false := by
  obtain ⟨s, hs⟩ := h
  refine ⟨s % per a, Nat.mod_lt _ (per_pos hA), fun i hi => ?_⟩
  rw [← hs i hi]
  exact ins_eq (by rw [Nat.mod_add_mod])
theorem Run_lt {a : Abs} (hA : AOk a) {p L : Nat} (hx : ∃ t, ins a p t = true) (h : Run a p L) : L < per a := by
  have hP := per_pos hA
  obtain ⟨t0, ht0⟩ := hx
  obtain ⟨s, hs1, hs⟩ := Run_start hA h
  rcases Nat.lt_or_ge L (per a) with q | q
  · exact q
  · exfalso
    have hb : t0 % per a < per a := Nat.mod_lt _ hP
    have key : ∃ i, i < per a ∧ (s + i) % per a = t0 % per a := by
      rcases Nat.lt_or_ge (t0 % per a) s with g | g
      · refine ⟨t0 % per a + per a - s, by omega, ?_⟩
        rw [show s + (t0 % per a + per a - s) = t0 % per a + per a by omega, Nat.add_mod_right, Nat.mod_mod]
      · refine ⟨t0 % per a - s, by omega, ?_⟩
        rw [show s + (t0 % per a - s) = t0 % per a by omega, Nat.mod_mod]
    obtain ⟨i, i1, i2⟩ := key
    have := hs i (by omega)
    rw [ins_eq i2, ht0] at this
    cases this
def GapIs (a : Abs) (p M : Nat) : Prop := (∃ t, ins a p t = true) ∧ Run a p M ∧ ¬ Run a p (M + 1)
theorem GapIs_one {a : Abs} {p M M' : Nat} (h : GapIs a p M) (h' : GapIs a p M') : M = M' := by
  rcases Nat.lt_trichotomy M M' with q | q | q
  · exact absurd (Run_mono q h'.2.1) h.2.2
  · exact q
  · exact absurd (Run_mono q h.2.1) h'.2.2
theorem GapIs_ex {a : Abs} (hA : AOk a) {p : Nat} (hx : ∃ t, ins a p t = true) : ∃ M, GapIs a p M := by
  have hex : ∃ M, ¬ Run a p (M + 1) := ⟨per a, fun h => by have := Run_lt hA hx h; omega⟩
  obtain ⟨M, hM, hl⟩ := pk_least (fun M => ¬ Run a p (M + 1)) hex
  refine ⟨M, hx, ?_, hM⟩
  rcases Nat.eq_zero_or_pos M with z | z
  · subst z; exact Run_0
  · apply Classical.byContradiction
    intro hno
    exact hl (M - 1) (by omega) (by rw [show M - 1 + 1 = M by omega]; exact hno)
noncomputable def gO (a : Abs) (p : Nat) : Option Nat := @dite (Option Nat) (∃ M, GapIs a p M) (Classical.propDecidable _) (fun h => some (Classical.choose h)) (fun _ => none)
theorem gO_some {a : Abs} {p M : Nat} (h : GapIs a p M) : gO a p = some M := by
  unfold gO
  rw [dif_pos ⟨M, h⟩]
  exact congrArg some (GapIs_one (Classical.choose_spec (⟨M, h⟩ : ∃ M, GapIs a p M)) h)
theorem gO_none {a : Abs} {p : Nat} (h : ∀ t, ins a p t = false) : gO a p = none := by
  unfold gO
  rw [dif_neg]
  rintro ⟨M, ⟨t, ht⟩, -⟩
  rw [h t] at ht; cases ht
theorem gO_lt {a : Abs} (hA : AOk a) {p M : Nat} (h : gO a p = some M) : M < 60 := by
  have hP := per_le hA
  unfold gO at h
  by_cases e : ∃ M, GapIs a p M
  · rw [dif_pos e] at h
    cases h
    obtain ⟨h1, h2, -⟩ := Classical.choose_spec e
    have := Run_lt hA h1 h2
    omega
  · rw [dif_neg e] at h; cases h
/-! the reference's count -/
theorem s_isInSight {a : Abs} {mw ml mr : Int32} {mk mpc mf rm ro sh : Nat → Int32} {p t : Nat} {Q : Int32 → Prop} (hA : AOk a) (hm : ∀ c, c < aN a → mk c = nI (aKd a c)) (h1 : mw = nI (aW a)) (h4 : ml = nI (aLw a)) (h5 : mr = nI (aRg a)) (m7 : ∀ p, p < aNp a → mpc p = nI (aPc a p)) (m8 : ∀ p, p < aNp a → mf p = nI (aPf a p)) (m9 : ∀ k, k < 4 → rm k = nI (aRl a k)) (m10 : ∀ k i, k < 4 → i < aRl a k → ro (6 * k + i) = nI (aRc a k i)) (m11 : ∀ k, k < 4 → sh k = nI (aRs a k)) (hp : p < aNp a) (ht : t ≤ 9999) (h : Q (bI (ins a p t))) : P_mo_isInSight mw mk ml mr mpc mf rm ro sh (nI p) (nI t) Q := by
  obtain ⟨-, hn⟩ := aN_le hA
  unfold P_mo_isInSight
  refine cnt0 (fun n i (s : Int32) => L_mo_isInSight_5 mw mk ml mr mpc mf rm ro sh Q n (nI p) (nI t) s (nI i)) 4 (fun i s => s = bI (isN a p t i)) 0 rfl ?_ ?_
  · rintro n _ rfl
    unfold L_mo_isInSight_5
    exact br_t (nI_le (a := 4) (b := 4) (Nat.le_refl _) (by omega)) ⟨bI_01 _, h⟩
  · rintro n i _ hi rfl ih
    unfold L_mo_isInSight_5
    rw [nI_1 i]
    have es : isN a p t (i + 1) = (isN a p t i || is1 a i p t) := rfl
    refine br_f (nI_ge (b := 4) hi (by omega)) (s_whereAt hA m9 m10 m11 hi ht (brB (fun hf => ?_) (fun htt => ih _ (by rw [es, htt]; rfl))))
    cases hpl : plc a i t with
    | none =>
      refine br_t rfl (ih _ ?_)
      rw [es, hf]; unfold is1; rw [hpl]; rfl
    | some x =>
      have hx := plc_lt hA hi hpl
      have e1 : is1 a i p t = sPic a p x := by unfold is1; rw [hpl]
      refine br_f (nI_ne9 (by omega)) (s_mstands hA hm hx (brB (fun g => ih _ ?_) (fun g => s_sightsPicture hA hm h1 h4 h5 m7 m8 hp hx (brB (fun g2 => ih _ ?_) (fun g2 => ih _ ?_)))))
      · rw [es, hf, e1]
        cases hs : sPic a p x with
        | false => rfl
        | true => rw [sPic_std hs] at g; cases g
      · rw [es, hf, e1, g2]; rfl
      · rw [es, hf, e1, g2]; rfl
theorem s_mgapOf {a : Abs} {mw ml mr : Int32} {mk mpc mf rm ro sh : Nat → Int32} {p : Nat} {Q : Int32 → Prop} (hA : AOk a) (hm : ∀ c, c < aN a → mk c = nI (aKd a c)) (h1 : mw = nI (aW a)) (h4 : ml = nI (aLw a)) (h5 : mr = nI (aRg a)) (m7 : ∀ p, p < aNp a → mpc p = nI (aPc a p)) (m8 : ∀ p, p < aNp a → mf p = nI (aPf a p)) (m9 : ∀ k, k < 4 → rm k = nI (aRl a k)) (m10 : ∀ k i, k < 4 → i < aRl a k → ro (6 * k + i) = nI (aRc a k i)) (m11 : ∀ k, k < 4 → sh k = nI (aRs a k)) (hp : p < aNp a) (h : Q (oI (-9) (gO a p))) : P_mo_gapOf mw mk ml mr mpc mf rm ro sh (nI p) Q := by
  have hP := per_le hA
  have hP1 := per_pos hA
  unfold P_mo_gapOf
  refine s_periodNow hA m9 ?_
  refine cnt0 (fun n t (s : Nat × Nat) => L_mo_gapOf_13 mw mk ml mr mpc mf rm ro sh Q n (nI p) (nI (per a)) (nI s.1) (nI s.2) (nI t)) (2 * per a) (fun t s => (s.1 ≤ t ∧ (∀ i, t - s.1 ≤ i → i < t → ins a p i = false) ∧ (s.1 < t → ins a p (t - s.1 - 1) = true)) ∧ (s.2 ≤ t ∧ s.1 ≤ s.2 ∧ (∃ z, z + s.2 ≤ t ∧ ∀ i, i < s.2 → ins a p (z + i) = false)) ∧ ∀ z L, z + L ≤ t → (∀ i, i < L → ins a p (z + i) = false) → L ≤ s.2) (0, 0) ⟨⟨Nat.le_refl _, fun i _ hi => absurd hi (Nat.not_lt_zero _), fun q => absurd q (Nat.lt_irrefl _)⟩, ⟨Nat.le_refl _, Nat.le_refl _, 0, Nat.le_refl _, fun i hi => absurd hi (Nat.not_lt_zero _)⟩, fun z L hz _ => by show L ≤ 0; omega⟩ ?_ ?_
  · rintro n ⟨run, most⟩ ⟨-, ⟨b1, -, z, b3, b4⟩, b5⟩
    simp only at b1 b3 b4 b5
    unfold L_mo_gapOf_13 B_mo_gapOf_59
    simp only
    rw [show (2 : Int32) = nI 2 from rfl, pk_mul, nI_eq (by omega) (by omega)]
    refine br_t (nI_le (Nat.le_refl _) (by omega)) ⟨fun e => ?_, fun e => ?_⟩
    · have hno : ∀ t, ins a p t = false := fun t => by
        have hlt := Nat.mod_lt t (show per a > 0 by omega)
        have := b4 (t % per a) (by omega)
        have hz : z = 0 := by omega
        subst hz
        rw [Nat.zero_add, ins_per] at this
        exact this
      rw [gO_none hno] at h
      exact h
    · have hx : ∃ t, ins a p t = true := by
        apply Classical.byContradiction
        intro hno
        have := b5 0 (2 * per a) (by omega) (fun i _ => by
          cases hi : ins a p (0 + i) with
          | false => rfl
          | true => exact absurd ⟨_, hi⟩ hno)
        omega
      have hG : GapIs a p most := by
        refine ⟨hx, ⟨z, b4⟩, fun hr => ?_⟩
        have hl := Run_lt hA hx hr
        obtain ⟨s, s1, s2⟩ := Run_start hA hr
        have := b5 s (most + 1) (by omega) s2
        omega
      rw [gO_some hG] at h
      exact h
  · rintro n t ⟨run, most⟩ ht ⟨⟨a1, a2, a3⟩, ⟨b1, b2, z, b3, b4⟩, b5⟩ ih
    simp only at a1 a2 a3 b1 b2 b3 b4 b5
    have fin : ∀ r', r' ≤ t + 1 → (∀ i, t + 1 - r' ≤ i → i < t + 1 → ins a p i = false) → (r' < t + 1 → ins a p (t + 1 - r' - 1) = true) → B_mo_gapOf_38 mw mk ml mr mpc mf rm ro sh Q (L_mo_gapOf_13 mw mk ml mr mpc mf rm ro sh Q n) (nI p) (nI (per a)) (nI most) (nI t) (nI r') := by
      intro r' c1 c2 c3
      have bound : ∀ z L, z + L ≤ t + 1 → (∀ i, i < L → ins a p (z + i) = false) → L ≤ max most r' := by
        intro z L hz hL
        rcases Nat.lt_or_ge (z + L) (t + 1) with q | q
        · have := b5 z L (by omega) hL
          omega
        · rcases Nat.lt_or_ge r' L with q2 | q2
          · have hr : r' < t + 1 := by omega
            have w1 := c3 hr
            have w2 := hL (t + 1 - r' - 1 - z) (by omega)
            rw [show z + (t + 1 - r' - 1 - z) = t + 1 - r' - 1 by omega, w1] at w2
            cases w2
          · omega
      unfold B_mo_gapOf_38
      rw [nI_1 t, nI_leI (by omega) (by omega)]
      refine ⟨fun q => ih (r', most) ⟨⟨c1, c2, c3⟩, ⟨by show most ≤ t + 1; omega, q, z, by show z + most ≤ t + 1; omega, b4⟩, fun z L hz hL => by have := bound z L hz hL; show L ≤ most; omega⟩, fun q => ih (r', r') ⟨⟨c1, c2, c3⟩, ⟨c1, Nat.le_refl _, t + 1 - r', by show t + 1 - r' + r' ≤ t + 1; omega, fun i hi => c2 _ (by omega) (by have : i < r' := hi; omega)⟩, fun z L hz hL => by have := bound z L hz hL; show L ≤ r'; omega⟩⟩
    unfold L_mo_gapOf_13
    simp only
    rw [show (2 : Int32) = nI 2 from rfl, pk_mul, nI_1 run]
    refine br_f (nI_ge ht (by omega)) (s_isInSight hA hm h1 h4 h5 m7 m8 m9 m10 m11 hp (by omega) (brB (fun g => fin (run + 1) (by omega) (fun i hi hi2 => ?_) (fun hr => ?_)) (fun g => fin 0 (by omega) (fun i hi hi2 => by omega) (fun _ => g))))
    · rcases Nat.lt_or_ge i t with q | q
      · exact a2 i (by omega) q
      · have : i = t := by omega
        subst this
        exact g
    · rw [show t + 1 - (run + 1) - 1 = t - run - 1 by omega]
      exact a3 (by omega)
