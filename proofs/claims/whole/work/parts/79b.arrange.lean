/-! shifts in their order -/
def aSh (a : Abs) (sh : Nat → Nat) : Abs := (aW a, aH a, aKd a, aLw a, aRg a, aNp a, aPc a, aPf a, aRl a, aRc a, sh)
theorem aOk_sh {a : Abs} (hA : AOk a) {sh : Nat → Nat} (h : ∀ k, k < 4 → sh k ≤ 5) : AOk (aSh a sh) := by
  obtain ⟨b1, b2, b3, b4, b5, b6, b7, b8, b9, -⟩ := hA
  exact ⟨b1, b2, b3, b4, b5, b6, b7, b8, b9, h⟩
theorem cg_sh (a : Abs) (sh : Nat → Nat) (p q x y : Nat) : cg (aSh a sh) p q x y = cg a p q x y := rfl
theorem wy_sh (a : Abs) (sh : Nat → Nat) (p q sx sy : Nat) : ∀ (n gx gy : Nat), wy (aSh a sh) p q sx sy n gx gy = wy a p q sx sy n gx gy
  | 0, _, _ => rfl
  | n + 1, gx, gy => by
    show (if sx + sy ≤ gx + gy then true else if ld sx sy gx gy = 0 then _ else if ld sx sy gx gy < 0 then _ else _) = (if sx + sy ≤ gx + gy then true else if ld sx sy gx gy = 0 then _ else if ld sx sy gx gy < 0 then _ else _)
    rw [wy_sh a sh p q sx sy n, wy_sh a sh p q sx sy n, wy_sh a sh p q sx sy n, cg_sh, cg_sh, cg_sh]
theorem way_sh (a : Abs) (sh : Nat → Nat) (p q : Nat) : way (aSh a sh) p q = way a p q := wy_sh a sh p q _ _ _ 0 0
theorem box_sh (a : Abs) (sh : Nat → Nat) (p q : Nat) : box (aSh a sh) p q = box a p q := rfl
theorem sees_sh (a : Abs) (sh : Nat → Nat) (p q : Nat) : sees (aSh a sh) p q = sees a p q := by
  unfold sees
  rw [way_sh, box_sh]
  rfl
theorem sPic_sh (a : Abs) (sh : Nat → Nat) (p c : Nat) : sPic (aSh a sh) p c = sPic a p c := by
  unfold sPic
  rw [sees_sh]
  rfl
theorem per_sh (a : Abs) (sh : Nat → Nat) : per (aSh a sh) = per a := rfl
theorem SG_sh {a : Abs} {sg : Nat → Int64} (h : SG a sg) (sh : Nat → Nat) : SG (aSh a sh) sg := fun p w t hp hw ht => by
  rw [h p w t hp hw ht]
  unfold sgt
  rw [sPic_sh]
  rfl
theorem AllT_sh {a : Abs} {al : Int64} (h : AllT a al) (sh : Nat → Nat) : AllT (aSh a sh) al := fun t ht => h t ht
theorem is1_iff {a : Abs} {sh : Nat → Nat} {k p t : Nat} : is1 (aSh a sh) k p t = true ↔ 0 < aRl a k ∧ sPic a p (aRc a k ((t + sh k) % aRl a k)) = true := by
  unfold is1 plc
  show (match (if aRl a k = 0 then none else some (aRc a k ((t + sh k) % aRl a k))) with | none => false | some x => sPic (aSh a sh) p x) = true ↔ _
  rcases Nat.eq_zero_or_pos (aRl a k) with z | z
  · rw [if_pos z]
    exact ⟨fun q => Bool.noConfusion q, fun q => by omega⟩
  · rw [if_neg (by omega)]
    show sPic (aSh a sh) p (aRc a k ((t + sh k) % aRl a k)) = true ↔ _
    rw [sPic_sh]
    exact ⟨fun q => ⟨z, q⟩, fun q => q.2⟩
theorem isN_iff {a : Abs} {p t : Nat} : ∀ {k : Nat}, isN a p t k = true ↔ ∃ j, j < k ∧ is1 a j p t = true
  | 0 => ⟨fun q => Bool.noConfusion q, fun ⟨_, q, _⟩ => absurd q (Nat.not_lt_zero _)⟩
  | k + 1 => by
    show (isN a p t k || is1 a k p t) = true ↔ _
    rw [Bool.or_eq_true, isN_iff (k := k)]
    constructor
    · rintro (⟨j, j1, j2⟩ | h)
      · exact ⟨j, by omega, j2⟩
      · exact ⟨k, by omega, h⟩
    · rintro ⟨j, j1, j2⟩
      rcases Nat.lt_or_ge j k with q | q
      · exact Or.inl ⟨j, q, j2⟩
      · have : j = k := by omega
        subst this
        exact Or.inr j2
theorem ins_iff {a : Abs} {sh : Nat → Nat} {p t : Nat} : ins (aSh a sh) p t = true ↔ ∃ k, k < 4 ∧ 0 < aRl a k ∧ sPic a p (aRc a k ((t + sh k) % aRl a k)) = true := by
  unfold ins
  rw [isN_iff]
  exact ⟨fun ⟨k, k1, k2⟩ => ⟨k, k1, is1_iff.mp k2⟩, fun ⟨k, k1, k2⟩ => ⟨k, k1, is1_iff.mpr k2⟩⟩
theorem ins_tau {a : Abs} {sh sh' : Nat → Nat} {τ : Nat} (h : ∀ k, k < 4 → 0 < aRl a k → ∀ t, (t + sh' k) % aRl a k = (t + τ + sh k) % aRl a k) (p t : Nat) : ins (aSh a sh') p t = ins (aSh a sh) p (t + τ) := by
  rw [Bool.eq_iff_iff, ins_iff, ins_iff]
  constructor
  · rintro ⟨k, k1, k2, k3⟩
    exact ⟨k, k1, k2, by rw [← h k k1 k2]; exact k3⟩
  · rintro ⟨k, k1, k2, k3⟩
    exact ⟨k, k1, k2, by rw [h k k1 k2]; exact k3⟩
theorem gO_tau {a : Abs} {sh sh' : Nat → Nat} {τ : Nat} (hA : AOk (aSh a sh)) (hA' : AOk (aSh a sh')) (h : ∀ k, k < 4 → 0 < aRl a k → ∀ t, (t + sh' k) % aRl a k = (t + τ + sh k) % aRl a k) (p : Nat) : gO (aSh a sh') p = gO (aSh a sh) p := by
  have hi := ins_tau h p
  have hP := per_pos hA
  have back : ∀ s, ins (aSh a sh) p s = ins (aSh a sh') p (s + τ * (per (aSh a sh) - 1)) := by
    intro s
    rw [hi]
    refine ins_eq ?_
    have e : s + τ * (per (aSh a sh) - 1) + τ = s + τ * per (aSh a sh) := by
      obtain ⟨P, hP2⟩ : ∃ P, per (aSh a sh) = P + 1 := ⟨per (aSh a sh) - 1, by omega⟩
      rw [hP2, Nat.mul_succ, show P + 1 - 1 = P by omega, Nat.add_assoc]
    rw [e, Nat.add_mul_mod_self_right]
  have hrun : ∀ L, Run (aSh a sh') p L ↔ Run (aSh a sh) p L := by
    intro L
    constructor
    · rintro ⟨s, hs⟩
      refine ⟨s + τ, fun i hi2 => ?_⟩
      have := hs i hi2
      rw [hi] at this
      rw [show s + τ + i = s + i + τ by omega]
      exact this
    · rintro ⟨s, hs⟩
      refine ⟨s + τ * (per (aSh a sh) - 1), fun i hi2 => ?_⟩
      have := hs i hi2
      rw [back] at this
      rw [show s + τ * (per (aSh a sh) - 1) + i = s + i + τ * (per (aSh a sh) - 1) by omega]
      exact this
  by_cases hx : ∃ t, ins (aSh a sh) p t = true
  · obtain ⟨M, hM⟩ := GapIs_ex hA hx
    rw [gO_some hM]
    refine gO_some ⟨?_, (hrun M).mpr hM.2.1, fun q => hM.2.2 ((hrun _).mp q)⟩
    obtain ⟨t, ht⟩ := hx
    exact ⟨_, (back t).symm.trans ht⟩
  · have hno : ∀ t, ins (aSh a sh) p t = false := fun t => by
      cases hb : ins (aSh a sh) p t with
      | false => rfl
      | true => exact absurd ⟨t, hb⟩ hx
    rw [gO_none hno]
    exact gO_none (fun t => by rw [hi]; exact hno _)
theorem wO_tau {a : Abs} {sh sh' : Nat → Nat} {τ : Nat} (hA : AOk (aSh a sh)) (hA' : AOk (aSh a sh')) (h : ∀ k, k < 4 → 0 < aRl a k → ∀ t, (t + sh' k) % aRl a k = (t + τ + sh k) % aRl a k) : wO (aSh a sh') = wO (aSh a sh) := by
  have : ∀ k, wN (aSh a sh') k = wN (aSh a sh) k := by
    intro k
    induction k with
    | zero => rfl
    | succ k ih => rw [wN_s, wN_s, ih, gO_tau hA hA' h k]
  exact this (aNp a)
theorem gO_no {a : Abs} {sh sh' : Nat → Nat} (hA : AOk (aSh a sh)) {p : Nat} (h : gO (aSh a sh) p = none) : gO (aSh a sh') p = none := by
  have hno : ∀ t, ins (aSh a sh) p t = false := fun t => by
    cases hb : ins (aSh a sh) p t with
    | false => rfl
    | true =>
      obtain ⟨M, hM⟩ := GapIs_ex hA ⟨t, hb⟩
      rw [gO_some hM] at h
      cases h
  refine gO_none (fun t => ?_)
  cases hb : ins (aSh a sh') p t with
  | false => rfl
  | true =>
    obtain ⟨k, k1, k2, k3⟩ := ins_iff.mp hb
    have hi : (t + sh' k) % aRl a k < aRl a k := Nat.mod_lt _ k2
    generalize (t + sh' k) % aRl a k = i at *
    have hle : sh k ≤ sh k * aRl a k := Nat.le_mul_of_pos_right _ k2
    have : ins (aSh a sh) p (i + (sh k * aRl a k - sh k)) = true := by
      rw [ins_iff]
      refine ⟨k, k1, k2, ?_⟩
      rw [show i + (sh k * aRl a k - sh k) + sh k = i + sh k * aRl a k by omega, Nat.add_mul_mod_self_right, Nat.mod_eq_of_lt hi]
      exact k3
    rw [hno] at this
    cases this
theorem wO_no {a : Abs} {sh sh' : Nat → Nat} (hA : AOk (aSh a sh)) (h : wO (aSh a sh) = none) : wO (aSh a sh') = none := by
  have : ∀ k, wN (aSh a sh) k = none → wN (aSh a sh') k = none := by
    intro k
    induction k with
    | zero => intro h; cases h
    | succ k ih =>
      intro h
      rw [wN_s] at h ⊢
      cases h1 : wN (aSh a sh) k with
      | none => rw [ih h1]
      | some m =>
        rw [h1] at h
        cases h2 : gO (aSh a sh) k with
        | none =>
          rw [gO_no (sh' := sh') hA h2]
          cases wN (aSh a sh') k <;> rfl
        | some g => rw [h2] at h; cases h
  exact this (aNp a) h
def qq (a : Abs) : Nat → Nat
  | 0 => 1
  | i + 1 => rl1 a (3 - i) * qq a i
theorem qq_s (a : Abs) (i : Nat) : qq a (i + 1) = rl1 a (3 - i) * qq a i := rfl
theorem rl1_bb {a : Abs} (hA : AOk a) (i : Nat) : 1 ≤ rl1 a (3 - i) ∧ rl1 a (3 - i) ≤ 6 := rl1_b hA (by omega)
theorem qq_b {a : Abs} (hA : AOk a) : ∀ i, 1 ≤ qq a i ∧ qq a i ≤ 6 ^ i
  | 0 => ⟨Nat.le_refl _, Nat.le_refl _⟩
  | i + 1 => by
    have h1 := rl1_bb hA i
    have h2 := qq_b hA i
    rw [qq_s, Nat.pow_succ, Nat.mul_comm (6 ^ i) 6]
    exact ⟨Nat.mul_pos h1.1 h2.1, Nat.mul_le_mul h1.2 h2.2⟩
theorem qq_le {a : Abs} (hA : AOk a) {i : Nat} (hi : i ≤ 4) : 1 ≤ qq a i ∧ qq a i ≤ 1296 := by
  have h := qq_b hA i
  have : 6 ^ i ≤ 6 ^ 4 := Nat.pow_le_pow_right (by decide) hi
  exact ⟨h.1, Nat.le_trans h.2 this⟩
def sgd (a : Abs) (code w : Nat) : Nat := code / qq a (3 - w) % rl1 a w
theorem sgd_lt {a : Abs} (hA : AOk a) {code w : Nat} (hw : w < 4) : sgd a code w < rl1 a w ∧ sgd a code w ≤ 5 := by
  have h1 := rl1_b hA hw
  have : sgd a code w < rl1 a w := Nat.mod_lt _ (by omega)
  exact ⟨this, by omega⟩
theorem aOk_sg {a : Abs} (hA : AOk a) (code : Nat) : AOk (aSh a (sgd a code)) := aOk_sh hA (fun k hk => (sgd_lt hA hk).2)
noncomputable def vA (a : Abs) (code : Nat) : Nat := match wO (aSh a (sgd a code)) with
  | none => 1000000
  | some v => v
theorem vA_le {a : Abs} (hA : AOk a) (code : Nat) : vA a code ≤ 1000000 := by
  unfold vA
  cases h : wO (aSh a (sgd a code)) with
  | none => exact Nat.le_refl _
  | some v =>
    have := wN_lt (aOk_sg hA code) h
    show v ≤ 1000000
    omega
noncomputable def am (a : Abs) : Nat → Nat × Nat
  | 0 => (1000001, 0)
  | k + 1 => if (am a k).1 ≤ vA a k then am a k else (vA a k, k)
theorem am_s (a : Abs) (k : Nat) : am a (k + 1) = if (am a k).1 ≤ vA a k then am a k else (vA a k, k) := rfl
theorem am_1 {a : Abs} (hA : AOk a) : am a 1 = (vA a 0, 0) := by
  have := vA_le hA 0
  rw [am_s]
  show (if 1000001 ≤ vA a 0 then _ else _) = _
  rw [if_neg (by omega)]
theorem am_le {a : Abs} : ∀ {k j : Nat}, j < k → (am a k).1 ≤ vA a j
  | 0, _, h => absurd h (Nat.not_lt_zero _)
  | k + 1, j, h => by
    rw [am_s]
    rcases Nat.lt_or_ge j k with q | q
    · have ih := am_le (a := a) q
      split
      · exact ih
      · show vA a k ≤ vA a j
        omega
    · have : j = k := by omega
      subst this
      split
      · assumption
      · exact Nat.le_refl _
theorem am_bd {a : Abs} (hA : AOk a) : ∀ k, (am a k).1 ≤ 1000001
  | 0 => Nat.le_refl _
  | k + 1 => by
    rw [am_s]
    split
    · exact am_bd hA k
    · exact Nat.le_trans (vA_le hA k) (by decide)
theorem am_cd {a : Abs} : ∀ k, (am a k).2 ≤ k
  | 0 => Nat.le_refl _
  | k + 1 => by
    rw [am_s]
    have := am_cd (a := a) k
    split
    · omega
    · show k ≤ k + 1
      omega
theorem am_ext {a : Abs} {k k' : Nat} (hk : k ≤ k') (h : ∀ j, j < k' → ∃ j', j' < k ∧ vA a j' ≤ vA a j) : am a k' = am a k := by
  have : ∀ i, k + i ≤ k' → am a (k + i) = am a k := by
    intro i
    induction i with
    | zero => intro _; rfl
    | succ i ih =>
      intro hi
      rw [← Nat.add_assoc, am_s, ih (by omega)]
      obtain ⟨j', j1, j2⟩ := h (k + i) (by omega)
      rw [if_pos (Nat.le_trans (am_le j1) j2)]
  have := this (k' - k) (by omega)
  rwa [show k + (k' - k) = k' by omega] at this
theorem am_0 {a : Abs} {k k' : Nat} (hk : k ≤ k') (h : (am a k).1 = 0) : am a k' = am a k := by
  have : ∀ i, am a (k + i) = am a k := by
    intro i
    induction i with
    | zero => rfl
    | succ i ih =>
      rw [← Nat.add_assoc, am_s, ih, if_pos (by omega)]
  have := this (k' - k)
  rwa [show k + (k' - k) = k' by omega] at this
/-- a code for given shifts -/
def enc (a : Abs) (sh : Nat → Nat) : Nat → Nat
  | 0 => 0
  | i + 1 => sh (3 - i) * qq a i + enc a sh i
theorem enc_lt {a : Abs} (hA : AOk a) {sh : Nat → Nat} (h : ∀ w, w < 4 → sh w < rl1 a w) : ∀ i, enc a sh i < qq a i
  | 0 => Nat.zero_lt_one
  | i + 1 => by
    have ih := enc_lt hA h i
    have h1 := h (3 - i) (by omega)
    have : (sh (3 - i) + 1) * qq a i ≤ rl1 a (3 - i) * qq a i := Nat.mul_le_mul_right _ h1
    rw [Nat.succ_mul] at this
    rw [qq_s]
    show sh (3 - i) * qq a i + enc a sh i < _
    omega
theorem qq_dvd {a : Abs} {i : Nat} : ∀ {n : Nat}, i ≤ n → ∃ K, qq a n = qq a i * K
  | 0, h => by have : i = 0 := by omega
               subst this; exact ⟨1, by rw [Nat.mul_one]⟩
  | n + 1, h => by
    rcases Nat.eq_or_lt_of_le h with e | e
    · subst e; exact ⟨1, by rw [Nat.mul_one]⟩
    · obtain ⟨K, hK⟩ := qq_dvd (a := a) (i := i) (n := n) (by omega)
      exact ⟨rl1 a (3 - n) * K, by rw [qq_s, hK, Nat.mul_left_comm]⟩
theorem enc_dg {a : Abs} (hA : AOk a) {sh : Nat → Nat} (h : ∀ w, w < 4 → sh w < rl1 a w) : ∀ {n i : Nat}, i < n → enc a sh n / qq a i % rl1 a (3 - i) = sh (3 - i) := by
  intro n
  induction n with
  | zero => intro i hi; omega
  | succ n ih =>
    intro i hi
    have hq := (qq_b hA i).1
    have hr := (rl1_bb hA i).1
    show (sh (3 - n) * qq a n + enc a sh n) / qq a i % rl1 a (3 - i) = sh (3 - i)
    rcases Nat.eq_or_lt_of_le (Nat.le_of_lt_succ hi) with e | e
    · subst e
      have := md (y := sh (3 - i)) (w := qq a i) (x := enc a sh i) (enc_lt hA h i)
      rw [this.2, Nat.mod_eq_of_lt (h _ (by omega))]
    · obtain ⟨K, hK⟩ := qq_dvd (a := a) (i := i + 1) (n := n) e
      rw [qq_s] at hK
      have e1 : sh (3 - n) * qq a n = qq a i * (rl1 a (3 - i) * (sh (3 - n) * K)) := by
        rw [hK, Nat.mul_comm (rl1 a (3 - i)) (qq a i), Nat.mul_assoc (qq a i), Nat.mul_left_comm (sh (3 - n)), Nat.mul_left_comm (sh (3 - n))]
      rw [e1, Nat.mul_add_div hq, Nat.add_comm, Nat.add_mul_mod_self_left]
      exact ih e
theorem enc_cut {a : Abs} {sh : Nat → Nat} {m : Nat} (h : ∀ i, m ≤ i → i < 4 → sh (3 - i) = 0) : ∀ {n : Nat}, m ≤ n → n ≤ 4 → enc a sh n = enc a sh m := by
  intro n
  induction n with
  | zero => intro hm _; have : m = 0 := by omega
            subst this; rfl
  | succ n ih =>
    intro hm hn
    rcases Nat.eq_or_lt_of_le hm with e | e
    · subst e; rfl
    · show sh (3 - n) * qq a n + enc a sh n = _
      rw [h n (by omega) (by omega), Nat.zero_mul, Nat.zero_add]
      exact ih (by omega) (by omega)
/-- the leader may stay at 0 -/
theorem lead0 {a : Abs} (hA : AOk a) {L : Nat} (hL : L ≤ 4) (h0 : ∀ w, w < L → aRl a w = 0) (h1 : L < 4 → 0 < aRl a L) (j : Nat) (hj : j < qq a 4) : ∃ j', j' < qq a (3 - L) ∧ vA a j' = vA a j := by
  rcases Nat.lt_or_ge L 4 with hl | hl
  · have hP := per_pos hA
    have hr1 : ∀ k, 0 < aRl a k → rl1 a k = aRl a k := fun k hk => by unfold rl1; rw [if_neg (by omega)]
    have hdv : ∀ k, k < 4 → rl1 a k ∣ per a := fun k hk => (per_dvd (a := a) (n := per a)).mp (Nat.dvd_refl _) k hk
    have hd := sgd_lt (code := j) hA hl
    have hLe : rl1 a L ≤ per a := Nat.le_of_dvd (by omega) (hdv L hl)
    obtain ⟨τ, hτ⟩ : ∃ τ, τ = per a - sgd a j L := ⟨_, rfl⟩
    obtain ⟨sh, hsh⟩ : ∃ sh : Nat → Nat, sh = fun w => (sgd a j w + τ) % rl1 a w := ⟨_, rfl⟩
    have shv : ∀ w, sh w = (sgd a j w + τ) % rl1 a w := fun w => by rw [hsh]
    have hs1 : ∀ w, w < 4 → sh w < rl1 a w := fun w hw => by
      rw [shv]; exact Nat.mod_lt _ (by have := rl1_b hA hw; omega)
    have hz : ∀ i, 3 - L ≤ i → i < 4 → sh (3 - i) = 0 := by
      intro i hi hi4
      rw [shv]
      rcases Nat.lt_or_ge (3 - i) L with g | g
      · have : rl1 a (3 - i) = 1 := by unfold rl1; rw [if_pos (h0 _ g)]
        rw [this, Nat.mod_one]
      · have : 3 - i = L := by omega
        rw [this, hτ, show sgd a j L + (per a - sgd a j L) = per a by omega]
        exact Nat.mod_eq_zero_of_dvd (hdv L hl)
    have he := enc_cut (a := a) (sh := sh) hz (n := 4) (by omega) (by omega)
    refine ⟨enc a sh 4, by rw [he]; exact enc_lt hA hs1 _, ?_⟩
    have hdig : ∀ k, k < 4 → sgd a (enc a sh 4) k = sh k := by
      intro k hk
      have := enc_dg hA hs1 (n := 4) (i := 3 - k) (by omega)
      unfold sgd
      rw [show 3 - (3 - k) = k by omega] at this
      exact this
    have hW := wO_tau (a := a) (sh := sgd a j) (sh' := sgd a (enc a sh 4)) (τ := τ) (aOk_sg hA j) (aOk_sg hA _) (fun k hk hkp t => by
      rw [hdig k hk, shv, hr1 k hkp, Nat.add_mod_mod, show t + τ + sgd a j k = t + (sgd a j k + τ) by omega])
    unfold vA
    rw [hW]
  · have hL4 : L = 4 := by omega
    subst hL4
    have hq : ∀ i, i ≤ 4 → qq a i = 1 := by
      intro i
      induction i with
      | zero => intro _; rfl
      | succ i ih =>
        intro hi
        rw [qq_s, ih (by omega)]
        unfold rl1
        rw [if_pos (h0 _ (by omega))]
    rw [hq 4 (by omega)] at hj
    exact ⟨j, by rw [hq _ (by omega)]; exact hj, rfl⟩
theorem lead1 {a : Abs} (hA : AOk a) {L : Nat} (hL : L ≤ 4) (h0 : ∀ w, w < L → aRl a w = 0) (h1 : L < 4 → 0 < aRl a L) : am a (qq a 4) = am a (qq a (3 - L)) := by
  refine am_ext ?_ (fun j hj => ?_)
  · obtain ⟨K, hK⟩ := qq_dvd (a := a) (i := 3 - L) (n := 4) (by omega)
    have h4 := (qq_b hA 4).1
    have h3 := (qq_b hA (3 - L)).1
    rcases Nat.eq_zero_or_pos K with z | z
    · rw [z, Nat.mul_zero] at hK; omega
    · rw [hK]; exact Nat.le_mul_of_pos_right _ z
  · obtain ⟨j', w1, w2⟩ := lead0 hA hL h0 h1 j hj
    exact ⟨j', w1, Nat.le_of_eq w2⟩
