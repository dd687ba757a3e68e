/-! the period -/
def rl1 (a : Abs) (k : Nat) : Nat := if aRl a k = 0 then 1 else aRl a k
def perN (a : Abs) : Nat → Nat
  | 0 => 1
  | k + 1 => Nat.lcm (perN a k) (rl1 a k)
def per (a : Abs) : Nat := perN a 4
theorem rl1_b {a : Abs} (hA : AOk a) {k : Nat} (hk : k < 4) : 1 ≤ rl1 a k ∧ rl1 a k ≤ 6 := by
  have := hA.2.2.2.2.2.2.2.1 k hk
  unfold rl1
  split <;> omega
theorem lcm60 : ∀ x : Fin 6, ∀ y : Fin 6, ∀ z : Fin 6, ∀ w : Fin 6, Nat.lcm (Nat.lcm (Nat.lcm (Nat.lcm 1 (x.val + 1)) (y.val + 1)) (z.val + 1)) (w.val + 1) ≤ 60 := by decide +kernel
theorem per_le {a : Abs} (hA : AOk a) : per a ≤ 60 := by
  have h0 := rl1_b hA (k := 0) (by omega)
  have h1 := rl1_b hA (k := 1) (by omega)
  have h2 := rl1_b hA (k := 2) (by omega)
  have h3 := rl1_b hA (k := 3) (by omega)
  have h := lcm60 ⟨rl1 a 0 - 1, by omega⟩ ⟨rl1 a 1 - 1, by omega⟩ ⟨rl1 a 2 - 1, by omega⟩ ⟨rl1 a 3 - 1, by omega⟩
  simp only [show rl1 a 0 - 1 + 1 = rl1 a 0 by omega, show rl1 a 1 - 1 + 1 = rl1 a 1 by omega, show rl1 a 2 - 1 + 1 = rl1 a 2 by omega, show rl1 a 3 - 1 + 1 = rl1 a 3 by omega] at h
  exact h
theorem perN_dvd {a : Abs} {n : Nat} : ∀ k, perN a k ∣ n ↔ ∀ i, i < k → rl1 a i ∣ n
  | 0 => ⟨fun _ i hi => absurd hi (Nat.not_lt_zero i), fun _ => Nat.one_dvd n⟩
  | k + 1 => by
    show Nat.lcm (perN a k) (rl1 a k) ∣ n ↔ _
    constructor
    · intro h i hi
      rcases Nat.lt_or_ge i k with q | q
      · exact (perN_dvd k).mp (Nat.dvd_trans (Nat.dvd_lcm_left _ _) h) i q
      · have : i = k := by omega
        subst this
        exact Nat.dvd_trans (Nat.dvd_lcm_right _ _) h
    · intro h
      exact Nat.lcm_dvd ((perN_dvd k).mpr (fun i hi => h i (by omega))) (h k (by omega))
theorem perN_pos {a : Abs} (hA : AOk a) : ∀ k, k ≤ 4 → 1 ≤ perN a k
  | 0, _ => Nat.le_refl 1
  | k + 1, h => by
    have h1 := perN_pos hA k (by omega)
    have h2 := rl1_b hA (k := k) (by omega)
    exact Nat.lcm_pos h1 (by omega)
theorem per_pos {a : Abs} (hA : AOk a) : 1 ≤ per a := perN_pos hA 4 (by omega)
theorem per_dvd {a : Abs} {n : Nat} : per a ∣ n ↔ ∀ i, i < 4 → rl1 a i ∣ n := perN_dvd 4
theorem perN_le {a : Abs} (hA : AOk a) {k : Nat} (hk : k ≤ 4) : perN a k ≤ 60 := by
  have h : perN a k ∣ per a := (perN_dvd k).mpr (fun i hi => per_dvd.mp (Nat.dvd_refl _) i (by omega))
  exact Nat.le_trans (Nat.le_of_dvd (per_pos hA) h) (per_le hA)
theorem s_allDivide {a : Abs} {rl : Nat → Int32} {n : Nat} {Q : Int32 → Prop} (hA : AOk a) (hr : ∀ k, k < 4 → rl k = nI (aRl a k)) (hn : n < 1000) (h : Q (bI (decide (per a ∣ n)))) : P_ro_allDivide rl (nI n) Q := by
  unfold P_ro_allDivide
  have key : ∀ (m i : Nat), i ≤ 4 → 4 - i < m → (∀ j, j < i → rl1 a j ∣ n) → L_ro_allDivide_2 rl Q m (nI n) (nI i) := by
    intro m
    induction m with
    | zero => intro i q1 q2; omega
    | succ m ih =>
      intro i hi hm hd
      unfold L_ro_allDivide_2
      rcases Nat.lt_or_ge i 4 with q | q
      · have h6 := hA.2.2.2.2.2.2.2.1 i q
        refine br_f (nI_ge (b := 4) q (by omega)) ⟨vI q (by omega), ?_⟩
        rw [cl (by omega), hr i q, nI_1]
        rcases Nat.eq_zero_or_pos (aRl a i) with z | z
        · refine br_t (by rw [z]; decide) (ih (i + 1) (by omega) (by omega) (fun j hj => ?_))
          rcases Nat.lt_or_ge j i with g | g
          · exact hd j g
          · have : j = i := by omega
            subst this
            unfold rl1; rw [if_pos z]; exact Nat.one_dvd n
        · have hne : ¬ nI (aRl a i) = 0 := nI_ne0 z (by omega)
          refine br_f (nI_nle z (by omega)) ⟨vI q (by omega), hne, ?_⟩
          rw [pk_rem (by omega) z (by omega)]
          have e1 : rl1 a i = aRl a i := by unfold rl1; rw [if_neg (by omega)]
          by_cases g : n % aRl a i = 0
          · refine br_t (by rw [g]; rfl) (ih (i + 1) (by omega) (by omega) (fun j hj => ?_))
            rcases Nat.lt_or_ge j i with g2 | g2
            · exact hd j g2
            · have : j = i := by omega
              subst this
              rw [e1]; exact Nat.dvd_of_mod_eq_zero g
          · refine br_f (nI_ne0 (by omega) (Nat.lt_of_lt_of_le (Nat.mod_lt _ z) (by omega))) ?_
            rw [decide_eq_false (fun hp => g (Nat.mod_eq_zero_of_dvd (by rw [← e1]; exact per_dvd.mp hp i q)))] at h
            exact h
      · have e : i = 4 := by omega
        subst e
        refine br_t (nI_le (a := 4) (by omega) (by omega)) ?_
        rw [decide_eq_true (per_dvd.mpr hd)] at h
        exact h
  exact ⟨5, key 5 0 (by omega) (by omega) (fun j hj => absurd hj (Nat.not_lt_zero j))⟩
theorem s_common {a : Abs} {rl : Nat → Int32} {Q : Int32 → Prop} (hA : AOk a) (hr : ∀ k, k < 4 → rl k = nI (aRl a k)) (h : Q (nI (per a))) : P_ro_commonLength rl Q := by
  unfold P_ro_commonLength
  have h60 := per_le hA
  have h1 := per_pos hA
  have key : ∀ (m n : Nat), 1 ≤ n → n ≤ per a → per a - n < m → L_ro_commonLength_2 rl Q m (nI n) := by
    intro m
    induction m with
    | zero => intro n q1 q2 q3; omega
    | succ m ih =>
      intro n q1 q2 q3
      unfold L_ro_commonLength_2
      rcases Nat.lt_or_ge n 60 with q | q
      · refine br_f (nI_ge (b := 60) q (by omega)) (s_allDivide hA hr (by omega) ?_)
        rcases Nat.lt_or_ge n (per a) with g | g
        · rw [decide_eq_false (fun hd => by have := Nat.le_of_dvd (by omega) hd; omega)]
          refine brF rfl ?_
          rw [nI_1]
          exact ih (n + 1) (by omega) (by omega) (by omega)
        · have e : n = per a := by omega
          rw [decide_eq_true (by rw [e]; exact Nat.dvd_refl _)]
          refine brT rfl ?_
          rw [e]; exact h
      · have e : per a = 60 := by omega
        refine br_t (nI_le (a := 60) q (by omega)) ?_
        rw [e] at h
        exact h
  exact ⟨per a + 1, key (per a + 1) 1 (by omega) h1 (by omega)⟩
