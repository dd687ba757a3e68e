/-! covers: the fewest cells whose sights hold a set -/
def sdf (x y : Nat) : Nat := x ^^^ (x &&& y)
theorem sdf_tb (x y b : Nat) : (sdf x y).testBit b = (x.testBit b && !y.testBit b) := by
  unfold sdf
  rw [Nat.testBit_xor, Nat.testBit_and]
  cases x.testBit b <;> cases y.testBit b <;> rfl
theorem sdf_i (x y : Nat) : nI x &&& (nI y ^^^ (-1)) = nI (sdf x y) := by
  apply Int32.toBitVec_inj.mp
  rw [Int32.toBitVec_and, Int32.toBitVec_xor, nI_tb, nI_tb, nI_tb]
  apply BitVec.eq_of_getLsbD_eq
  intro i hi
  have : (-1 : Int32).toBitVec = BitVec.allOnes 32 := by decide
  rw [BitVec.getLsbD_and, BitVec.getLsbD_xor, this, BitVec.getLsbD_allOnes, BitVec.getLsbD_ofNat, BitVec.getLsbD_ofNat, BitVec.getLsbD_ofNat, sdf_tb]
  simp [hi]
theorem sdf_le (x y : Nat) : sdf x y ≤ x := by
  have : sdf x y = x &&& sdf x y := by
    apply Nat.eq_of_testBit_eq
    intro b
    rw [Nat.testBit_and, sdf_tb]
    cases x.testBit b <;> simp
  rw [this]
  exact Nat.and_le_left
theorem sdf_lt {x y b : Nat} (hx : x.testBit b = true) (hy : y.testBit b = true) : sdf x y < x := by
  rcases Nat.lt_or_ge (sdf x y) x with h | h
  · exact h
  · have e : sdf x y = x := Nat.le_antisymm (sdf_le x y) h
    have := sdf_tb x y b
    rw [e, hx, hy] at this
    cases this
theorem sdf_or (x y z : Nat) : sdf x (y ||| z) = sdf (sdf x y) z := by
  apply Nat.eq_of_testBit_eq
  intro b
  rw [sdf_tb, sdf_tb, sdf_tb, Nat.testBit_or]
  cases x.testBit b <;> cases y.testBit b <;> cases z.testBit b <;> rfl
theorem sdf_0 (x : Nat) : sdf x 0 = x := by unfold sdf; simp
theorem sdf_sdf (x y : Nat) : sdf (sdf x y) y = sdf x y := by rw [← sdf_or]; simp
theorem low_dec : ∀ x : Fin 256, 0 < x.val → ∃ b : Fin 8, nI x.val &&& (-(nI x.val)) = nI (2 ^ b.val) ∧ x.val.testBit b.val = true := by decide +kernel
def Cv (f : Nat → Nat) (N lo k S : Nat) : Prop := ∃ g : Nat → Nat, (∀ i, i < k → lo ≤ g i ∧ g i < N) ∧ ∀ b, S.testBit b = true → ∃ i, i < k ∧ (f (g i)).testBit b = true
theorem Cv_0 {f : Nat → Nat} {N lo S : Nat} (h : Cv f N lo 0 S) : S = 0 := by
  obtain ⟨g, -, h2⟩ := h
  apply Nat.eq_of_testBit_eq
  intro b
  rw [Nat.zero_testBit]
  cases hb : S.testBit b with
  | false => rfl
  | true => obtain ⟨i, hi, -⟩ := h2 b hb; omega
theorem Cv_z {f : Nat → Nat} {N lo : Nat} : Cv f N lo 0 0 := ⟨fun _ => 0, fun i hi => absurd hi (Nat.not_lt_zero _), fun b hb => by simp at hb⟩
theorem Cv_cons {f : Nat → Nat} {N lo k S c : Nat} (h1 : lo ≤ c) (h2 : c < N) (h : Cv f N lo k (sdf S (f c))) : Cv f N lo (k + 1) S := by
  obtain ⟨g, g1, g2⟩ := h
  refine ⟨ap k c g, fun i hi => ?_, fun b hb => ?_⟩
  · rcases Nat.lt_or_ge i k with e | e
    · rw [ap_n e]; exact g1 i e
    · have : i = k := by omega
      subst this
      rw [ap_s]; exact ⟨h1, h2⟩
  · cases hf : (f c).testBit b with
    | true => exact ⟨k, by omega, by rw [ap_s]; exact hf⟩
    | false =>
      obtain ⟨i, i1, i2⟩ := g2 b (by rw [sdf_tb, hb, hf]; rfl)
      exact ⟨i, by omega, by rw [ap_n i1]; exact i2⟩
theorem Cv_rem {f : Nat → Nat} {N lo k S : Nat} {g : Nat → Nat} (g1 : ∀ i, i < k + 1 → lo ≤ g i ∧ g i < N) (g2 : ∀ b, S.testBit b = true → ∃ i, i < k + 1 ∧ (f (g i)).testBit b = true) {i0 : Nat} (hi0 : i0 < k + 1) : Cv f N lo k (sdf S (f (g i0))) := by
  refine ⟨fun i => if i < i0 then g i else g (i + 1), fun i hi => ?_, fun b hb => ?_⟩
  · show lo ≤ (if i < i0 then g i else g (i + 1)) ∧ (if i < i0 then g i else g (i + 1)) < N
    by_cases e : i < i0
    · rw [if_pos e]; exact g1 i (by omega)
    · rw [if_neg e]; exact g1 (i + 1) (by omega)
  · rw [sdf_tb, Bool.and_eq_true, Bool.not_eq_true'] at hb
    obtain ⟨i, i1, i2⟩ := g2 b hb.1
    rcases Nat.lt_trichotomy i i0 with e | e | e
    · exact ⟨i, by omega, by show (f (if i < i0 then g i else g (i + 1))).testBit b = true; rw [if_pos e]; exact i2⟩
    · subst e; rw [hb.2] at i2; cases i2
    · refine ⟨i - 1, by omega, ?_⟩
      show (f (if i - 1 < i0 then g (i - 1) else g (i - 1 + 1))).testBit b = true
      rw [if_neg (by omega), show i - 1 + 1 = i by omega]; exact i2
theorem Cv_lo {f : Nat → Nat} {N lo lo' k S : Nat} (hl : lo' ≤ lo) (h : Cv f N lo k S) : Cv f N lo' k S := by
  obtain ⟨g, g1, g2⟩ := h
  exact ⟨g, fun i hi => ⟨Nat.le_trans hl (g1 i hi).1, (g1 i hi).2⟩, g2⟩
theorem Cv_sub {f : Nat → Nat} {N lo k S S' : Nat} (hs : ∀ b, S'.testBit b = true → S.testBit b = true) (h : Cv f N lo k S) : Cv f N lo k S' := by
  obtain ⟨g, g1, g2⟩ := h
  exact ⟨g, g1, fun b hb => g2 b (hs b hb)⟩
def Nd (f : Nat → Nat) (N S k : Nat) : Prop := Cv f N 0 k S ∧ ∀ j, Cv f N 0 j S → k ≤ j
theorem Nd_one {f : Nat → Nat} {N S k k' : Nat} (h : Nd f N S k) (h' : Nd f N S k') : k = k' := Nat.le_antisymm (h.2 _ h'.1) (h'.2 _ h.1)
theorem Nd_of {f : Nat → Nat} {N S : Nat} (hN : 0 < N) (hS : S < 256) (h : ∃ k, Cv f N 0 k S) : ∃ k, k ≤ 8 ∧ Nd f N S k := by
  have h8 : Cv f N 0 8 S := by
    obtain ⟨k, g, g1, g2⟩ := h
    have ex : ∀ b, ∃ c, c < N ∧ (S.testBit b = true → (f c).testBit b = true) := by
      intro b
      cases hb : S.testBit b with
      | false => exact ⟨0, hN, fun q => Bool.noConfusion q⟩
      | true =>
        obtain ⟨i, i1, i2⟩ := g2 b hb
        exact ⟨g i, (g1 i i1).2, fun _ => i2⟩
    refine ⟨fun b => Classical.choose (ex b), fun i hi => ⟨Nat.zero_le _, (Classical.choose_spec (ex i)).1⟩, fun b hb => ?_⟩
    have hb8 : b < 8 := by
      rcases Nat.lt_or_ge b 8 with q | q
      · exact q
      · have : S.testBit b = false := Nat.testBit_lt_two_pow (Nat.lt_of_lt_of_le hS (Nat.pow_le_pow_right (n := 2) (by decide) q))
        rw [this] at hb; cases hb
    exact ⟨b, hb8, (Classical.choose_spec (ex b)).2 hb⟩
  obtain ⟨k, hk, hl⟩ := pk_least (fun k => Cv f N 0 k S) h
  have hle : ∀ j, Cv f N 0 j S → k ≤ j := fun j hj => by
    rcases Nat.lt_or_ge j k with q | q
    · exact absurd hj (hl j q)
    · exact q
  exact ⟨k, hle 8 h8, hk, hle⟩
noncomputable def nv (f : Nat → Nat) (N S : Nat) : Nat := @dite Nat (∃ k, Nd f N S k) (Classical.propDecidable _) (fun h => Classical.choose h) (fun _ => 99)
theorem nv_y {f : Nat → Nat} {N S k : Nat} (h : Nd f N S k) : nv f N S = k := by
  unfold nv
  rw [dif_pos ⟨k, h⟩]
  exact Nd_one (Classical.choose_spec (⟨k, h⟩ : ∃ k, Nd f N S k)) h
theorem nv_n {f : Nat → Nat} {N S : Nat} (h : ¬ ∃ k, Nd f N S k) : nv f N S = 99 := by
  unfold nv
  rw [dif_neg h]
theorem nv_spec {f : Nat → Nat} {N S : Nat} (hN : 0 < N) (hS : S < 256) : (nv f N S ≤ 8 ∧ Nd f N S (nv f N S)) ∨ (nv f N S = 99 ∧ ∀ k, ¬ Cv f N 0 k S) := by
  by_cases h : ∃ k, Cv f N 0 k S
  · obtain ⟨k, h8, hk⟩ := Nd_of hN hS h
    rw [nv_y hk]
    exact Or.inl ⟨h8, hk⟩
  · exact Or.inr ⟨nv_n (fun ⟨k, hk⟩ => h ⟨k, hk.1⟩), fun k hk => h ⟨k, hk⟩⟩
theorem nv_iff {f : Nat → Nat} {N S k : Nat} (hN : 0 < N) (hS : S < 256) (hk : k ≤ 8) : nv f N S = k ↔ Nd f N S k := by
  constructor
  · intro h
    rcases nv_spec (f := f) hN hS with ⟨-, h2⟩ | ⟨h2, -⟩
    · rw [h] at h2; exact h2
    · omega
  · exact nv_y
theorem nv_0 {f : Nat → Nat} {N : Nat} : nv f N 0 = 0 := nv_y ⟨Cv_z, fun _ _ => Nat.zero_le _⟩
noncomputable def mn (f : Nat → Nat) (N S b : Nat) : Nat → Nat
  | 0 => 99
  | i + 1 => if (f i).testBit b = true then min (mn f N S b i) (nv f N (sdf S (f i)) + 1) else mn f N S b i
theorem mn_le (f : Nat → Nat) (N S b : Nat) : ∀ i, mn f N S b i ≤ 99
  | 0 => Nat.le_refl _
  | i + 1 => by
    unfold mn
    have := mn_le f N S b i
    split
    · exact Nat.le_trans (Nat.min_le_left _ _) this
    · exact this
theorem mn_anti {f : Nat → Nat} {N S b : Nat} : ∀ {j i : Nat}, i ≤ j → mn f N S b j ≤ mn f N S b i := by
  intro j
  induction j with
  | zero => intro i hi; have : i = 0 := by omega
            subst this; exact Nat.le_refl _
  | succ j ih =>
    intro i hi
    rcases Nat.eq_or_lt_of_le hi with e | e
    · subst e; exact Nat.le_refl _
    · refine Nat.le_trans ?_ (ih (by omega))
      show (if (f j).testBit b = true then min (mn f N S b j) (nv f N (sdf S (f j)) + 1) else mn f N S b j) ≤ mn f N S b j
      split
      · exact Nat.min_le_left _ _
      · exact Nat.le_refl _
theorem mn_nv {f : Nat → Nat} {N S b : Nat} (hN : 0 < N) (hS : S < 256) (hb : S.testBit b = true) : mn f N S b N = nv f N S := by
  apply Nat.le_antisymm
  · rcases nv_spec (f := f) hN hS with ⟨h1, h2⟩ | ⟨h1, -⟩
    · obtain ⟨g, g1, g2⟩ := h2.1
      obtain ⟨i, hi, hfi⟩ := g2 b hb
      obtain ⟨k, hk⟩ : ∃ k, nv f N S = k + 1 := ⟨nv f N S - 1, by omega⟩
      rw [hk] at g1 g2 hi
      have hr := Cv_rem (f := f) (N := N) (lo := 0) (k := k) (S := S) g1 g2 hi
      have hc := (g1 i hi).2
      have hlt : sdf S (f (g i)) < 256 := Nat.lt_of_le_of_lt (sdf_le _ _) hS
      have hnv : nv f N (sdf S (f (g i))) ≤ k := by
        rcases nv_spec (f := f) hN hlt with ⟨-, h4⟩ | ⟨-, h4⟩
        · exact h4.2 _ hr
        · exact absurd hr (h4 k)
      have h5 : mn f N S b (g i + 1) ≤ nv f N (sdf S (f (g i))) + 1 := by
        show (if (f (g i)).testBit b = true then min (mn f N S b (g i)) (nv f N (sdf S (f (g i))) + 1) else mn f N S b (g i)) ≤ _
        rw [if_pos hfi]
        exact Nat.min_le_right _ _
      have h6 := mn_anti (f := f) (N := N) (S := S) (b := b) (j := N) (i := g i + 1) hc
      omega
    · rw [h1]; exact mn_le f N S b N
  · have : ∀ i, i ≤ N → nv f N S ≤ mn f N S b i := by
      intro i
      induction i with
      | zero =>
        intro _
        show _ ≤ 99
        rcases nv_spec (f := f) hN hS with ⟨h1, -⟩ | ⟨h1, -⟩ <;> omega
      | succ i ih =>
        intro hi
        show _ ≤ (if (f i).testBit b = true then min (mn f N S b i) (nv f N (sdf S (f i)) + 1) else mn f N S b i)
        have ih' := ih (by omega)
        split
        · apply Nat.le_min.mpr
          refine ⟨ih', ?_⟩
          have hlt : sdf S (f i) < 256 := Nat.lt_of_le_of_lt (sdf_le _ _) hS
          rcases nv_spec (f := f) hN hlt with ⟨-, h4⟩ | ⟨h4, -⟩
          · have h5 := Cv_cons (f := f) (lo := 0) (Nat.zero_le i) hi h4.1
            rcases nv_spec (f := f) hN hS with ⟨-, h6⟩ | ⟨-, h6⟩
            · exact h6.2 _ h5
            · exact absurd h5 (h6 _)
          · rcases nv_spec (f := f) hN hS with ⟨h6, -⟩ | ⟨h6, -⟩ <;> omega
        · exact ih'
    exact this N (Nat.le_refl _)
/-- a cell that leaves one fewer -/
def Hp (f : Nat → Nat) (N S r c : Nat) : Prop := ∃ r', r = r' + 1 ∧ Nd f N (sdf S (f c)) r'
theorem Hp_of {f : Nat → Nat} {N S r' c : Nat} (hc : c < N) (hS : Nd f N S (r' + 1)) (h : Cv f N 0 r' (sdf S (f c))) : Hp f N S (r' + 1) c :=
  ⟨r', rfl, h, fun j hj => by
    have := hS.2 (j + 1) (Cv_cons (Nat.zero_le c) hc hj)
    omega⟩
/-- all cells of a least cover help -/
theorem Hp_all {f : Nat → Nat} {N S r : Nat} {g : Nat → Nat} (hS : Nd f N S r) (g1 : ∀ i, i < r → 0 ≤ g i ∧ g i < N) (g2 : ∀ b, S.testBit b = true → ∃ i, i < r ∧ (f (g i)).testBit b = true) {i : Nat} (hi : i < r) : Hp f N S r (g i) := by
  obtain ⟨r', rfl⟩ : ∃ r', r = r' + 1 := ⟨r - 1, by omega⟩
  exact Hp_of (g1 i hi).2 hS (Cv_rem (lo := 0) g1 g2 hi)
/-- where none below c helps, a least cover lies from c on -/
theorem Nd_lo {f : Nat → Nat} {N S r c : Nat} (hS : Nd f N S r) (hno : ∀ c', c' < c → ¬ Hp f N S r c') : Cv f N c r S := by
  obtain ⟨g, g1, g2⟩ := hS.1
  refine ⟨g, fun i hi => ⟨?_, (g1 i hi).2⟩, g2⟩
  rcases Nat.lt_or_ge (g i) c with q | q
  · exact absurd (Hp_all hS g1 g2 hi) (hno _ q)
  · exact q
/-- behind the least that helps -/
theorem Hp_next {f : Nat → Nat} {N S r' c : Nat} (hc : c < N) (hS : Nd f N S (r' + 1)) (hno : ∀ c', c' < c → ¬ Hp f N S (r' + 1) c') (hH : Nd f N (sdf S (f c)) r') : ∀ c', c' < c + 1 → c' < N → ¬ Hp f N (sdf S (f c)) r' c' := by
  rintro c' hlt hN' ⟨r2, rfl, h2⟩
  rcases Nat.lt_or_ge c' c with q | q
  · refine hno c' q (Hp_of hN' hS ?_)
    refine Cv_cons (Nat.zero_le c) hc ?_
    have e : sdf (sdf S (f c')) (f c) = sdf (sdf S (f c)) (f c') := by rw [← sdf_or, ← sdf_or, Nat.or_comm]
    rw [e]
    exact h2.1
  · have : c' = c := by omega
    subst this
    rw [sdf_sdf] at h2
    have := hH.2 _ h2.1
    omega
/-! the other table: cells in order, each taken or not -/
def Rv (f : Nat → Nat) (s : Nat → Bool) (N Full : Nat) : Nat → Nat → Nat → Prop
  | 0, k, T => k = 0 ∧ T = Full
  | m + 1, k, T => Rv f s N Full m k T ∨ (s (N - (m + 1)) = true ∧ ∃ k', k = k' + 1 ∧ Rv f s N Full m k' (T ||| f (N - (m + 1))))
def rv (f : Nat → Nat) (s : Nat → Bool) (N Full : Nat) : Nat → Nat → Nat
  | 0, T => if T = Full then 0 else 1000000
  | m + 1, T => if (if s (N - (m + 1)) = true then 1 + rv f s N Full m (T ||| f (N - (m + 1))) else 1000000) < rv f s N Full m T then (if s (N - (m + 1)) = true then 1 + rv f s N Full m (T ||| f (N - (m + 1))) else 1000000) else rv f s N Full m T
theorem rv_spec {f : Nat → Nat} {s : Nat → Bool} {N Full : Nat} : ∀ {m T : Nat}, m < 1000 → (rv f s N Full m T ≤ m ∧ Rv f s N Full m (rv f s N Full m T) T ∧ ∀ k, Rv f s N Full m k T → rv f s N Full m T ≤ k) ∨ (rv f s N Full m T = 1000000 ∧ ∀ k, ¬ Rv f s N Full m k T) := by
  intro m
  induction m with
  | zero =>
    intro T _
    unfold rv
    by_cases e : T = Full
    · rw [if_pos e]
      exact Or.inl ⟨Nat.le_refl _, ⟨rfl, e⟩, fun k _ => Nat.zero_le _⟩
    · rw [if_neg e]
      exact Or.inr ⟨rfl, fun k h => e h.2⟩
  | succ m ih =>
    intro T hm
    have A := ih (T := T) (by omega)
    have B := ih (T := T ||| f (N - (m + 1))) (by omega)
    unfold rv
    generalize rv f s N Full m T = x at *
    generalize rv f s N Full m (T ||| f (N - (m + 1))) = y at *
    cases hs : s (N - (m + 1)) with
    | false =>
      have e0 : (if false = true then 1 + y else 1000000) = 1000000 := rfl
      rw [e0]
      rcases A with ⟨a1, a2, a3⟩ | ⟨a1, a2⟩
      · rw [if_neg (by omega)]
        refine Or.inl ⟨by omega, Or.inl a2, fun k hk => ?_⟩
        rcases hk with hk | ⟨hk, -⟩
        · exact a3 k hk
        · rw [hs] at hk; cases hk
      · rw [if_neg (by omega)]
        refine Or.inr ⟨a1, fun k hk => ?_⟩
        rcases hk with hk | ⟨hk, -⟩
        · exact a2 k hk
        · rw [hs] at hk; cases hk
    | true =>
      have e0 : (if true = true then 1 + y else 1000000) = 1 + y := rfl
      rw [e0]
      rcases A with ⟨a1, a2, a3⟩ | ⟨a1, a2⟩ <;> rcases B with ⟨b1, b2, b3⟩ | ⟨b1, b2⟩
      · by_cases q : 1 + y < x
        · rw [if_pos q]
          refine Or.inl ⟨by omega, Or.inr ⟨hs, y, by omega, b2⟩, fun k hk => ?_⟩
          rcases hk with hk | ⟨-, k', e, hk⟩
          · have := a3 k hk; omega
          · have := b3 k' hk; omega
        · rw [if_neg q]
          refine Or.inl ⟨by omega, Or.inl a2, fun k hk => ?_⟩
          rcases hk with hk | ⟨-, k', e, hk⟩
          · exact a3 k hk
          · have := b3 k' hk; omega
      · rw [if_neg (by omega)]
        refine Or.inl ⟨by omega, Or.inl a2, fun k hk => ?_⟩
        rcases hk with hk | ⟨-, k', e, hk⟩
        · exact a3 k hk
        · exact absurd hk (b2 k')
      · rw [if_pos (by omega)]
        refine Or.inl ⟨by omega, Or.inr ⟨hs, y, by omega, b2⟩, fun k hk => ?_⟩
        rcases hk with hk | ⟨-, k', e, hk⟩
        · exact absurd hk (a2 k)
        · have := b3 k' hk; omega
      · rw [if_neg (by omega)]
        refine Or.inr ⟨a1, fun k hk => ?_⟩
        rcases hk with hk | ⟨-, k', e, hk⟩
        · exact a2 k hk
        · exact b2 k' hk
theorem Rv_Cv {f : Nat → Nat} {s : Nat → Bool} {N Full : Nat} : ∀ {m k T : Nat}, m ≤ N → Rv f s N Full m k T → Cv f N (N - m) k (sdf Full T) := by
  intro m
  induction m with
  | zero =>
    intro k T _ h
    obtain ⟨rfl, rfl⟩ := h
    have : sdf T T = 0 := by unfold sdf; simp
    rw [this]
    exact Cv_z
  | succ m ih =>
    intro k T hm h
    rcases h with h | ⟨-, k', rfl, h⟩
    · exact Cv_lo (by omega) (ih (by omega) h)
    · have := ih (by omega) h
      rw [sdf_or] at this
      exact Cv_cons (Nat.le_refl _) (by omega) (Cv_lo (by omega) this)
theorem Cv_split {f : Nat → Nat} {N c : Nat} : ∀ {k S : Nat}, Cv f N c k S → (∃ k', k' ≤ k ∧ Cv f N (c + 1) k' S) ∨ ∃ k', k' < k ∧ Cv f N (c + 1) k' (sdf S (f c)) := by
  intro k
  induction k with
  | zero =>
    intro S h
    rw [Cv_0 h]
    exact Or.inl ⟨0, Nat.le_refl _, Cv_z⟩
  | succ k ih =>
    intro S h
    obtain ⟨g, g1, g2⟩ := h
    by_cases hx : ∃ i, i < k + 1 ∧ g i = c
    · obtain ⟨i, hi, he⟩ := hx
      have hr := Cv_rem g1 g2 hi
      rw [he] at hr
      rcases ih hr with ⟨k', h1, h2⟩ | ⟨k', h1, h2⟩
      · exact Or.inr ⟨k', by omega, h2⟩
      · rw [sdf_sdf] at h2
        exact Or.inr ⟨k', by omega, h2⟩
    · refine Or.inl ⟨k + 1, Nat.le_refl _, g, fun i hi => ⟨?_, (g1 i hi).2⟩, g2⟩
      have := (g1 i hi).1
      rcases Nat.eq_or_lt_of_le this with e | e
      · exact absurd ⟨i, hi, e.symm⟩ hx
      · exact e
theorem Cv_Rv {f : Nat → Nat} {s : Nat → Bool} {N np : Nat} (hf : ∀ c, f c < 2 ^ np) (hs : ∀ c, s c = false → f c = 0) : ∀ {m k T : Nat}, m ≤ N → T < 2 ^ np → Cv f N (N - m) k (sdf (2 ^ np - 1) T) → ∃ k', k' ≤ k ∧ Rv f s N (2 ^ np - 1) m k' T := by
  intro m
  induction m with
  | zero =>
    intro k T _ hT h
    have hS : sdf (2 ^ np - 1) T = 0 := by
      apply Nat.eq_of_testBit_eq
      intro b
      rw [Nat.zero_testBit]
      obtain ⟨g, g1, g2⟩ := h
      cases hb : (sdf (2 ^ np - 1) T).testBit b with
      | false => rfl
      | true =>
        obtain ⟨i, hi, -⟩ := g2 b hb
        have := g1 i hi
        omega
    have hTF : T = 2 ^ np - 1 := by
      apply Nat.eq_of_testBit_eq
      intro b
      have h1 := sdf_tb (2 ^ np - 1) T b
      rw [hS, Nat.zero_testBit, Nat.testBit_two_pow_sub_one] at h1
      rw [Nat.testBit_two_pow_sub_one]
      rcases Nat.lt_or_ge b np with q | q
      · simp [q] at h1 ⊢; exact h1
      · have : T.testBit b = false := Nat.testBit_lt_two_pow (Nat.lt_of_lt_of_le hT (Nat.pow_le_pow_right (n := 2) (by decide) q))
        rw [this]; simp; omega
    exact ⟨0, Nat.zero_le _, rfl, hTF⟩
  | succ m ih =>
    intro k T hm hT h
    have e1 : N - (m + 1) + 1 = N - m := by omega
    rcases Cv_split h with ⟨k', h1, h2⟩ | ⟨k', h1, h2⟩
    · rw [e1] at h2
      obtain ⟨k2, w1, w2⟩ := ih (by omega) hT h2
      exact ⟨k2, by omega, Or.inl w2⟩
    · rw [e1] at h2
      cases hsc : s (N - (m + 1)) with
      | true =>
        rw [← sdf_or] at h2
        obtain ⟨k2, w1, w2⟩ := ih (by omega) (Nat.or_lt_two_pow hT (hf _)) h2
        exact ⟨k2 + 1, by omega, Or.inr ⟨hsc, k2, rfl, w2⟩⟩
      | false =>
        rw [hs _ hsc, sdf_0] at h2
        obtain ⟨k2, w1, w2⟩ := ih (by omega) hT h2
        exact ⟨k2, by omega, Or.inl w2⟩
/-- the table's value where none below c helps -/
theorem rv_at {f : Nat → Nat} {s : Nat → Bool} {N np c T r : Nat} (hN : N < 1000) (hf : ∀ c, f c < 2 ^ np) (hs : ∀ c, s c = false → f c = 0) (hc : c ≤ N) (hT : T < 2 ^ np) (hS : Nd f N (sdf (2 ^ np - 1) T) r) (hno : ∀ c', c' < c → ¬ Hp f N (sdf (2 ^ np - 1) T) r c') : rv f s N (2 ^ np - 1) (N - c) T = r := by
  have h1 := Nd_lo hS hno
  rw [show c = N - (N - c) by omega] at h1
  obtain ⟨k', w1, w2⟩ := Cv_Rv hf hs (by omega) hT h1
  rcases rv_spec (f := f) (s := s) (N := N) (Full := 2 ^ np - 1) (m := N - c) (T := T) (by omega) with ⟨-, a2, a3⟩ | ⟨-, a2⟩
  · have h3 := a3 k' w2
    have h4 := Rv_Cv (by omega) a2
    have h5 := hS.2 _ (Cv_lo (Nat.zero_le _) h4)
    omega
  · exact absurd w2 (a2 k')
/-- whether the table takes a cell -/
theorem rv_take {f : Nat → Nat} {s : Nat → Bool} {N np c T r : Nat} (hN : N < 1000) (hf : ∀ c, f c < 2 ^ np) (hs : ∀ c, s c = false → f c = 0) (hc : c < N) (hT : T < 2 ^ np) (hS : Nd f N (sdf (2 ^ np - 1) T) r) (hno : ∀ c', c' < c → ¬ Hp f N (sdf (2 ^ np - 1) T) r c') : (s c = true ∧ 0 < r ∧ 1 + rv f s N (2 ^ np - 1) (N - (c + 1)) (T ||| f c) = r) ↔ Hp f N (sdf (2 ^ np - 1) T) r c := by
  constructor
  · rintro ⟨h1, h2, h3⟩
    obtain ⟨r', rfl⟩ : ∃ r', r = r' + 1 := ⟨r - 1, by omega⟩
    have e : rv f s N (2 ^ np - 1) (N - (c + 1)) (T ||| f c) = r' := by omega
    refine Hp_of hc hS ?_
    rcases rv_spec (f := f) (s := s) (N := N) (Full := 2 ^ np - 1) (m := N - (c + 1)) (T := T ||| f c) (by omega) with ⟨-, a2, -⟩ | ⟨a1, -⟩
    · rw [e] at a2
      have h4 := Rv_Cv (by omega) a2
      rw [sdf_or] at h4
      exact Cv_lo (Nat.zero_le _) h4
    · exfalso
      rw [e] at a1
      obtain ⟨g, g1, g2⟩ := hS.1
      have h0 := rv_at (c := 0) (T := T) hN hf hs (Nat.zero_le _) hT hS (fun c' h => absurd h (Nat.not_lt_zero _))
      rcases rv_spec (f := f) (s := s) (N := N) (Full := 2 ^ np - 1) (m := N - 0) (T := T) (by omega) with ⟨b1, -, -⟩ | ⟨-, b2⟩
      · omega
      · obtain ⟨k2, -, w2⟩ := Cv_Rv (f := f) (s := s) (N := N) (np := np) hf hs (m := N - 0) (k := r' + 1) (T := T) (by omega) hT (by rw [show N - (N - 0) = 0 by omega]; exact hS.1)
        exact b2 k2 w2
  · rintro ⟨r', rfl, hH⟩
    refine ⟨?_, by omega, ?_⟩
    · cases hsc : s c with
      | true => rfl
      | false =>
        rw [hs c hsc, sdf_0] at hH
        have := hS.2 _ hH.1
        omega
    · have hnx := Hp_next hc hS hno hH
      have := rv_at (c := c + 1) (T := T ||| f c) (r := r') hN hf hs hc (Nat.or_lt_two_pow hT (hf c)) (by rw [sdf_or]; exact hH) (fun c' h => by rw [sdf_or]; exact hnx c' h (by omega))
      omega
/-- the posts in their order -/
def Ps (f : Nat → Nat) (N Full K : Nat) : Nat → Nat → Prop
  | 0, S => S = Full
  | j + 1, S => ∃ S' c, Ps f N Full K j S' ∧ (c < N ∧ Hp f N S' (K - j) c ∧ ∀ c', c' < c → ¬ Hp f N S' (K - j) c') ∧ S = sdf S' (f c)
def Pst (f : Nat → Nat) (N Full K j c : Nat) : Prop := ∃ S, Ps f N Full K j S ∧ c < N ∧ Hp f N S (K - j) c ∧ ∀ c', c' < c → ¬ Hp f N S (K - j) c'
theorem Lh_one {f : Nat → Nat} {N S r c c' : Nat} (h : Hp f N S r c ∧ ∀ x, x < c → ¬ Hp f N S r x) (h' : Hp f N S r c' ∧ ∀ x, x < c' → ¬ Hp f N S r x) : c = c' := by
  rcases Nat.lt_trichotomy c c' with q | q | q
  · exact absurd h.1 (h'.2 c q)
  · exact q
  · exact absurd h'.1 (h.2 c' q)
theorem Ps_one {f : Nat → Nat} {N Full K : Nat} : ∀ {j S S' : Nat}, Ps f N Full K j S → Ps f N Full K j S' → S = S'
  | 0, _, _, h, h' => h.trans h'.symm
  | j + 1, _, _, h, h' => by
    obtain ⟨S1, c1, p1, ⟨-, l1⟩, rfl⟩ := h
    obtain ⟨S2, c2, p2, ⟨-, l2⟩, rfl⟩ := h'
    have := Ps_one p1 p2
    subst this
    rw [Lh_one l1 l2]
theorem Pst_one {f : Nat → Nat} {N Full K j c c' : Nat} (h : Pst f N Full K j c) (h' : Pst f N Full K j c') : c = c' := by
  obtain ⟨S1, p1, -, l1⟩ := h
  obtain ⟨S2, p2, -, l2⟩ := h'
  have := Ps_one p1 p2
  subst this
  exact Lh_one l1 l2
theorem Ps_nd {f : Nat → Nat} {N Full K : Nat} (h0 : Nd f N Full K) : ∀ {j S : Nat}, Ps f N Full K j S → j ≤ K ∧ Nd f N S (K - j) ∧ S ≤ Full
  | 0, S, h => by
    have h' : S = Full := h
    subst h'
    exact ⟨Nat.zero_le _, h0, Nat.le_refl _⟩
  | j + 1, S, h => by
    obtain ⟨S1, c1, p1, ⟨-, ⟨r', e, hn⟩, -⟩, rfl⟩ := h
    obtain ⟨i1, i2, i3⟩ := Ps_nd h0 p1
    refine ⟨by omega, ?_, Nat.le_trans (sdf_le _ _) i3⟩
    rw [show K - (j + 1) = r' by omega]
    exact hn
theorem Hp_ex {f : Nat → Nat} {N S r : Nat} (hS : Nd f N S (r + 1)) : ∃ c, c < N ∧ Hp f N S (r + 1) c := by
  obtain ⟨g, g1, g2⟩ := hS.1
  exact ⟨g 0, (g1 0 (by omega)).2, Hp_all hS g1 g2 (by omega)⟩
