/-! a search from behind, with a queue and a row of distances -/
theorem pigeon : ∀ (N n : Nat) (f : Nat → Nat), (∀ i, i < n → f i < N) → (∀ i j, i < j → j < n → f i ≠ f j) → n ≤ N := by
  intro N
  induction N with
  | zero =>
    intro n f h1 _
    rcases Nat.eq_zero_or_pos n with q | q
    · omega
    · exact absurd (h1 0 q) (Nat.not_lt_zero _)
  | succ N ih =>
    intro n f h1 h2
    by_cases hx : ∃ i, i < n ∧ f i = N
    · obtain ⟨i, hi, he⟩ := hx
      have := ih (n - 1) (fun j => if j < i then f j else f (j + 1)) (fun j hj => ?_) (fun j k hjk hk => ?_)
      · omega
      · show (if j < i then f j else f (j + 1)) < N
        by_cases q : j < i
        · rw [if_pos q]
          have a1 := h1 j (by omega)
          have a2 := h2 j i q hi
          omega
        · rw [if_neg q]
          have a1 := h1 (j + 1) (by omega)
          have a2 := h2 i (j + 1) (by omega) (by omega)
          omega
      · show (if j < i then f j else f (j + 1)) ≠ (if k < i then f k else f (k + 1))
        by_cases q : j < i
        · rw [if_pos q]
          by_cases q2 : k < i
          · rw [if_pos q2]; exact h2 j k hjk (by omega)
          · rw [if_neg q2]; exact h2 j (k + 1) (by omega) (by omega)
        · rw [if_neg q, if_neg (by omega)]
          exact h2 (j + 1) (k + 1) (by omega) (by omega)
    · have := ih n f (fun i hi => by
        have a1 := h1 i hi
        rcases Nat.lt_or_ge (f i) N with q | q
        · exact q
        · exact absurd ⟨i, hi, by omega⟩ hx) h2
      omega
def BQ (mv : Nat → Nat → Option Nat) (goal : Nat → Prop) (K : Nat) (q D : Nat → Int32) (st dp : Nat → Nat) (many mark : Nat) : Prop :=
  ((∀ i, i < many → q i = nI (st i) ∧ st i < K ∧ D (st i) = nI (dp i)) ∧ (∀ s, s < K → (∀ i, i < many → st i ≠ s) → D s = -9)) ∧ Bck mv goal st dp many mark ∧ (∀ i, i < many → dp i ≤ i) ∧ (∀ j, j < many → mark < many → dp j ≤ dp mark + 1)
theorem BQ_le {mv : Nat → Nat → Option Nat} {goal : Nat → Prop} {K : Nat} {q D : Nat → Int32} {st dp : Nat → Nat} {many mark : Nat} (B : BQ mv goal K q D st dp many mark) : many ≤ K := pigeon K many st (fun i hi => (B.1.1 i hi).2.1) B.2.1.2.2.1
/-- what comes of a search that has ended -/
def DT (mv : Nat → Nat → Option Nat) (goal : Nat → Prop) (K : Nat) (D : Nat → Int32) : Prop := ∀ s, s < K → (D s = -9 ∧ ∀ k, ¬ Gd mv goal k s) ∨ ∃ k, D s = nI k ∧ Dist mv goal s k ∧ k < K
theorem BQ_end {mv : Nat → Nat → Option Nat} {goal : Nat → Prop} {K : Nat} {q D : Nat → Int32} {st dp : Nat → Nat} {many mark : Nat} (B : BQ mv goal K q D st dp many mark) (hm : many ≤ mark) : DT mv goal K D := by
  intro s hs
  have hle := BQ_le B
  by_cases hx : ∃ i, i < many ∧ st i = s
  · obtain ⟨i, hi, rfl⟩ := hx
    exact Or.inr ⟨dp i, (B.1.1 i hi).2.2, Bck_dist B.2.1 hm hi, by have := B.2.2.1 i hi; omega⟩
  · refine Or.inl ⟨B.1.2 s hs (fun i hi e => hx ⟨i, hi, e⟩), fun k hk => ?_⟩
    obtain ⟨j, j1, j2, -⟩ := Bck_end B.2.1 hm hk
    exact hx ⟨j, j1, j2⟩
def BI (mv : Nat → Nat → Option Nat) (goal : Nat → Prop) (K : Nat) (q D : Nat → Int32) (many mark c b : Nat) (Done : Nat → Prop) : Prop :=
  ∃ st dp, BQ mv goal K q D st dp many mark ∧ mark < many ∧ st mark = c ∧ dp mark = b ∧ ∀ s, Done s → ∃ j, j < many ∧ st j = s ∧ dp j ≤ b + 1
theorem BI_start {mv : Nat → Nat → Option Nat} {goal : Nat → Prop} {K : Nat} {q D : Nat → Int32} {st dp : Nat → Nat} {many mark : Nat} (B : BQ mv goal K q D st dp many mark) (hm : mark < many) : ∃ c b, BI mv goal K q D many mark c b (fun _ => False) :=
  ⟨st mark, dp mark, st, dp, B, hm, rfl, rfl, fun _ h => h.elim⟩
theorem BI_at {mv : Nat → Nat → Option Nat} {goal : Nat → Prop} {K : Nat} {q D : Nat → Int32} {many mark c b : Nat} {Done : Nat → Prop} (B : BI mv goal K q D many mark c b Done) : q mark = nI c ∧ D c = nI b ∧ c < K ∧ b < K ∧ Gd mv goal b c ∧ many ≤ K ∧ mark < many := by
  obtain ⟨st, dp, B, hm, rfl, rfl, -⟩ := B
  have h := B.1.1 mark hm
  have hle := BQ_le B
  exact ⟨h.1, h.2.2, h.2.1, by have := B.2.2.1 mark hm; omega, B.2.1.2.1 mark hm, hle, hm⟩
theorem BI_sub {mv : Nat → Nat → Option Nat} {goal : Nat → Prop} {K : Nat} {q D : Nat → Int32} {many mark c b : Nat} {Done Done' : Nat → Prop} (B : BI mv goal K q D many mark c b Done) (h : ∀ s, Done' s → Done s) : BI mv goal K q D many mark c b Done' := by
  obtain ⟨st, dp, B, hm, h1, h2, h3⟩ := B
  exact ⟨st, dp, B, hm, h1, h2, fun s hs => h3 s (h s hs)⟩
theorem BI_old {mv : Nat → Nat → Option Nat} {goal : Nat → Prop} {K : Nat} {q D : Nat → Int32} {many mark c b s : Nat} {Done : Nat → Prop} (B : BI mv goal K q D many mark c b Done) (hs : s < K) (hD : ¬ D s = -9) : BI mv goal K q D many mark c b (fun x => Done x ∨ x = s) := by
  obtain ⟨st, dp, B, hm, rfl, rfl, h3⟩ := B
  refine ⟨st, dp, B, hm, rfl, rfl, fun x hx => ?_⟩
  rcases hx with hx | rfl
  · exact h3 x hx
  · by_cases hq : ∃ i, i < many ∧ st i = x
    · obtain ⟨i, hi, rfl⟩ := hq
      exact ⟨i, hi, rfl, B.2.2.2 i hi hm⟩
    · exact absurd (B.1.2 x hs (fun i hi e => hq ⟨i, hi, e⟩)) hD
theorem BI_new {mv : Nat → Nat → Option Nat} {goal : Nat → Prop} {K : Nat} {q D : Nat → Int32} {many mark c b s : Nat} {Done : Nat → Prop} (B : BI mv goal K q D many mark c b Done) (hK : K < 65536) (hs : s < K) (hD : D s = -9) (hg : Gd mv goal (b + 1) s) : many < K ∧ BI mv goal K (upd q many (nI s)) (upd D s (nI (b + 1))) (many + 1) mark c b (fun x => Done x ∨ x = s) := by
  obtain ⟨st, dp, B, hm, rfl, rfl, h3⟩ := B
  have hle := BQ_le B
  have hout : ∀ i, i < many → st i ≠ s := by
    intro i hi e
    have h1 := (B.1.1 i hi).2.2
    rw [e, hD] at h1
    have := B.2.2.1 i hi
    exact nI_ne9 (n := dp i) (by omega) h1.symm
  have S : ∀ i, i < many → (if i = many then s else st i) = st i := fun i hi => if_neg (by omega)
  have P : ∀ i, i < many → (if i = many then dp mark + 1 else dp i) = dp i := fun i hi => if_neg (by omega)
  have Sn : (if many = many then s else st many) = s := if_pos rfl
  have Pn : (if many = many then dp mark + 1 else dp many) = dp mark + 1 := if_pos rfl
  have B2 : BQ mv goal K (upd q many (nI s)) (upd D s (nI (dp mark + 1))) (fun i => if i = many then s else st i) (fun i => if i = many then dp mark + 1 else dp i) (many + 1) mark := by
    refine ⟨⟨fun i hi => ?_, fun x hx hno => ?_⟩, ⟨fun g hg => ?_, fun i hi => ?_, fun i j hij hj => ?_, fun i j hij hj => ?_, fun i d x hi hd hmv => ?_⟩, fun i hi => ?_, fun j hj _ => ?_⟩
    · rcases Nat.lt_or_ge i many with e | e
      · have h := B.1.1 i e
        show upd q many (nI s) i = nI (if i = many then s else st i) ∧ (if i = many then s else st i) < K ∧ upd D s (nI (dp mark + 1)) (if i = many then s else st i) = nI (if i = many then dp mark + 1 else dp i)
        rw [S i e, P i e, u_n (by omega), u_n (hout i e)]
        exact h
      · have e2 : i = many := by omega
        subst e2
        show upd q i (nI s) i = nI (if i = i then s else st i) ∧ (if i = i then s else st i) < K ∧ upd D s (nI (dp mark + 1)) (if i = i then s else st i) = nI (if i = i then dp mark + 1 else dp i)
        rw [Sn, Pn, u_s, u_s]
        exact ⟨rfl, hs, rfl⟩
    · have hxs : x ≠ s := fun e => hno many (by omega) (by show (if many = many then s else st many) = x; rw [Sn]; exact e.symm)
      rw [u_n hxs]
      refine B.1.2 x hx (fun i hi e => hno i (by omega) ?_)
      show (if i = many then s else st i) = x
      rw [S i hi]; exact e
    · obtain ⟨j, h1, h2, h4⟩ := B.2.1.1 g hg
      refine ⟨j, by omega, ?_, ?_⟩
      · show (if j = many then s else st j) = g
        rw [S j h1]; exact h2
      · show (if j = many then dp mark + 1 else dp j) = 0
        rw [P j h1]; exact h4
    · show Gd mv goal (if i = many then dp mark + 1 else dp i) (if i = many then s else st i)
      rcases Nat.lt_or_ge i many with e | e
      · rw [S i e, P i e]; exact B.2.1.2.1 i e
      · have e2 : i = many := by omega
        subst e2
        rw [Sn, Pn]; exact hg
    · show (if i = many then s else st i) ≠ (if j = many then s else st j)
      rcases Nat.lt_or_ge j many with e | e
      · rw [S j e, S i (by omega)]; exact B.2.1.2.2.1 i j hij e
      · have e2 : j = many := by omega
        subst e2
        rw [Sn, S i hij]; exact hout i hij
    · show (if i = many then dp mark + 1 else dp i) ≤ (if j = many then dp mark + 1 else dp j)
      rcases Nat.lt_or_ge j many with e | e
      · rw [P j e, P i (by omega)]; exact B.2.1.2.2.2.1 i j hij e
      · have e2 : j = many := by omega
        subst e2
        rw [Pn]
        rcases Nat.lt_or_ge i j with e3 | e3
        · rw [P i e3]; exact B.2.2.2 i e3 hm
        · have : i = j := by omega
          subst this
          rw [Pn]; exact Nat.le_refl _
    · have hi2 : i < many := by omega
      have hmv2 : mv x d = some (st i) := by
        have : mv x d = some (if i = many then s else st i) := hmv
        rw [S i hi2] at this; exact this
      obtain ⟨j, h1, h2, h4⟩ := B.2.1.2.2.2.2 i d x hi hd hmv2
      refine ⟨j, by omega, ?_, ?_⟩
      · show (if j = many then s else st j) = x
        rw [S j h1]; exact h2
      · show (if j = many then dp mark + 1 else dp j) ≤ (if i = many then dp mark + 1 else dp i) + 1
        rw [P j h1, P i hi2]; exact h4
    · show (if i = many then dp mark + 1 else dp i) ≤ i
      rcases Nat.lt_or_ge i many with e | e
      · rw [P i e]; exact B.2.2.1 i e
      · have e2 : i = many := by omega
        subst e2
        rw [Pn]
        have := B.2.2.1 mark hm
        omega
    · show (if j = many then dp mark + 1 else dp j) ≤ (if mark = many then dp mark + 1 else dp mark) + 1
      rw [P mark hm]
      rcases Nat.lt_or_ge j many with e | e
      · rw [P j e]; exact B.2.2.2 j e hm
      · have e2 : j = many := by omega
        subst e2
        rw [Pn]; exact Nat.le_refl _
  refine ⟨by have := BQ_le B2; omega, _, _, B2, by omega, S mark hm, P mark hm, fun x hx => ?_⟩
  rcases hx with hx | rfl
  · obtain ⟨j, h1, h2, h4⟩ := h3 x hx
    refine ⟨j, by omega, ?_, ?_⟩
    · show (if j = many then s else st j) = x
      rw [S j h1]; exact h2
    · show (if j = many then dp mark + 1 else dp j) ≤ dp mark + 1
      rw [P j h1]; exact h4
  · refine ⟨many, by omega, Sn, ?_⟩
    show (if many = many then dp mark + 1 else dp many) ≤ dp mark + 1
    rw [Pn]; exact Nat.le_refl _
theorem BI_end {mv : Nat → Nat → Option Nat} {goal : Nat → Prop} {K : Nat} {q D : Nat → Int32} {many mark c b : Nat} {Done : Nat → Prop} (B : BI mv goal K q D many mark c b Done) (h : ∀ d s, d < 8 → mv s d = some c → Done s) : ∃ st dp, BQ mv goal K q D st dp many (mark + 1) := by
  obtain ⟨st, dp, B, hm, rfl, rfl, h3⟩ := B
  refine ⟨st, dp, B.1, ⟨B.2.1.1, B.2.1.2.1, B.2.1.2.2.1, B.2.1.2.2.2.1, fun i d s hi hd hmv => ?_⟩, B.2.2.1, fun j hj hm2 => ?_⟩
  · rcases Nat.lt_or_ge i mark with e | e
    · exact B.2.1.2.2.2.2 i d s e hd hmv
    · have : i = mark := by omega
      subst this
      exact h3 s (h d s hd hmv)
  · have h1 := B.2.2.2 j hj hm
    have h2 := B.2.1.2.2.2.1 mark (mark + 1) (by omega) hm2
    omega
