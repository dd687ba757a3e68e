/-! graphs: a word of moves is a number, 1 at first, 8 e + d behind move d: shorter words are less, of like length the first in order -/
def Rn (mv : Nat → Nat → Option Nat) (s0 : Nat) : Nat → Nat → Nat → Prop
  | 0, e, s => e = 1 ∧ s = s0
  | k + 1, e, s => ∃ e' d s', d < 8 ∧ e = 8 * e' + d ∧ Rn mv s0 k e' s' ∧ mv s' d = some s
theorem Rn_bd {mv : Nat → Nat → Option Nat} {s0 : Nat} : ∀ {k e s : Nat}, Rn mv s0 k e s → 8 ^ k ≤ e ∧ e < 2 * 8 ^ k
  | 0, e, s, h => by obtain ⟨rfl, -⟩ := h; decide
  | k + 1, e, s, h => by
    obtain ⟨e', d, s', hd, rfl, h', -⟩ := h
    have ih := Rn_bd h'
    rw [Nat.pow_succ]
    omega
theorem Rn_pos {mv : Nat → Nat → Option Nat} {s0 k e s : Nat} (h : Rn mv s0 k e s) : 1 ≤ e := by
  have h1 := (Rn_bd h).1
  have h2 : 0 < 8 ^ k := Nat.pow_pos (by decide)
  omega
theorem pow8_lt {a b : Nat} (h : a < b) : 8 * 8 ^ a ≤ 8 ^ b := by
  have h1 : 8 ^ (a + 1) ≤ 8 ^ b := Nat.pow_le_pow_right (by decide) h
  rw [Nat.pow_succ] at h1
  omega
theorem Rn_len {mv mv2 : Nat → Nat → Option Nat} {s0 s1 k e s k' e' s' : Nat} (h : Rn mv s0 k e s) (h' : Rn mv2 s1 k' e' s') (he : e ≤ e') : k ≤ k' := by
  have h1 := Rn_bd h
  have h2 := Rn_bd h'
  rcases Nat.lt_or_ge k' k with q | q
  · have := pow8_lt q
    omega
  · exact q
theorem Rn_det {mv : Nat → Nat → Option Nat} {s0 : Nat} : ∀ {k e s k' s' : Nat}, Rn mv s0 k e s → Rn mv s0 k' e s' → k = k' ∧ s = s' := by
  intro k
  induction k with
  | zero =>
    intro e s k' s' h h'
    have hk : k' = 0 := Nat.le_zero.mp (Rn_len h' h (Nat.le_refl _))
    subst hk
    exact ⟨rfl, h.2.trans h'.2.symm⟩
  | succ k ih =>
    intro e s k' s' h h'
    have hk : k' = k + 1 := Nat.le_antisymm (Rn_len h' h (Nat.le_refl _)) (Rn_len h h' (Nat.le_refl _))
    subst hk
    obtain ⟨e1, d1, s1, hd1, rfl, r1, m1⟩ := h
    obtain ⟨e2, d2, s2, hd2, he, r2, m2⟩ := h'
    have h3 : e1 = e2 := by omega
    have h4 : d1 = d2 := by omega
    subst h3; subst h4
    have h5 := (ih r1 r2).2
    subst h5
    exact ⟨rfl, Option.some.inj (m1.symm.trans m2)⟩
def Best (mv : Nat → Nat → Option Nat) (s0 : Nat) (goal : Nat → Prop) (k e : Nat) : Prop :=
  (∃ g, Rn mv s0 k e g ∧ goal g) ∧ ∀ k' e' g', Rn mv s0 k' e' g' → goal g' → e ≤ e'
def NoWay (mv : Nat → Nat → Option Nat) (s0 : Nat) (goal : Nat → Prop) : Prop := ∀ k e g, Rn mv s0 k e g → ¬ goal g
theorem Best_one {mv : Nat → Nat → Option Nat} {s0 : Nat} {goal : Nat → Prop} {k e k' e' : Nat} (h : Best mv s0 goal k e) (h' : Best mv s0 goal k' e') : k = k' ∧ e = e' := by
  obtain ⟨⟨g, r, hg⟩, b⟩ := h
  obtain ⟨⟨g', r', hg'⟩, b'⟩ := h'
  have he : e = e' := Nat.le_antisymm (b _ _ _ r' hg') (b' _ _ _ r hg)
  subst he
  exact ⟨(Rn_det r r').1, rfl⟩
theorem Best_not {mv : Nat → Nat → Option Nat} {s0 : Nat} {goal : Nat → Prop} {k e : Nat} (h : Best mv s0 goal k e) (h' : NoWay mv s0 goal) : False := by
  obtain ⟨⟨g, r, hg⟩, -⟩ := h
  exact h' _ _ _ r hg
/-- a search in order of coming: entries 0 .. size-1, those ahead of mark are left -/
def Bfs (mv : Nat → Nat → Option Nat) (s0 : Nat) (goal : Nat → Prop) (st cd dp : Nat → Nat) (size mark : Nat) : Prop :=
  (0 < size ∧ st 0 = s0 ∧ cd 0 = 1 ∧ dp 0 = 0) ∧ (∀ i, i < size → Rn mv s0 (dp i) (cd i) (st i)) ∧ (∀ i j, i < j → j < size → cd i < cd j) ∧ (∀ i j, i < j → j < size → st i ≠ st j) ∧
  (∀ i d t, i < mark → d < 8 → mv (st i) d = some t → ∃ j, j < size ∧ st j = t ∧ cd j ≤ 8 * cd i + d) ∧ (∀ i, i < mark → ¬ goal (st i))
theorem Bfs_cover {mv : Nat → Nat → Option Nat} {s0 : Nat} {goal : Nat → Prop} {st cd dp : Nat → Nat} {size mark : Nat} (B : Bfs mv s0 goal st cd dp size mark) :
    ∀ {k e s : Nat}, Rn mv s0 k e s → (∃ j, j < size ∧ st j = s ∧ cd j ≤ e) ∨ (∃ j, mark ≤ j ∧ j < size ∧ cd j ≤ e) := by
  obtain ⟨⟨b0, b1, b2, b3⟩, hr, hc, hs, he, hg⟩ := B
  intro k
  induction k with
  | zero =>
    intro e s h
    obtain ⟨rfl, rfl⟩ := h
    exact Or.inl ⟨0, b0, b1, by omega⟩
  | succ k ih =>
    intro e s h
    obtain ⟨e', d, s', hd, rfl, r, hm⟩ := h
    rcases ih r with ⟨j, j1, j2, j3⟩ | ⟨j, j1, j2, j3⟩
    · rcases Nat.lt_or_ge j mark with q | q
      · obtain ⟨i, i1, i2, i3⟩ := he j d s q hd (by rw [j2]; exact hm)
        exact Or.inl ⟨i, i1, i2, by omega⟩
      · exact Or.inr ⟨j, q, j1, by omega⟩
    · exact Or.inr ⟨j, j1, j2, by omega⟩
theorem Bfs_goal {mv : Nat → Nat → Option Nat} {s0 : Nat} {goal : Nat → Prop} {st cd dp : Nat → Nat} {size mark : Nat} (B : Bfs mv s0 goal st cd dp size mark) (hm : mark < size) (hg : goal (st mark)) : Best mv s0 goal (dp mark) (cd mark) := by
  refine ⟨⟨st mark, B.2.1 mark hm, hg⟩, fun k e g r hgg => ?_⟩
  have mono : ∀ j, mark ≤ j → j < size → cd mark ≤ cd j := fun j h1 h2 => by
    rcases Nat.lt_or_ge mark j with q | q
    · exact Nat.le_of_lt (B.2.2.1 mark j q h2)
    · have : j = mark := by omega
      rw [this]; exact Nat.le_refl _
  rcases Bfs_cover B r with ⟨j, j1, j2, j3⟩ | ⟨j, j1, j2, j3⟩
  · rcases Nat.lt_or_ge j mark with q | q
    · exact absurd (by rw [j2]; exact hgg) (B.2.2.2.2.2 j q)
    · exact Nat.le_trans (mono j q j1) j3
  · exact Nat.le_trans (mono j j1 j2) j3
theorem Bfs_none {mv : Nat → Nat → Option Nat} {s0 : Nat} {goal : Nat → Prop} {st cd dp : Nat → Nat} {size mark : Nat} (B : Bfs mv s0 goal st cd dp size mark) (hm : size ≤ mark) : NoWay mv s0 goal := by
  intro k e g r hgg
  rcases Bfs_cover B r with ⟨j, j1, j2, -⟩ | ⟨j, j1, j2, -⟩
  · exact B.2.2.2.2.2 j (by omega) (by rw [j2]; exact hgg)
  · omega
/-- how far from a goal -/
def Gd (mv : Nat → Nat → Option Nat) (goal : Nat → Prop) : Nat → Nat → Prop
  | 0, s => goal s
  | k + 1, s => ∃ d t, d < 8 ∧ mv s d = some t ∧ Gd mv goal k t
def Dist (mv : Nat → Nat → Option Nat) (goal : Nat → Prop) (s k : Nat) : Prop := Gd mv goal k s ∧ ∀ j, Gd mv goal j s → k ≤ j
theorem Dist_one {mv : Nat → Nat → Option Nat} {goal : Nat → Prop} {s k k' : Nat} (h : Dist mv goal s k) (h' : Dist mv goal s k') : k = k' := Nat.le_antisymm (h.2 _ h'.1) (h'.2 _ h.1)
/-- a word of n moves behind a word -/
theorem Rn_app {mv : Nat → Nat → Option Nat} {s0 : Nat} {goal : Nat → Prop} : ∀ {n k e s : Nat}, Rn mv s0 k e s → Gd mv goal n s → ∃ e' g, Rn mv s0 (k + n) e' g ∧ goal g := by
  intro n
  induction n with
  | zero => intro k e s r h; exact ⟨e, s, r, h⟩
  | succ n ih =>
    intro k e s r h
    obtain ⟨d, t, hd, hm, h⟩ := h
    have := ih (k := k + 1) (e := 8 * e + d) (s := t) ⟨e, d, s, hd, rfl, r, hm⟩ h
    rwa [show k + 1 + n = k + (n + 1) by omega] at this
/-- a word's part: its first j moves -/
theorem Rn_pre {mv : Nat → Nat → Option Nat} {s0 : Nat} {goal : Nat → Prop} : ∀ {n j e g : Nat}, Rn mv s0 (j + n) e g → goal g → ∃ e' s, e' = e / 8 ^ n ∧ Rn mv s0 j e' s ∧ Gd mv goal n s := by
  intro n
  induction n generalizing goal with
  | zero => intro j e g r h; exact ⟨e, g, by simp, r, h⟩
  | succ n ih =>
    intro j e g r h
    obtain ⟨e1, d, s1, hd, rfl, r1, hm⟩ := r
    obtain ⟨e2, s2, h1, h2, h3⟩ := ih (goal := fun x => ∃ d t, d < 8 ∧ mv x d = some t ∧ goal t) r1 ⟨d, g, hd, hm, h⟩
    refine ⟨e2, s2, ?_, h2, ?_⟩
    · rw [h1, Nat.pow_succ, Nat.mul_comm (8 ^ n) 8, ← Nat.div_div_eq_div_mul, show (8 * e1 + d) / 8 = e1 by omega]
    · clear h1 h2 r1 hm h ih hd
      have key : ∀ (n s : Nat), Gd mv (fun x => ∃ d t, d < 8 ∧ mv x d = some t ∧ goal t) n s → Gd mv goal (n + 1) s := by
        intro n
        induction n with
        | zero => intro s h; exact h
        | succ n ih =>
          intro s h
          obtain ⟨d, t, h1, h2, h3⟩ := h
          exact ⟨d, t, h1, h2, ih t h3⟩
      exact key n s2 h3
/-- the first in order of those that go nearer, step by step -/
def Greedy (mv : Nat → Nat → Option Nat) (goal : Nat → Prop) (s0 K : Nat) : Nat → Nat → Nat → Prop
  | 0, e, s => e = 1 ∧ s = s0
  | j + 1, e, s => ∃ e' d s', d < 8 ∧ e = 8 * e' + d ∧ Greedy mv goal s0 K j e' s' ∧ mv s' d = some s ∧ Dist mv goal s (K - (j + 1)) ∧ ∀ d' t', d' < d → mv s' d' = some t' → ¬ Dist mv goal t' (K - (j + 1))
theorem Greedy_run {mv : Nat → Nat → Option Nat} {goal : Nat → Prop} {s0 K : Nat} : ∀ {j e s : Nat}, Greedy mv goal s0 K j e s → Rn mv s0 j e s
  | 0, _, _, h => h
  | _ + 1, _, _, h => by
    obtain ⟨e', d, s', hd, he, h', hm, -⟩ := h
    exact ⟨e', d, s', hd, he, Greedy_run h', hm⟩
theorem Greedy_dist {mv : Nat → Nat → Option Nat} {goal : Nat → Prop} {s0 K : Nat} (h0 : Dist mv goal s0 K) : ∀ {j e s : Nat}, Greedy mv goal s0 K j e s → Dist mv goal s (K - j)
  | 0, _, _, h => by rw [h.2]; exact h0
  | _ + 1, _, _, h => by
    obtain ⟨e', d, s', hd, he, h', hm, hD, -⟩ := h
    exact hD
theorem Greedy_least {mv : Nat → Nat → Option Nat} {goal : Nat → Prop} {s0 K : Nat} (h0 : Dist mv goal s0 K) : ∀ {j e s : Nat}, j ≤ K → Greedy mv goal s0 K j e s → ∀ e' s', Rn mv s0 j e' s' → Gd mv goal (K - j) s' → e < e' ∨ (e = e' ∧ s = s') := by
  intro j
  induction j with
  | zero =>
    intro e s _ h e' s' r _
    exact Or.inr ⟨h.1.trans r.1.symm, h.2.trans r.2.symm⟩
  | succ j ih =>
    intro e s hj h e' s' r hG
    obtain ⟨e1, d1, s1, hd1, rfl, g1, m1, D1, least⟩ := h
    obtain ⟨e2, d2, s2, hd2, rfl, r2, m2⟩ := r
    have hG2 : Gd mv goal (K - j) s2 := by
      rw [show K - j = (K - (j + 1)) + 1 by omega]
      exact ⟨d2, s', hd2, m2, hG⟩
    rcases ih (by omega) g1 e2 s2 r2 hG2 with q | ⟨q1, q2⟩
    · exact Or.inl (by omega)
    · subst q1; subst q2
      have D0 := Greedy_dist h0 g1
      have Ds : Dist mv goal s' (K - (j + 1)) := ⟨hG, fun i hi => by
        have := D0.2 (i + 1) ⟨d2, s', hd2, m2, hi⟩
        omega⟩
      rcases Nat.lt_trichotomy d1 d2 with q | q | q
      · exact Or.inl (by omega)
      · subst q
        exact Or.inr ⟨rfl, Option.some.inj (m1.symm.trans m2)⟩
      · exact absurd Ds (least d2 s' q m2)
theorem Greedy_best {mv : Nat → Nat → Option Nat} {goal : Nat → Prop} {s0 K e s : Nat} (h0 : Dist mv goal s0 K) (h : Greedy mv goal s0 K K e s) : Best mv s0 goal K e := by
  have hD := Greedy_dist h0 h
  rw [Nat.sub_self] at hD
  refine ⟨⟨s, Greedy_run h, hD.1⟩, fun k' e' g' r hg => ?_⟩
  have hk : K ≤ k' := by
    have h1 := Rn_pre (n := k') (j := 0) (goal := goal) (by rw [Nat.zero_add]; exact r) hg
    obtain ⟨e1, s1, -, ⟨-, rfl⟩, h2⟩ := h1
    exact h0.2 _ h2
  rcases Nat.lt_or_ge K k' with q | q
  · have h1 := Rn_bd (Greedy_run h)
    have h2 := Rn_bd r
    have := pow8_lt q
    omega
  · have e1 : k' = K := by omega
    subst e1
    rcases Greedy_least h0 (Nat.le_refl _) h e' g' r (by rw [Nat.sub_self]; exact hg) with q | ⟨q, -⟩ <;> omega
theorem NoWay_iff {mv : Nat → Nat → Option Nat} {goal : Nat → Prop} {s0 : Nat} : NoWay mv s0 goal ↔ ∀ k, ¬ Gd mv goal k s0 := by
  constructor
  · intro h k hk
    obtain ⟨e, g, r, hg⟩ := Rn_app (n := k) (k := 0) (e := 1) (s := s0) ⟨rfl, rfl⟩ hk
    exact h _ _ _ r hg
  · intro h k e g r hg
    obtain ⟨e1, s1, -, ⟨-, rfl⟩, h2⟩ := Rn_pre (n := k) (j := 0) (goal := goal) (by rw [Nat.zero_add]; exact r) hg
    exact h _ h2
/-- the greedy way goes on to its end -/
theorem Greedy_next {mv : Nat → Nat → Option Nat} {goal : Nat → Prop} {s0 K j e s : Nat} (h0 : Dist mv goal s0 K) (hj : j < K) (h : Greedy mv goal s0 K j e s) : ∃ d t, d < 8 ∧ mv s d = some t ∧ Dist mv goal t (K - (j + 1)) ∧ ∀ d' t', d' < d → mv s d' = some t' → ¬ Dist mv goal t' (K - (j + 1)) := by
  have hD := Greedy_dist h0 h
  have hG := hD.1
  rw [show K - j = (K - (j + 1)) + 1 by omega] at hG
  obtain ⟨d0, t0, hd0, hm0, hg0⟩ := hG
  have D0 : Dist mv goal t0 (K - (j + 1)) := ⟨hg0, fun i hi => by
    have := hD.2 (i + 1) ⟨d0, t0, hd0, hm0, hi⟩
    omega⟩
  obtain ⟨d, ⟨t, h1, h2, h3⟩, least⟩ := pk_least (fun d => ∃ t, d < 8 ∧ mv s d = some t ∧ Dist mv goal t (K - (j + 1))) ⟨d0, t0, hd0, hm0, D0⟩
  exact ⟨d, t, h1, h2, h3, fun d' t' hlt hm hD' => least d' hlt ⟨t', by omega, hm, hD'⟩⟩
/-- a search from behind: distances alone -/
def Bck (mv : Nat → Nat → Option Nat) (goal : Nat → Prop) (st dp : Nat → Nat) (size mark : Nat) : Prop :=
  (∀ g, goal g → ∃ j, j < size ∧ st j = g ∧ dp j = 0) ∧ (∀ i, i < size → Gd mv goal (dp i) (st i)) ∧ (∀ i j, i < j → j < size → st i ≠ st j) ∧ (∀ i j, i ≤ j → j < size → dp i ≤ dp j) ∧
  (∀ i d s, i < mark → d < 8 → mv s d = some (st i) → ∃ j, j < size ∧ st j = s ∧ dp j ≤ dp i + 1)
theorem Bck_end {mv : Nat → Nat → Option Nat} {goal : Nat → Prop} {st dp : Nat → Nat} {size mark : Nat} (B : Bck mv goal st dp size mark) (hm : size ≤ mark) : ∀ {k s : Nat}, Gd mv goal k s → ∃ j, j < size ∧ st j = s ∧ dp j ≤ k := by
  intro k
  induction k with
  | zero => intro s h; obtain ⟨j, h1, h2, h3⟩ := B.1 s h; exact ⟨j, h1, h2, by omega⟩
  | succ k ih =>
    intro s h
    obtain ⟨d, t, hd, hmv, h⟩ := h
    obtain ⟨j, j1, j2, j3⟩ := ih h
    obtain ⟨i, i1, i2, i3⟩ := B.2.2.2.2 j d s (by omega) hd (by rw [j2]; exact hmv)
    exact ⟨i, i1, i2, by omega⟩
theorem Bck_dist {mv : Nat → Nat → Option Nat} {goal : Nat → Prop} {st dp : Nat → Nat} {size mark : Nat} (B : Bck mv goal st dp size mark) (hm : size ≤ mark) {j : Nat} (hj : j < size) : Dist mv goal (st j) (dp j) := by
  refine ⟨B.2.1 j hj, fun k hk => ?_⟩
  obtain ⟨i, i1, i2, i3⟩ := Bck_end B hm hk
  rcases Nat.lt_trichotomy i j with q | q | q
  · exact absurd i2 (B.2.2.1 i j q hj)
  · rw [← q]; exact i3
  · exact absurd i2.symm (B.2.2.1 j i q i1)
