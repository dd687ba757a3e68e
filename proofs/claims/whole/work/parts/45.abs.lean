/-! what a hall is: sides, kinds, law, range, pictures, rounds, shifts; and how the two classes hold it -/
abbrev Abs : Type := Nat × Nat × (Nat → Nat) × Nat × Nat × Nat × (Nat → Nat) × (Nat → Nat) × (Nat → Nat) × (Nat → Nat → Nat) × (Nat → Nat)
def aW (a : Abs) : Nat := a.1
def aH (a : Abs) : Nat := a.2.1
def aKd (a : Abs) : Nat → Nat := a.2.2.1
def aLw (a : Abs) : Nat := a.2.2.2.1
def aRg (a : Abs) : Nat := a.2.2.2.2.1
def aNp (a : Abs) : Nat := a.2.2.2.2.2.1
def aPc (a : Abs) : Nat → Nat := a.2.2.2.2.2.2.1
def aPf (a : Abs) : Nat → Nat := a.2.2.2.2.2.2.2.1
def aRl (a : Abs) : Nat → Nat := a.2.2.2.2.2.2.2.2.1
def aRc (a : Abs) : Nat → Nat → Nat := a.2.2.2.2.2.2.2.2.2.1
def aRs (a : Abs) : Nat → Nat := a.2.2.2.2.2.2.2.2.2.2
def aN (a : Abs) : Nat := aW a * aH a
def AOk (a : Abs) : Prop := (2 ≤ aW a ∧ aW a ≤ 8) ∧ (2 ≤ aH a ∧ aH a ≤ 8) ∧ (∀ c, c < aN a → aKd a c ≤ 3) ∧ aLw a ≤ 2 ∧ (1 ≤ aRg a ∧ aRg a ≤ 8) ∧ aNp a ≤ 8 ∧ (∀ p, p < aNp a → aPc a p < aN a ∧ aPf a p < 4) ∧ (∀ k, k < 4 → aRl a k ≤ 6) ∧ (∀ k i, k < 4 → i < aRl a k → aRc a k i < aN a) ∧ ∀ k, k < 4 → aRs a k ≤ 5
/-- bit i of a long -/
def bt (x : Int64) (i : Nat) : Bool := x.toBitVec.getLsbD i
def flr (a : Abs) (c : Nat) : Bool := aKd a c == 0
def clr (a : Abs) (c : Nat) : Bool := aKd a c == 0 || aKd a c == 2
def std (a : Abs) (c : Nat) : Bool := aKd a c == 0 || aKd a c == 3
def IGs (a : Abs) (gr_width gr_height gr_size : Int32) (gr_columns gr_rows : Nat → Int32) (gr_firstColumn gr_lastColumn : Int64) : Prop :=
  gr_width = nI (aW a) ∧ gr_height = nI (aH a) ∧ gr_size = nI (aN a) ∧ (∀ c, c < aN a → gr_columns c = nI (c % aW a)) ∧ (∀ c, c < aN a → gr_rows c = nI (c / aW a)) ∧ (∀ c, c < 64 → bt gr_firstColumn c = (decide (c < aN a) && decide (c % aW a = 0))) ∧ (∀ c, c < 64 → bt gr_lastColumn c = (decide (c < aN a) && decide (c % aW a + 1 = aW a)))
def IGk (a : Abs) (gr_kinds : Nat → Int32) (gr_floorCells gr_clearCells gr_standCells : Int64) : Prop :=
  (∀ c, c < aN a → gr_kinds c = nI (aKd a c)) ∧ (∀ c, c < 64 → bt gr_floorCells c = (decide (c < aN a) && flr a c)) ∧ (∀ c, c < 64 → bt gr_clearCells c = (decide (c < aN a) && clr a c)) ∧ (∀ c, c < 64 → bt gr_standCells c = (decide (c < aN a) && std a c))
def IP (a : Abs) (pi_cells pi_facings : Nat → Int32) (pi_size : Int32) : Prop := pi_size = nI (aNp a) ∧ (∀ p, p < aNp a → pi_cells p = nI (aPc a p)) ∧ ∀ p, p < aNp a → pi_facings p = nI (aPf a p)
def IR (a : Abs) (ro_cells ro_lengths ro_shifts : Nat → Int32) : Prop := (∀ k, k < 4 → ro_lengths k = nI (aRl a k)) ∧ (∀ k, k < 4 → ro_shifts k = nI (aRs a k)) ∧ ∀ k i, k < 4 → i < aRl a k → ro_cells (6 * k + i) = nI (aRc a k i)
def IS (a : Abs) (si_sightLaw si_sightRange : Int32) : Prop := si_sightLaw = nI (aLw a) ∧ si_sightRange = nI (aRg a)
def IM (a : Abs) (mo_wide mo_tall : Int32) (mo_kind : Nat → Int32) (mo_law mo_range mo_pictures : Int32) (mo_pictureCell mo_facing mo_roundMany mo_round mo_shift : Nat → Int32) : Prop :=
  mo_wide = nI (aW a) ∧ mo_tall = nI (aH a) ∧ (∀ c, c < aN a → mo_kind c = nI (aKd a c)) ∧ mo_law = nI (aLw a) ∧ mo_range = nI (aRg a) ∧ mo_pictures = nI (aNp a) ∧ (∀ p, p < aNp a → mo_pictureCell p = nI (aPc a p)) ∧ (∀ p, p < aNp a → mo_facing p = nI (aPf a p)) ∧ (∀ k, k < 4 → mo_roundMany k = nI (aRl a k)) ∧ (∀ k i, k < 4 → i < aRl a k → mo_round (6 * k + i) = nI (aRc a k i)) ∧ ∀ k, k < 4 → mo_shift k = nI (aRs a k)
