/-! sight: the box -/
noncomputable def pB (P : Prop) : Bool := @decide P (Classical.propDecidable P)
theorem pB_t {P : Prop} (h : P) : pB P = true := @decide_eq_true P (Classical.propDecidable P) h
theorem pB_f {P : Prop} (h : ¬ P) : pB P = false := @decide_eq_false P (Classical.propDecidable P) h
theorem pB_iff {P : Prop} : pB P = true ↔ P := ⟨@of_decide_eq_true P (Classical.propDecidable P), pB_t⟩
def ad2 (x y : Nat) : Nat := (x - y) + (y - x)
theorem max_i {x y : Nat} (hx : x < 1000) (hy : y < 1000) : (if nI x < nI y then nI y else nI x) = nI (max x y) := by
  by_cases h : x < y
  · rw [if_pos (nI_lt h (by omega))]; congr 1; omega
  · rw [if_neg (nI_nlt (by omega) (by omega))]; congr 1; omega
theorem min_i {x y : Nat} (hx : x < 1000) (hy : y < 1000) : (if nI y < nI x then nI y else nI x) = nI (min x y) := by
  by_cases h : y < x
  · rw [if_pos (nI_lt h (by omega))]; congr 1; omega
  · rw [if_neg (nI_nlt (by omega) (by omega))]; congr 1; omega
theorem adi {x y : Nat} (hx : x < 1000) (hy : y < 1000) : (if 0 ≤ (nI x - nI y) then (nI x - nI y) else 0 - (nI x - nI y)) = nI (ad2 x y) := by
  rw [iI_nat x, iI_nat y, iI_sub, abs_i ⟨by omega, by omega⟩ ⟨by omega, by omega⟩, iI_nat]
  congr 1
  unfold ad2
  omega
theorem s_size {x y : Nat} {Q : Int32 → Prop} (hx : x < 1000) (hy : y < 1000) (h : Q (nI (ad2 x y))) : P_mo_size (nI x - nI y) Q := by
  unfold P_mo_size
  rw [iI_nat x, iI_nat y, iI_sub]
  have z0 : (0 : Int32) = iI 0 := rfl
  rw [z0, iI_le ⟨by omega, by omega⟩ ⟨by omega, by omega⟩, iI_neg]
  unfold ad2 at h
  rw [iI_nat] at h
  refine ⟨fun q => ?_, fun q => ?_⟩
  · rw [show ((x : Int) - (y : Int)) = ((x - y + (y - x) : Nat) : Int) by omega]; exact h
  · rw [show (-((x : Int) - (y : Int))) = ((x - y + (y - x) : Nat) : Int) by omega]; exact h
theorem s_sign {x y : Nat} {Q : Int32 → Prop} (hx : x < 1000) (hy : y < 1000) (h : Q (if x < y then -1 else if x = y then 0 else 1)) : P_mo_sign (nI x - nI y) Q := by
  unfold P_mo_sign
  rw [iI_nat x, iI_nat y, iI_sub]
  have z0 : (0 : Int32) = iI 0 := rfl
  rw [z0, iI_le ⟨by omega, by omega⟩ ⟨by omega, by omega⟩, iI_le ⟨by omega, by omega⟩ ⟨by omega, by omega⟩]
  refine ⟨fun q => ⟨fun q2 => ?_, fun q2 => ?_⟩, fun q => ?_⟩
  · rw [if_neg (by omega), if_pos (by omega)] at h; exact h
  · rw [if_neg (by omega), if_neg (by omega)] at h; exact h
  · rw [if_pos (by omega)] at h; exact h
def Box (a : Abs) (x0 x1 y0 y1 : Nat) : Prop := ∀ x y, x0 ≤ x → x ≤ x1 → y0 ≤ y → y ≤ y1 → clr a (y * aW a + x) = true
noncomputable def box (a : Abs) (p q : Nat) : Bool := pB (Box a (min (p % aW a) (q % aW a)) (max (p % aW a) (q % aW a)) (min (p / aW a) (q / aW a)) (max (p / aW a) (q / aW a)))
theorem ix_lt {a : Abs} {x y : Nat} (hx : x < aW a) (hy : y < aH a) : y * aW a + x < aN a := by
  unfold aN
  have h5 : (y + 1) * aW a ≤ aH a * aW a := Nat.mul_le_mul_right _ (by omega)
  rw [Nat.add_mul, Nat.one_mul, Nat.mul_comm (aH a)] at h5
  omega
theorem s_box {a : Abs} {gw gh gz : Int32} {gc gr gk : Nat → Int32} {fc lc f c2 st : Int64} {p q : Nat} {Q : Int32 → Prop} (hA : AOk a) (hs : IGs a gw gh gz gc gr fc lc) (hk : IGk a gk f c2 st) (hp : p < aN a) (hq : q < aN a) (h : Q (bI (box a p q))) : P_si_isBoxClear gw gc gr c2 (nI p) (nI q) Q := by
  have hn := aN_le hA
  have hW := hA.1
  have hH := hA.2.1
  have hpp := xy_lt hA hp
  have hqq := xy_lt hA hq
  obtain ⟨e1, -, -, e4, e5, -⟩ := hs
  unfold P_si_isBoxClear
  refine s_col (by omega) (s_col (by omega) ?_)
  rw [e4 p hp, e4 q hq, max_i (by omega) (by omega)]
  rintro _ rfl
  refine s_row (by omega) (s_row (by omega) ?_)
  rw [e5 p hp, e5 q hq, max_i (by omega) (by omega)]
  rintro _ rfl
  refine s_row (by omega) (s_row (by omega) ?_)
  rw [e5 p hp, e5 q hq, min_i (by omega) (by omega)]
  rintro _ rfl
  unfold box at h
  have hx0 : min (p % aW a) (q % aW a) ≤ max (p % aW a) (q % aW a) := by omega
  have hy0 : min (p / aW a) (q / aW a) ≤ max (p / aW a) (q / aW a) := by omega
  have hx1 : max (p % aW a) (q % aW a) < aW a := by omega
  have hy1 : max (p / aW a) (q / aW a) < aH a := by omega
  have hxe : min (p % aW a) (q % aW a) = min (p % aW a) (q % aW a) := rfl
  generalize hX0 : min (p % aW a) (q % aW a) = x0 at *
  generalize max (p % aW a) (q % aW a) = x1 at *
  generalize min (p / aW a) (q / aW a) = y0 at *
  generalize max (p / aW a) (q / aW a) = y1 at *
  have no : ∀ x y, x0 ≤ x → x ≤ x1 → y0 ≤ y → y ≤ y1 → clr a (y * aW a + x) = false → Q 0 := by
    intro x y g1 g2 g3 g4 g5
    rw [pB_f (fun hb => by rw [hb x y g1 g2 g3 g4] at g5; cases g5)] at h
    exact h
  have inner : ∀ (y : Nat) (k62 : Int32 → Int32 → Int32 → Int32 → Int32 → Prop), y0 ≤ y → y ≤ y1 → ((∀ x, x0 ≤ x → x ≤ x1 → clr a (y * aW a + x) = true) → k62 (nI p) (nI q) (nI x1) (nI y1) (nI (y + 1))) → ∀ (n x : Nat), x0 ≤ x → x ≤ x1 + 1 → x1 + 1 - x < n → (∀ z, x0 ≤ z → z < x → clr a (y * aW a + z) = true) → L_si_isBoxClear_90 gw gc c2 Q k62 n (nI p) (nI q) (nI x1) (nI y1) (nI y) (nI x) := by
    intro y k62 g1 g2 hk62 n
    induction n with
    | zero => intro x z1 z2 z3; omega
    | succ n ih =>
      intro x z1 z2 z3 z4
      unfold L_si_isBoxClear_90
      rcases Nat.lt_or_ge x1 x with g | g
      · refine br_t (nI_lt g (by omega)) ?_
        rw [nI_1]
        exact hk62 (fun z g3 g4 => z4 z g3 (by omega))
      · refine br_f (nI_nlt g (by omega)) (s_isClear hk e1 hn.2 (ix_lt (by omega) (by omega)) (brB (fun hf => no x y z1 g g1 g2 hf) (fun ht => ?_)))
        rw [nI_1]
        refine ih (x + 1) (by omega) (by omega) (by omega) (fun z g3 g4 => ?_)
        rcases Nat.lt_or_ge z x with g5 | g5
        · exact z4 z g3 g5
        · have : z = x := by omega
          subst this; exact ht
  have outer : ∀ (n y : Nat), y0 ≤ y → y ≤ y1 + 1 → y1 + 1 - y < n → (∀ z x, y0 ≤ z → z < y → x0 ≤ x → x ≤ x1 → clr a (z * aW a + x) = true) → L_si_isBoxClear_62 gw gc c2 Q n (nI p) (nI q) (nI x1) (nI y1) (nI y) := by
    intro n
    induction n with
    | zero => intro y z1 z2 z3; omega
    | succ n ih =>
      intro y z1 z2 z3 z4
      unfold L_si_isBoxClear_62
      rcases Nat.lt_or_ge y1 y with g | g
      · refine br_t (nI_lt g (by omega)) ?_
        have hb : Box a x0 x1 y0 y1 := fun x z g1 g2 g3 g4 => z4 z x g3 (by omega) g1 g2
        rw [pB_t hb] at h
        exact h
      · refine br_f (nI_nlt g (by omega)) (s_col (by omega) (s_col (by omega) ?_))
        rw [e4 p hp, e4 q hq, min_i (by omega) (by omega), hX0]
        rintro _ rfl
        refine ⟨x1 + 1 - x0 + 1, inner y _ z1 g (fun hall => ?_) _ x0 (Nat.le_refl _) (by omega) (by omega) (fun z g1 g2 => by omega)⟩
        refine ih (y + 1) (by omega) (by omega) (by omega) (fun z x g1 g2 g3 g4 => ?_)
        rcases Nat.lt_or_ge z y with g5 | g5
        · exact z4 z x g1 g5 g3 g4
        · have : z = y := by omega
          subst this; exact hall x g3 g4
  exact ⟨y1 + 1 - y0 + 1, outer _ y0 (Nat.le_refl _) (by omega) (by omega) (fun z x g1 g2 => by omega)⟩
theorem s_mbox {a : Abs} {mw : Int32} {mk : Nat → Int32} {p q : Nat} {Q : Int32 → Prop} (hA : AOk a) (hm : ∀ c, c < aN a → mk c = nI (aKd a c)) (h1 : mw = nI (aW a)) (hp : p < aN a) (hq : q < aN a) (h : Q (bI (box a p q))) : P_mo_isBoxClear mw mk (nI p) (nI q) Q := by
  have hn := aN_le hA
  have hW := hA.1
  have hH := hA.2.1
  have hpp := xy_lt hA hp
  have hqq := xy_lt hA hq
  have hne : ¬ nI (aW a) = 0 := nI_ne0 (by omega) (by omega)
  subst h1
  have dv : ∀ c, c < aN a → nI c / nI (aW a) = nI (c / aW a) := fun c hc => pk_div (by omega) (by omega) (by omega)
  have rm : ∀ c, c < aN a → nI c - nI c / nI (aW a) * nI (aW a) = nI (c % aW a) := fun c hc => pk_rem (by omega) (by omega) (by omega)
  have sx : max (p % aW a) (q % aW a) = min (p % aW a) (q % aW a) + ad2 (p % aW a) (q % aW a) := by unfold ad2; omega
  have sy : max (p / aW a) (q / aW a) = min (p / aW a) (q / aW a) + ad2 (p / aW a) (q / aW a) := by unfold ad2; omega
  have lx : max (p % aW a) (q % aW a) < aW a := by omega
  have ly : max (p / aW a) (q / aW a) < aH a := by omega
  unfold box at h
  have loop : ∃ n : Nat, L_mo_isBoxClear_69 (nI (aW a)) mk Q n (nI p) (nI q) (nI (min (p % aW a) (q % aW a))) (nI (min (p / aW a) (q / aW a))) 1 0 := by
    rw [sx, sy] at h
    rw [sx] at lx
    rw [sy] at ly
    have hpx : p % aW a < 1000 := by omega
    have hqx : q % aW a < 1000 := by omega
    have hpy : p / aW a < 1000 := by omega
    have hqy : q / aW a < 1000 := by omega
    generalize min (p % aW a) (q % aW a) = x0 at *
    generalize hsx : ad2 (p % aW a) (q % aW a) = nx at *
    generalize min (p / aW a) (q / aW a) = y0 at *
    generalize hsy : ad2 (p / aW a) (q / aW a) = ny at *
    have inner : ∀ (i : Nat) (k69 : Int32 → Int32 → Int32 → Int32 → Int32 → Int32 → Prop), i ≤ nx → (∀ b : Bool, (b = true ↔ ∀ u v, (u < i ∧ v ≤ ny) ∨ (u = i ∧ v ≤ ny) → clr a ((y0 + v) * aW a + (x0 + u)) = true) → k69 (nI p) (nI q) (nI x0) (nI y0) (bI b) (nI (i + 1))) → ∀ (n j : Nat) (b : Bool), j ≤ ny + 1 → ny + 1 - j < n → (b = true ↔ ∀ u v, (u < i ∧ v ≤ ny) ∨ (u = i ∧ v < j) → clr a ((y0 + v) * aW a + (x0 + u)) = true) → L_mo_isBoxClear_93 (nI (aW a)) mk Q k69 n (nI p) (nI q) (nI x0) (nI y0) (bI b) (nI i) (nI j) := by
      intro i k69 gi hk69 n
      induction n with
      | zero => intro j b z1 z2; omega
      | succ n ih =>
        intro j b z1 z2 z3
        unfold L_mo_isBoxClear_93
        rw [dv p hp, dv q hq]
        refine ⟨hne, hne, s_size hpy hqy ?_⟩
        rw [hsy]
        rcases Nat.lt_or_ge ny j with g | g
        · refine br_t (nI_lt g (by omega)) ?_
          rw [nI_1]
          refine hk69 b (z3.trans ⟨fun hall u v huv => hall u v (by omega), fun hall u v huv => hall u v (by omega)⟩)
        · have step : ∀ b2 : Bool, (b2 = true ↔ (b = true ∧ clr a ((y0 + j) * aW a + (x0 + i)) = true)) → L_mo_isBoxClear_93 (nI (aW a)) mk Q k69 n (nI p) (nI q) (nI x0) (nI y0) (bI b2) (nI i) (nI j + 1) := by
            intro b2 hb2
            rw [nI_1]
            refine ih (j + 1) b2 (by omega) (by omega) (hb2.trans ⟨fun hh u v huv => ?_, fun hall => ⟨z3.mpr (fun u v huv => hall u v (by omega)), hall i j (by omega)⟩⟩)
            rcases huv with huv | ⟨hu, hv⟩
            · exact z3.mp hh.1 u v (Or.inl huv)
            · rcases Nat.lt_or_ge v j with g2 | g2
              · exact z3.mp hh.1 u v (Or.inr ⟨hu, g2⟩)
              · have : v = j := by omega
                subst this; subst hu; exact hh.2
          refine br_f (nI_nlt g (by omega)) (brB (fun hf => ?_) (fun ht => ?_))
          · exact step false ⟨fun z => (by cases z), fun z => by rw [hf] at z; exact absurd z.1 (by decide)⟩
          · rw [nI_add, nI_add]
            refine s_mclear hA hm rfl (ix_lt (by omega) (by omega)) (brB (fun hf => ?_) (fun ht2 => ?_))
            · exact step false ⟨fun z => (by cases z), fun z => by rw [hf] at z; exact absurd z.2 (by decide)⟩
            · exact step true ⟨fun _ => ⟨ht, ht2⟩, fun _ => rfl⟩
    have outer : ∀ (n i : Nat) (b : Bool), i ≤ nx + 1 → nx + 1 - i < n → (b = true ↔ ∀ u v, u < i → v ≤ ny → clr a ((y0 + v) * aW a + (x0 + u)) = true) → L_mo_isBoxClear_69 (nI (aW a)) mk Q n (nI p) (nI q) (nI x0) (nI y0) (bI b) (nI i) := by
      intro n
      induction n with
      | zero => intro i b z1 z2; omega
      | succ n ih =>
        intro i b z1 z2 z3
        unfold L_mo_isBoxClear_69
        rw [rm p hp, rm q hq]
        refine ⟨hne, hne, s_size hpx hqx ?_⟩
        rw [hsx]
        rcases Nat.lt_or_ge nx i with g | g
        · refine br_t (nI_lt g (by omega)) ⟨bI_01 b, ?_⟩
          have hb : b = pB (Box a x0 (x0 + nx) y0 (y0 + ny)) := by
            have : b = true ↔ pB (Box a x0 (x0 + nx) y0 (y0 + ny)) = true := by
              rw [pB_iff, z3]
              refine ⟨fun hall x y g1 g2 g3 g4 => ?_, fun hall u v hu hv => hall (x0 + u) (y0 + v) (by omega) (by omega) (by omega) (by omega)⟩
              have := hall (x - x0) (y - y0) (by omega) (by omega)
              rwa [show y0 + (y - y0) = y by omega, show x0 + (x - x0) = x by omega] at this
            cases b <;> cases hpb : pB (Box a x0 (x0 + nx) y0 (y0 + ny)) <;> simp_all
          rw [hb]; exact h
        · refine br_f (nI_nlt g (by omega)) ⟨ny + 2, inner i _ g (fun b2 hb2 => ?_) (ny + 2) 0 b (by omega) (by omega) (z3.trans ⟨fun hall u v huv => hall u v (by omega) (by omega), fun hall u v hu hv => hall u v (Or.inl ⟨hu, hv⟩)⟩)⟩
          refine ih (i + 1) b2 (by omega) (by omega) (hb2.trans ⟨fun hall u v hu hv => hall u v (by omega), fun hall u v huv => hall u v (by omega) (by omega)⟩)
    exact ⟨nx + 2, outer (nx + 2) 0 true (by omega) (by omega) ⟨fun _ u v hu => by omega, fun _ => rfl⟩⟩
  have b30 : B_mo_isBoxClear_30 (nI (aW a)) mk Q (nI p) (nI q) (nI (min (p % aW a) (q % aW a))) := by
    unfold B_mo_isBoxClear_30
    rw [dv p hp, dv q hq, nI_leI (by omega) (by omega)]
    refine ⟨hne, hne, fun g => ⟨hne, ?_⟩, fun g => ⟨hne, ?_⟩⟩
    · rintro _ rfl
      rw [show min (p / aW a) (q / aW a) = q / aW a by omega] at loop
      exact loop
    · rintro _ rfl
      rw [show min (p / aW a) (q / aW a) = p / aW a by omega] at loop
      exact loop
  unfold P_mo_isBoxClear
  rw [rm p hp, rm q hq, nI_leI (by omega) (by omega)]
  refine ⟨hne, hne, fun g => ⟨hne, ?_⟩, fun g => ⟨hne, ?_⟩⟩
  · rw [show min (p % aW a) (q % aW a) = q % aW a by omega] at b30
    exact b30
  · rw [show min (p % aW a) (q % aW a) = p % aW a by omega] at b30
    exact b30
