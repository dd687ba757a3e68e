/-! sight: the straight way -/
def Xg (p q g : Nat) : Nat := if q < p then p - g else p + g
theorem Xg_0 (p q : Nat) : Xg p q 0 = p := by unfold Xg; split <;> omega
theorem Xg_lt {p q g w : Nat} (hp : p < w) (hq : q < w) (hg : g ≤ ad2 p q) : Xg p q g < w := by unfold Xg ad2 at *; split <;> omega
theorem Xg_s {p q g : Nat} (hp : p < 1000) (hq : q < 1000) (hg : g < ad2 p q) : nI (Xg p q g) + (if q < p then -1 else 1) = nI (Xg p q (g + 1)) := by
  unfold Xg ad2 at *
  by_cases h : q < p
  · rw [if_pos h, if_pos h, if_pos h]
    rw [show p - g = (p - (g + 1)) + 1 by omega]
    exact pk_m1 _
  · rw [if_neg h, if_neg h, if_neg h, nI_1]
    congr 1
def ld (sx sy gx gy : Nat) : Int := (1 + 2 * (gx : Int)) * (sy : Int) - (1 + 2 * (gy : Int)) * (sx : Int)
theorem ld_i (sx sy gx gy : Nat) : (((1 : Int32) + ((2 : Int32) * nI gx)) * nI sy) - (((1 : Int32) + ((2 : Int32) * nI gy)) * nI sx) = iI (ld sx sy gx gy) := by
  rw [show (1 : Int32) = iI 1 from rfl, show (2 : Int32) = iI 2 from rfl, iI_nat, iI_nat, iI_nat, iI_nat, iI_mul, iI_mul, iI_add, iI_add, iI_mul, iI_mul, iI_sub]
  rfl
theorem ld_dec : ∀ sx sy gx gy : Fin 8, (-1000 ≤ ld sx.val sy.val gx.val gy.val ∧ ld sx.val sy.val gx.val gy.val ≤ 1000) ∧ (gx.val + gy.val < sx.val + sy.val → gx.val ≤ sx.val → gy.val ≤ sy.val → (ld sx.val sy.val gx.val gy.val ≤ 0 → gx.val < sx.val) ∧ (0 ≤ ld sx.val sy.val gx.val gy.val → gy.val < sy.val)) := by decide +kernel
def cg (a : Abs) (p q gx gy : Nat) : Bool := clr a (Xg (p / aW a) (q / aW a) gy * aW a + Xg (p % aW a) (q % aW a) gx)
def wy (a : Abs) (p q sx sy : Nat) : Nat → Nat → Nat → Bool
  | 0, _, _ => true
  | n + 1, gx, gy =>
    if sx + sy ≤ gx + gy then true
    else if ld sx sy gx gy = 0 then ((cg a p q (gx + 1) gy || cg a p q gx (gy + 1)) && cg a p q (gx + 1) (gy + 1)) && wy a p q sx sy n (gx + 1) (gy + 1)
    else if ld sx sy gx gy < 0 then cg a p q (gx + 1) gy && wy a p q sx sy n (gx + 1) gy
    else cg a p q gx (gy + 1) && wy a p q sx sy n gx (gy + 1)
def way (a : Abs) (p q : Nat) : Bool := wy a p q (ad2 (p % aW a) (q % aW a)) (ad2 (p / aW a) (q / aW a)) (ad2 (p % aW a) (q % aW a) + ad2 (p / aW a) (q / aW a)) 0 0
theorem ad2_lt {x y w : Nat} (hx : x < w) (hy : y < w) : ad2 x y < w := by unfold ad2; omega
theorem cg_lt {a : Abs} (hA : AOk a) {p q gx gy : Nat} (hp : p < aN a) (hq : q < aN a) (hx : gx ≤ ad2 (p % aW a) (q % aW a)) (hy : gy ≤ ad2 (p / aW a) (q / aW a)) : Xg (p / aW a) (q / aW a) gy * aW a + Xg (p % aW a) (q % aW a) gx < aN a := by
  have hpp := xy_lt hA hp
  have hqq := xy_lt hA hq
  exact ix_lt (Xg_lt hpp.1 hqq.1 hx) (Xg_lt hpp.2 hqq.2 hy)
theorem s_way {a : Abs} {gw gh gz : Int32} {gc gr gk : Nat → Int32} {fc lc f c2 st : Int64} {p q : Nat} {Q : Int32 → Prop} (hA : AOk a) (hs : IGs a gw gh gz gc gr fc lc) (hk : IGk a gk f c2 st) (hp : p < aN a) (hq : q < aN a) (h : Q (bI (way a p q))) : P_si_isWayClear gw gc gr c2 (nI p) (nI q) Q := by
  have hn := aN_le hA
  have hW := hA.1
  have hH := hA.2.1
  have hpp := xy_lt hA hp
  have hqq := xy_lt hA hq
  obtain ⟨e1, -, -, e4, e5, -⟩ := hs
  have loop : ∀ (m n gx gy : Nat), gx ≤ ad2 (p % aW a) (q % aW a) → gy ≤ ad2 (p / aW a) (q / aW a) → ad2 (p % aW a) (q % aW a) + ad2 (p / aW a) (q / aW a) - (gx + gy) ≤ m → m < n → Q (bI (wy a p q (ad2 (p % aW a) (q % aW a)) (ad2 (p / aW a) (q / aW a)) m gx gy)) → L_si_isWayClear_95 gw c2 Q n (nI (Xg (p % aW a) (q % aW a) gx)) (nI (Xg (p / aW a) (q / aW a) gy)) (nI (ad2 (p % aW a) (q % aW a))) (nI (ad2 (p / aW a) (q / aW a))) (if q % aW a < p % aW a then -1 else 1) (if q / aW a < p / aW a then -1 else 1) (nI gx) (nI gy) := by
    have hcl : ∀ gx gy, gx ≤ ad2 (p % aW a) (q % aW a) → gy ≤ ad2 (p / aW a) (q / aW a) → ∀ {Q2 : Int32 → Prop}, Q2 (bI (cg a p q gx gy)) → P_gr_isClear gw c2 (nI (Xg (p % aW a) (q % aW a) gx)) (nI (Xg (p / aW a) (q / aW a) gy)) Q2 := fun gx gy g1 g2 Q2 hQ => s_isClear hk e1 hn.2 (cg_lt hA hp hq g1 g2) hQ
    have bsx := ad2_lt hpp.1 hqq.1
    have bsy := ad2_lt hpp.2 hqq.2
    have hxs : ∀ g, g < ad2 (p % aW a) (q % aW a) → nI (Xg (p % aW a) (q % aW a) g) + (if q % aW a < p % aW a then -1 else 1) = nI (Xg (p % aW a) (q % aW a) (g + 1)) := fun g hg => Xg_s (by omega) (by omega) hg
    have hys : ∀ g, g < ad2 (p / aW a) (q / aW a) → nI (Xg (p / aW a) (q / aW a) g) + (if q / aW a < p / aW a then -1 else 1) = nI (Xg (p / aW a) (q / aW a) (g + 1)) := fun g hg => Xg_s (by omega) (by omega) hg
    generalize ad2 (p % aW a) (q % aW a) = sx at *
    generalize ad2 (p / aW a) (q / aW a) = sy at *
    intro m
    induction m with
    | zero =>
      intro n gx gy g1 g2 g3 g4 hQ
      obtain ⟨n, rfl⟩ : ∃ z, n = z + 1 := ⟨n - 1, by omega⟩
      unfold L_si_isWayClear_95
      rw [nI_add, nI_add]
      exact br_t (nI_le (by omega) (by omega)) hQ
    | succ m ih =>
      intro n gx gy g1 g2 g3 g4 hQ
      obtain ⟨n, rfl⟩ : ∃ z, n = z + 1 := ⟨n - 1, by omega⟩
      unfold L_si_isWayClear_95
      rw [nI_add, nI_add]
      unfold wy at hQ
      rcases Nat.lt_or_ge (gx + gy) (sx + sy) with g | g
      · refine br_f (nI_ge g (by omega)) ?_
        rw [if_neg (by omega)] at hQ
        rw [ld_i]
        rintro _ rfl
        obtain ⟨⟨d1, d2⟩, d3⟩ := ld_dec ⟨sx, by omega⟩ ⟨sy, by omega⟩ ⟨gx, by omega⟩ ⟨gy, by omega⟩
        obtain ⟨d4, d5⟩ := d3 g g1 g2
        simp only at d1 d2 d4 d5
        have bl : iB (ld sx sy gx gy) := ⟨by omega, by omega⟩
        have z0 : (0 : Int32) = iI 0 := rfl
        have b0 : iB 0 := ⟨by omega, by omega⟩
        have b168 : (if ld sx sy gx gy = 0 then Q (bI (cg a p q (gx + 1) (gy + 1) && wy a p q sx sy m (gx + 1) (gy + 1))) else if ld sx sy gx gy < 0 then Q (bI (cg a p q (gx + 1) gy && wy a p q sx sy m (gx + 1) gy)) else Q (bI (cg a p q gx (gy + 1) && wy a p q sx sy m gx (gy + 1)))) → B_si_isWayClear_168 gw c2 Q (L_si_isWayClear_95 gw c2 Q n) (nI (Xg (p % aW a) (q % aW a) gx)) (nI (Xg (p / aW a) (q / aW a) gy)) (nI sx) (nI sy) (if q % aW a < p % aW a then -1 else 1) (if q / aW a < p / aW a then -1 else 1) (nI gx) (nI gy) (iI (ld sx sy gx gy)) := by
          intro hq2
          have fin : ∀ gx' gy', gx' ≤ sx → gy' ≤ sy → sx + sy - (gx' + gy') ≤ m → Q (bI (cg a p q gx' gy' && wy a p q sx sy m gx' gy')) → B_si_isWayClear_196 gw c2 Q (L_si_isWayClear_95 gw c2 Q n) (nI (Xg (p % aW a) (q % aW a) gx')) (nI (Xg (p / aW a) (q / aW a) gy')) (nI sx) (nI sy) (if q % aW a < p % aW a then -1 else 1) (if q / aW a < p / aW a then -1 else 1) (nI gx') (nI gy') := by
            intro gx' gy' f1 f2 f3 f4
            unfold B_si_isWayClear_196
            refine hcl gx' gy' f1 f2 (brB (fun hf => ?_) (fun ht => ?_))
            · rw [hf, Bool.false_and] at f4; exact f4
            · rw [ht, Bool.true_and] at f4
              exact ih n gx' gy' f1 f2 f3 (by omega) f4
          unfold B_si_isWayClear_168
          rw [z0, iI_lt b0 bl]
          refine ⟨fun c1 => ?_, fun c1 => ?_⟩
          · rw [if_neg (by omega), if_neg (by omega)] at hq2
            have := d5 (by omega)
            unfold B_si_isWayClear_181
            refine br_f (by rw [z0, iI_lt bl b0]; omega) ?_
            rw [hys gy this, nI_1]
            rintro _ rfl
            exact fin gx (gy + 1) g1 (by omega) (by omega) hq2
          · have hgx := d4 (by omega)
            rw [hxs gx hgx, nI_1]
            rintro _ rfl
            unfold B_si_isWayClear_181
            rw [z0, iI_lt bl b0]
            refine ⟨fun c2' => ?_, fun c2' => ?_⟩
            · rw [if_neg (by omega), if_pos c2'] at hq2
              exact fin (gx + 1) gy (by omega) g2 (by omega) hq2
            · rw [if_pos (by omega)] at hq2
              have := d5 (by omega)
              rw [hys gy this, nI_1]
              rintro _ rfl
              exact fin (gx + 1) (gy + 1) (by omega) (by omega) (by omega) hq2
        rw [z0, iI_eq bl b0]
        refine ⟨fun c0 => ?_, fun c0 => ?_⟩
        · have hgx := d4 (by omega)
          have hgy := d5 (by omega)
          rw [if_pos c0] at hQ b168
          rw [hxs gx hgx, hys gy hgy]
          refine hcl (gx + 1) gy (by omega) g2 (brB (fun hf => ?_) (fun ht => ?_))
          · rw [hf, Bool.false_or] at hQ
            refine hcl gx (gy + 1) g1 (by omega) (brB (fun hf2 => ?_) (fun ht2 => ?_))
            · rw [hf2, Bool.false_and, Bool.false_and] at hQ; exact hQ
            · rw [ht2, Bool.true_and] at hQ
              exact b168 hQ
          · rw [ht, Bool.true_or, Bool.true_and] at hQ
            exact b168 hQ
        · rw [if_neg c0] at hQ b168
          refine b168 ?_
          by_cases c1 : ld sx sy gx gy < 0
          · rw [if_pos c1] at hQ ⊢; exact hQ
          · rw [if_neg c1] at hQ ⊢; exact hQ
      · refine br_t (nI_le g (by omega)) ?_
        rw [if_pos g] at hQ
        exact hQ
  unfold P_si_isWayClear
  refine s_col (by omega) (s_row (by omega) (s_col (by omega) ?_))
  rw [e4 p hp, e4 q hq, e5 p hp, adi (by omega) (by omega)]
  rintro _ rfl
  refine s_row (by omega) ?_
  rw [e5 q hq, adi (by omega) (by omega)]
  rintro _ rfl
  refine s_col (by omega) ?_
  rw [e4 q hq]
  have sym : ∀ x y, ad2 x y = ad2 y x := fun x y => by unfold ad2; omega
  rw [sym (q % aW a), sym (q / aW a)]
  have go := loop _ (ad2 (p % aW a) (q % aW a) + ad2 (p / aW a) (q / aW a) + 1) 0 0 (Nat.zero_le _) (Nat.zero_le _) (by omega) (by omega) h
  rw [Xg_0, Xg_0] at go
  have b67 : ∀ y0 : Int32, y0 = (if q % aW a < p % aW a then -1 else 1) → B_si_isWayClear_67 gw gr c2 Q (nI q) (nI (p % aW a)) (nI (p / aW a)) (nI (ad2 (p % aW a) (q % aW a))) (nI (ad2 (p / aW a) (q / aW a))) y0 := by
    intro y0 e
    unfold B_si_isWayClear_67
    refine s_row (by omega) ?_
    rw [e5 q hq, nI_leI (by omega) (by omega), e]
    refine ⟨fun c => ?_, fun c => ?_⟩
    · rw [if_neg (show ¬ q / aW a < p / aW a by omega)] at go; exact ⟨_, go⟩
    · rw [if_pos (show q / aW a < p / aW a by omega)] at go; exact ⟨_, go⟩
  rw [nI_leI (by omega) (by omega)]
  exact ⟨fun c => b67 1 (by rw [if_neg (by omega)]), fun c => b67 (-1) (by rw [if_pos (by omega)])⟩
