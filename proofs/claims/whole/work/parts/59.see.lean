theorem s_mway {a : Abs} {mw : Int32} {mk : Nat → Int32} {p q : Nat} {Q : Int32 → Prop} (hA : AOk a) (hm : ∀ c, c < aN a → mk c = nI (aKd a c)) (h1 : mw = nI (aW a)) (hp : p < aN a) (hq : q < aN a) (h : Q (bI (way a p q))) : P_mo_isWayClear mw mk (nI p) (nI q) Q := by
  have hn := aN_le hA
  have hW := hA.1
  have hH := hA.2.1
  have hpp := xy_lt hA hp
  have hqq := xy_lt hA hq
  have hne : ¬ nI (aW a) = 0 := nI_ne0 (by omega) (by omega)
  subst h1
  have dv : ∀ c, c < aN a → nI c / nI (aW a) = nI (c / aW a) := fun c hc => pk_div (by omega) (by omega) (by omega)
  have rm : ∀ c, c < aN a → nI c - nI c / nI (aW a) * nI (aW a) = nI (c % aW a) := fun c hc => pk_rem (by omega) (by omega) (by omega)
  have loop : ∀ (tx ty : Int32), (0 < ad2 (p % aW a) (q % aW a) → tx = (if q % aW a < p % aW a then -1 else 1)) → (0 < ad2 (p / aW a) (q / aW a) → ty = (if q / aW a < p / aW a then -1 else 1)) → ∀ (m n gx gy : Nat) (b : Bool), gx ≤ ad2 (p % aW a) (q % aW a) → gy ≤ ad2 (p / aW a) (q / aW a) → ad2 (p % aW a) (q % aW a) + ad2 (p / aW a) (q / aW a) - (gx + gy) ≤ m → m < n → Q (bI (b && wy a p q (ad2 (p % aW a) (q % aW a)) (ad2 (p / aW a) (q / aW a)) m gx gy)) → L_mo_isWayClear_78 (nI (aW a)) mk Q n (nI (Xg (p % aW a) (q % aW a) gx)) (nI (Xg (p / aW a) (q / aW a) gy)) (nI (ad2 (p % aW a) (q % aW a))) (nI (ad2 (p / aW a) (q / aW a))) tx ty (nI gx) (nI gy) (bI b) := by
    have hcl : ∀ gx gy, gx ≤ ad2 (p % aW a) (q % aW a) → gy ≤ ad2 (p / aW a) (q / aW a) → ∀ {Q2 : Int32 → Prop}, Q2 (bI (cg a p q gx gy)) → P_mo_isClear (nI (aW a)) mk (nI (Xg (p % aW a) (q % aW a) gx)) (nI (Xg (p / aW a) (q / aW a) gy)) Q2 := fun gx gy g1 g2 Q2 hQ => s_mclear hA hm rfl (cg_lt hA hp hq g1 g2) hQ
    have bsx := ad2_lt hpp.1 hqq.1
    have bsy := ad2_lt hpp.2 hqq.2
    have hxs : ∀ g, g < ad2 (p % aW a) (q % aW a) → nI (Xg (p % aW a) (q % aW a) g) + (if q % aW a < p % aW a then -1 else 1) = nI (Xg (p % aW a) (q % aW a) (g + 1)) := fun g hg => Xg_s (by omega) (by omega) hg
    have hys : ∀ g, g < ad2 (p / aW a) (q / aW a) → nI (Xg (p / aW a) (q / aW a) g) + (if q / aW a < p / aW a then -1 else 1) = nI (Xg (p / aW a) (q / aW a) (g + 1)) := fun g hg => Xg_s (by omega) (by omega) hg
    generalize ad2 (p % aW a) (q % aW a) = sx at *
    generalize ad2 (p / aW a) (q / aW a) = sy at *
    intro tx ty htx hty m
    induction m with
    | zero =>
      intro n gx gy b g1 g2 g3 g4 hQ
      obtain ⟨n, rfl⟩ : ∃ z, n = z + 1 := ⟨n - 1, by omega⟩
      unfold L_mo_isWayClear_78
      unfold wy at hQ
      rw [Bool.and_true] at hQ
      exact br_f (nI_nlt (by omega) (by omega)) (br_t (nI_le (by omega) (by omega)) ⟨bI_01 b, hQ⟩)
    | succ m ih =>
      intro n gx gy b g1 g2 g3 g4 hQ
      obtain ⟨n, rfl⟩ : ∃ z, n = z + 1 := ⟨n - 1, by omega⟩
      unfold L_mo_isWayClear_78
      unfold wy at hQ
      have b92 : gx + gy < sx + sy → B_mo_isWayClear_92 (nI (aW a)) mk Q (L_mo_isWayClear_78 (nI (aW a)) mk Q n) (nI (Xg (p % aW a) (q % aW a) gx)) (nI (Xg (p / aW a) (q / aW a) gy)) (nI sx) (nI sy) tx ty (nI gx) (nI gy) (bI b) := by
        intro g
        rw [if_neg (by omega)] at hQ
        unfold B_mo_isWayClear_92
        rw [ld_i]
        rintro _ rfl
        obtain ⟨⟨d1, d2⟩, d3⟩ := ld_dec ⟨sx, by omega⟩ ⟨sy, by omega⟩ ⟨gx, by omega⟩ ⟨gy, by omega⟩
        obtain ⟨d4, d5⟩ := d3 g g1 g2
        simp only at d1 d2 d4 d5
        have bl : iB (ld sx sy gx gy) := ⟨by omega, by omega⟩
        have z0 : (0 : Int32) = iI 0 := rfl
        have b0 : iB 0 := ⟨by omega, by omega⟩
        have fin : ∀ (gx' gy' : Nat) (b' : Bool), gx' ≤ sx → gy' ≤ sy → sx + sy - (gx' + gy') ≤ m → Q (bI (b' && (cg a p q gx' gy' && wy a p q sx sy m gx' gy'))) → B_mo_isWayClear_203 (nI (aW a)) mk Q (L_mo_isWayClear_78 (nI (aW a)) mk Q n) (nI (Xg (p % aW a) (q % aW a) gx')) (nI (Xg (p / aW a) (q / aW a) gy')) (nI sx) (nI sy) tx ty (nI gx') (nI gy') (bI b') := by
          intro gx' gy' b' f1 f2 f3 f4
          unfold B_mo_isWayClear_203
          refine brB (fun hf => ?_) (fun ht => ?_)
          · rw [hf, Bool.false_and] at f4
            exact ih n gx' gy' false f1 f2 f3 (by omega) (by rw [Bool.false_and]; exact f4)
          · rw [ht, Bool.true_and] at f4
            refine hcl gx' gy' f1 f2 (brB (fun hf => ?_) (fun ht2 => ?_))
            · rw [hf, Bool.false_and] at f4
              exact ih n gx' gy' false f1 f2 f3 (by omega) (by rw [Bool.false_and]; exact f4)
            · rw [ht2, Bool.true_and] at f4
              exact ih n gx' gy' true f1 f2 f3 (by omega) (by rw [Bool.true_and]; exact f4)
        rw [z0, iI_eq bl b0, iI_le b0 bl]
        refine ⟨fun c0 => ?_, fun c0 => ⟨fun c1 => ?_, fun c1 => ?_⟩⟩
        · have hgx := d4 (by omega)
          have hgy := d5 (by omega)
          rw [if_pos c0] at hQ
          rw [htx (by omega), hty (by omega)] at *
          have b154 : ∀ b' : Bool, Q (bI (b' && (cg a p q (gx + 1) (gy + 1) && wy a p q sx sy m (gx + 1) (gy + 1)))) → B_mo_isWayClear_154 (nI (aW a)) mk Q (L_mo_isWayClear_78 (nI (aW a)) mk Q n) (nI (Xg (p % aW a) (q % aW a) gx)) (nI (Xg (p / aW a) (q / aW a) gy)) (nI sx) (nI sy) (if q % aW a < p % aW a then -1 else 1) (if q / aW a < p / aW a then -1 else 1) (nI gx) (nI gy) (bI b') := by
            intro b' hb'
            unfold B_mo_isWayClear_154
            rw [hxs gx hgx, hys gy hgy, nI_1, nI_1]
            rintro _ rfl _ rfl
            exact fin (gx + 1) (gy + 1) b' (by omega) (by omega) (by omega) hb'
          refine brB (fun hf => b154 false ?_) (fun ht => ?_)
          · rw [hf, Bool.false_and] at hQ; rw [Bool.false_and]; exact hQ
          · rw [ht, Bool.true_and] at hQ
            rw [hxs gx hgx, hys gy hgy]
            refine hcl (gx + 1) gy (by omega) g2 (brB (fun hf => ?_) (fun ht2 => ?_))
            · rw [hf, Bool.false_or] at hQ
              refine hcl gx (gy + 1) g1 (by omega) (brB (fun hf2 => ?_) (fun ht3 => ?_))
              · refine b154 false ?_
                rw [hf2, Bool.false_and, Bool.false_and] at hQ; rw [Bool.false_and]; exact hQ
              · refine b154 true ?_
                rw [ht3, Bool.true_and] at hQ; rw [Bool.true_and]; exact hQ
            · refine b154 true ?_
              rw [ht2, Bool.true_or, Bool.true_and] at hQ; rw [Bool.true_and]; exact hQ
        · have hgy := d5 c1
          rw [if_neg c0, if_neg (by omega)] at hQ
          rw [hty (by omega), hys gy hgy, nI_1]
          rintro _ rfl
          have := fin gx (gy + 1) b g1 (by omega) (by omega) hQ
          rw [hty (by omega)] at this
          exact this
        · have hgx := d4 (by omega)
          rw [if_neg c0, if_pos (by omega)] at hQ
          rw [htx (by omega), hxs gx hgx, nI_1]
          rintro _ rfl
          have := fin (gx + 1) gy b (by omega) g2 (by omega) hQ
          rw [htx (by omega)] at this
          exact this
      rcases Nat.lt_or_ge gx sx with g | g
      · exact br_t (nI_lt g (by omega)) (b92 (by omega))
      · refine br_f (nI_nlt g (by omega)) ?_
        rcases Nat.lt_or_ge gy sy with g5 | g5
        · exact br_f (nI_ge g5 (by omega)) (b92 (by omega))
        · rw [if_pos (by omega), Bool.and_true] at hQ
          exact br_t (nI_le g5 (by omega)) ⟨bI_01 b, hQ⟩
  unfold P_mo_isWayClear
  refine ⟨hne, ?_⟩
  rw [rm p hp, rm q hq, dv p hp, dv q hq]
  rintro _ rfl
  refine ⟨hne, ?_⟩
  rintro _ rfl
  refine ⟨hne, s_size (by omega) (by omega) ⟨hne, s_size (by omega) (by omega) ⟨hne, s_sign (by omega) (by omega) ⟨hne, s_sign (by omega) (by omega) ?_⟩⟩⟩⟩
  have sym : ∀ x y, ad2 x y = ad2 y x := fun x y => by unfold ad2; omega
  rw [sym (q % aW a), sym (q / aW a)]
  have sg : ∀ x y : Nat, 0 < ad2 x y → (if y < x then (-1 : Int32) else if y = x then 0 else 1) = (if y < x then -1 else 1) := by
    intro x y hxy
    unfold ad2 at hxy
    by_cases c : y < x
    · rw [if_pos c, if_pos c]
    · rw [if_neg c, if_neg c, if_neg (by omega)]
  have go := loop _ _ (sg (p % aW a) (q % aW a)) (sg (p / aW a) (q / aW a)) (ad2 (p % aW a) (q % aW a) + ad2 (p / aW a) (q / aW a)) (ad2 (p % aW a) (q % aW a) + ad2 (p / aW a) (q / aW a) + 1) 0 0 true (Nat.zero_le _) (Nat.zero_le _) (by omega) (by omega) (by rw [Bool.true_and]; exact h)
  rw [Xg_0, Xg_0] at go
  exact ⟨_, go⟩
/-- what a cell sees -/
noncomputable def sees (a : Abs) (p q : Nat) : Bool :=
  if p = q then std a p
  else (flr a p && flr a q) && (decide (ad2 (p % aW a) (q % aW a) ≤ aRg a ∧ ad2 (p / aW a) (q / aW a) ≤ aRg a) && (if aLw a = 2 then way a p q else if aLw a = 1 then box a p q else (decide (ad2 (p % aW a) (q % aW a) = 0 ∨ ad2 (p / aW a) (q / aW a) = 0) && box a p q)))
theorem flr0 {a : Abs} (hA : AOk a) {c : Nat} (hc : c < aN a) : nI (aKd a c) = 0 ↔ flr a c = true := by
  have h3 := hA.2.2.1 c hc
  have := kd0 (k := 0) h3 (by omega)
  unfold flr
  rw [beq_iff_eq]
  exact this
theorem s_reaches {a : Abs} {gw gh gz sl sr : Int32} {gc gr gk : Nat → Int32} {fc lc f c2 st : Int64} {p q : Nat} {Q : Int32 → Prop} (hA : AOk a) (hs : IGs a gw gh gz gc gr fc lc) (hk : IGk a gk f c2 st) (hS : IS a sl sr) (hp : p < aN a) (hq : q < aN a) (h : Q (bI (sees a p q))) : P_si_reaches gw gc gr f c2 st sl sr (nI p) (nI q) Q := by
  have hn := aN_le hA
  have hW := hA.1
  have hH := hA.2.1
  have hpp := xy_lt hA hp
  have hqq := xy_lt hA hq
  have bsx := ad2_lt hpp.1 hqq.1
  have bsy := ad2_lt hpp.2 hqq.2
  have hl := hA.2.2.2.1
  have hr := hA.2.2.2.2.1
  obtain ⟨e1, e2, e3, e4, e5, e6⟩ := id hs
  unfold P_si_reaches
  rw [nI_eq (by omega) (by omega), hS.1, hS.2]
  unfold sees at h
  refine ⟨fun e => ?_, fun e => ?_⟩
  · rw [if_pos e] at h
    exact s_mayStand hk hn.2 hp ⟨bI_01 _, h⟩
  · rw [if_neg e] at h
    refine s_isFloor hk hn.2 hp (brB (fun hf => ?_) (fun ht => ?_))
    · rw [hf, Bool.false_and, Bool.false_and] at h; exact h
    · rw [ht, Bool.true_and] at h
      refine s_isFloor hk hn.2 hq (brB (fun hf => ?_) (fun ht2 => ?_))
      · rw [hf, Bool.false_and] at h; exact h
      · rw [ht2, Bool.true_and] at h
        refine s_col (by omega) (s_col (by omega) ?_)
        rw [e4 p hp, e4 q hq, adi (by omega) (by omega)]
        rintro _ rfl
        refine s_row (by omega) (s_row (by omega) ?_)
        rw [e5 p hp, e5 q hq, adi (by omega) (by omega)]
        rintro _ rfl
        rw [nI_ltI (by omega) (by omega), nI_leI (by omega) (by omega)]
        refine ⟨fun c => ?_, fun c => ⟨fun c3 => ?_, fun c3 => ?_⟩⟩
        · rw [decide_eq_false (by omega), Bool.false_and] at h; exact h
        · rw [decide_eq_true (by omega), Bool.true_and] at h
          have b132 : Q (bI (box a p q)) → B_si_reaches_132 gw gc gr c2 Q (nI p) (nI q) := by
            intro hb
            unfold B_si_reaches_132
            exact s_box hA hs hk hp hq (brB (fun z => by rw [z] at hb; exact hb) (fun z => by rw [z] at hb; exact hb))
          refine ⟨fun c4 => ?_, fun c4 => ⟨fun c5 => ?_, fun c5 => ?_⟩⟩
          · rw [if_pos ((nI_eq (b := 2) (by omega) (by omega)).mp c4)] at h
            exact s_way hA hs hk hp hq ⟨bI_01 _, h⟩
          · have n2 : ¬ aLw a = 2 := fun z => c4 (by rw [z]; rfl)
            rw [if_neg n2, if_pos ((nI_eq (b := 1) (by omega) (by omega)).mp c5)] at h
            exact b132 h
          · have n2 : ¬ aLw a = 2 := fun z => c4 (by rw [z]; rfl)
            have n1 : ¬ aLw a = 1 := fun z => c5 (by rw [z]; rfl)
            rw [if_neg n2, if_neg n1] at h
            refine ⟨fun c6 => ?_, fun c6 => ⟨fun c7 => ?_, fun c7 => ?_⟩⟩
            · have := (nI_eq (b := 0) (by omega) (by omega)).mp c6
              rw [decide_eq_true (Or.inl this), Bool.true_and] at h
              exact b132 h
            · have := (nI_eq (b := 0) (by omega) (by omega)).mp c7
              rw [decide_eq_true (Or.inr this), Bool.true_and] at h
              exact b132 h
            · have z6 : ¬ ad2 (p % aW a) (q % aW a) = 0 := fun z => c6 (by rw [z]; rfl)
              have z7 : ¬ ad2 (p / aW a) (q / aW a) = 0 := fun z => c7 (by rw [z]; rfl)
              rw [decide_eq_false (by omega), Bool.false_and] at h
              exact h
        · rw [decide_eq_false (by omega), Bool.false_and] at h; exact h
theorem s_isSeen {a : Abs} {mw ml mr : Int32} {mk : Nat → Int32} {p q : Nat} {Q : Int32 → Prop} (hA : AOk a) (hm : ∀ c, c < aN a → mk c = nI (aKd a c)) (h1 : mw = nI (aW a)) (h4 : ml = nI (aLw a)) (h5 : mr = nI (aRg a)) (hp : p < aN a) (hq : q < aN a) (h : Q (bI (sees a p q))) : P_mo_isSeen mw mk ml mr (nI p) (nI q) Q := by
  have hn := aN_le hA
  have hW := hA.1
  have hH := hA.2.1
  have hpp := xy_lt hA hp
  have hqq := xy_lt hA hq
  have bsx := ad2_lt hpp.1 hqq.1
  have bsy := ad2_lt hpp.2 hqq.2
  have hl := hA.2.2.2.1
  have hr := hA.2.2.2.2.1
  have hne : ¬ nI (aW a) = 0 := nI_ne0 (by omega) (by omega)
  subst h1 h4 h5
  have dv : ∀ c, c < aN a → nI c / nI (aW a) = nI (c / aW a) := fun c hc => pk_div (by omega) (by omega) (by omega)
  have rm : ∀ c, c < aN a → nI c - nI c / nI (aW a) * nI (aW a) = nI (c % aW a) := fun c hc => pk_rem (by omega) (by omega) (by omega)
  unfold P_mo_isSeen
  rw [rm p hp, rm q hq, dv p hp, dv q hq, cl (by omega), cl (by omega), hm p hp, hm q hq]
  rw [show (nI p = nI q) = (p = q) from propext (nI_eq (by omega) (by omega))]
  unfold sees at h
  refine ⟨fun e => ?_, fun e => ?_⟩
  · rw [if_pos e] at h
    exact s_mstands hA hm hp ⟨bI_01 _, h⟩
  · rw [if_neg e] at h
    refine ⟨hne, hne, s_size (by omega) (by omega) ⟨hne, hne, s_size (by omega) (by omega) ⟨vI (by omega) (by omega), fun f1 => ⟨vI (by omega) (by omega), fun f2 => ?_, fun f2 => ?_⟩, fun f1 => ?_⟩⟩⟩
    · rw [(flr0 hA hp).mp f1, (flr0 hA hq).mp f2, Bool.true_and, Bool.true_and] at h
      rw [nI_ltI (by omega) (by omega), nI_leI (by omega) (by omega)]
      refine ⟨fun c => ?_, fun c => ⟨fun c3 => ?_, fun c3 => ?_⟩⟩
      · rw [decide_eq_false (by omega), Bool.false_and] at h; exact h
      · rw [decide_eq_true (by omega), Bool.true_and] at h
        refine ⟨fun c4 => ?_, fun c4 => ⟨fun c5 => ?_, fun c5 => ?_⟩⟩
        · have z := (nI_eq (b := 0) (by omega) (by omega)).mp c4
          rw [if_neg (by omega), if_neg (by omega)] at h
          have b99 : Q (bI (box a p q)) → B_mo_isSeen_99 (nI (aW a)) mk Q (nI p) (nI q) := by
            intro hb
            unfold B_mo_isSeen_99
            exact s_mbox hA hm rfl hp hq (brB (fun z => by rw [z] at hb; exact hb) (fun z => by rw [z] at hb; exact hb))
          refine ⟨fun c6 => ?_, fun c6 => ⟨fun c7 => ?_, fun c7 => ?_⟩⟩
          · have := (nI_eq (b := 0) (by omega) (by omega)).mp c6
            rw [decide_eq_true (Or.inl this), Bool.true_and] at h
            exact b99 h
          · have := (nI_eq (b := 0) (by omega) (by omega)).mp c7
            rw [decide_eq_true (Or.inr this), Bool.true_and] at h
            exact b99 h
          · have z6 : ¬ ad2 (p % aW a) (q % aW a) = 0 := fun z => c6 (by rw [z]; rfl)
            have z7 : ¬ ad2 (p / aW a) (q / aW a) = 0 := fun z => c7 (by rw [z]; rfl)
            rw [decide_eq_false (by omega), Bool.false_and] at h
            exact h
        · have z := (nI_eq (b := 1) (by omega) (by omega)).mp c5
          rw [if_neg (by omega), if_pos z] at h
          exact s_mbox hA hm rfl hp hq ⟨bI_01 _, h⟩
        · have n0 : ¬ aLw a = 0 := fun z => c4 (by rw [z]; rfl)
          have n1 : ¬ aLw a = 1 := fun z => c5 (by rw [z]; rfl)
          rw [if_pos (by omega)] at h
          exact s_mway hA hm rfl hp hq ⟨bI_01 _, h⟩
      · rw [decide_eq_false (by omega), Bool.false_and] at h; exact h
    · have : flr a q = false := by
        cases z : flr a q with
        | false => rfl
        | true => exact absurd ((flr0 hA hq).mpr z) f2
      rw [this, Bool.and_false, Bool.false_and] at h; exact h
    · have : flr a p = false := by
        cases z : flr a p with
        | false => rfl
        | true => exact absurd ((flr0 hA hp).mpr z) f1
      rw [this, Bool.false_and, Bool.false_and] at h; exact h
