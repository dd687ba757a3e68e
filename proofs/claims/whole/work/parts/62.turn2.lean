theorem s_wturn {a : Abs} {gw gh gz : Int32} {gk gb gc gr pc pf rc rl rs wp : Nat → Int32} {ps : Int32} {f c2 st fc lc : Int64} {Q : Int32 → Int32 → Int32 → Int32 → (Nat → Int32) → (Nat → Int32) → (Nat → Int32) → (Nat → Int32) → Int64 → Int64 → Int64 → Int64 → Int64 → (Nat → Int32) → (Nat → Int32) → (Nat → Int32) → (Nat → Int32) → Prop} (hA : AOk a) (hs : IGs a gw gh gz gc gr fc lc) (hk : IGk a gk f c2 st) (hP : IP a pc pf ps) (hRo : IR a rc rl rs)
    (h : ∀ gk' gb' gc' gr' f' c' s' fc' lc' pc' pf' rc' wp', IGs (aTurn a) (nI (aH a)) (nI (aW a)) (nI (aN (aTurn a))) gc' gr' fc' lc' → IGk (aTurn a) gk' f' c' s' → IP (aTurn a) pc' pf' ps → IR (aTurn a) rc' rl rs → Q (nI (aH a)) (nI (aH a)) (nI (aW a)) (nI (aN (aTurn a))) gk' gb' gc' gr' f' c' s' fc' lc' pc' pf' rc' wp') : P_wh_turn gw gh gz gk gb gc gr f c2 st fc lc pc pf ps rc rl wp Q := by
  obtain ⟨-, hn⟩ := aN_le hA
  obtain ⟨s1, s2, s3, s4, s5, s6, s7⟩ := id hs
  have hT := Plc_t (w := aW a) (h := aH a) (by have := hA.1; omega) (by have := hA.2.1; omega)
  subst s1 s2 s3
  unfold P_wh_turn
  refine cnt0 (fun n i (s : Nat → Int32) => L_wh_turn_2 ps rl Q n (nI (aW a)) (nI (aH a)) (nI (aN a)) gk gb gc gr f c2 st fc lc pc pf rc s (nI i)) (aN a) (fun i s => ∀ c, c < i → s c = nI (tP (aW a) (aH a) c)) wp (fun c hc => absurd hc (Nat.not_lt_zero _)) ?_ ?_
  · intro n s hI
    unfold L_wh_turn_2 P_gr_size B_wh_turn_33
    refine br_t (nI_le (Nat.le_refl _) (by omega)) (s_piRel hA hP.1 hP.2.1 hI (fun pc' p1 => s_turnF hA hP.1 hP.2.2 (fun pf' p2 => s_roRel hA hRo.1 hRo.2.2 hI (fun rc' p3 => ?_))))
    unfold P_gr_height P_gr_width
    refine s_grRel (a2 := aTurn a) hA (aOk_t hA) (aN_t a) (fun c _ => rfl) rfl hk hI hT rfl rfl (fun gk' gb' gc' gr' f' c' s' fc' lc' q1 q2 => ?_)
    exact h gk' gb' gc' gr' f' c' s' fc' lc' pc' pf' rc' s q1 q2 ⟨hP.1, p1, p2⟩ ⟨hRo.1, hRo.2.1, p3⟩
  · intro n i s hi hI ih
    unfold L_wh_turn_2 P_gr_size P_gr_turnedPlace
    rw [nI_1 i, cl (n := i) (by omega), s4 i hi, s5 i hi, tP_i (div_lt2 hi)]
    refine br_f (nI_ge hi (by omega)) ⟨vI (by omega) (by omega), vI (by omega) (by omega), vI (by omega) (by omega), ih _ (fun c hc => ?_)⟩
    by_cases e : c = i
    · subst e; rw [u_s]; rfl
    · rw [u_n e]; exact hI c (by omega)
theorem s_wmir {a : Abs} {gw gh gz : Int32} {gk gb gc gr pc pf rc rl rs wp : Nat → Int32} {ps : Int32} {f c2 st fc lc : Int64} {Q : Int32 → Int32 → Int32 → Int32 → (Nat → Int32) → (Nat → Int32) → (Nat → Int32) → (Nat → Int32) → Int64 → Int64 → Int64 → Int64 → Int64 → (Nat → Int32) → (Nat → Int32) → (Nat → Int32) → (Nat → Int32) → Prop} (hA : AOk a) (hs : IGs a gw gh gz gc gr fc lc) (hk : IGk a gk f c2 st) (hP : IP a pc pf ps) (hRo : IR a rc rl rs)
    (h : ∀ gk' gb' gc' gr' f' c' s' fc' lc' pc' pf' rc' wp', IGs (aMir a) (nI (aW a)) (nI (aH a)) (nI (aN (aMir a))) gc' gr' fc' lc' → IGk (aMir a) gk' f' c' s' → IP (aMir a) pc' pf' ps → IR (aMir a) rc' rl rs → Q (nI (cntN (fun c => aKd a (mP (aW a) c) != aKd a c) (aN a))) (nI (aW a)) (nI (aH a)) (nI (aN (aMir a))) gk' gb' gc' gr' f' c' s' fc' lc' pc' pf' rc' wp') : P_wh_mirror gw gh gz gk gb gc gr f c2 st fc lc pc pf ps rc rl wp Q := by
  obtain ⟨-, hn⟩ := aN_le hA
  obtain ⟨s1, s2, s3, s4, s5, s6, s7⟩ := id hs
  have hw : 0 < aW a := by have := hA.1; omega
  have hT := Plc_m (w := aW a) (h := aH a) hw
  subst s1 s2 s3
  unfold P_wh_mirror
  refine cnt0 (fun n i (s : Nat → Int32) => L_wh_mirror_2 ps rl Q n (nI (aW a)) (nI (aH a)) (nI (aN a)) gk gb gc gr f c2 st fc lc pc pf rc s (nI i)) (aN a) (fun i s => ∀ c, c < i → s c = nI (mP (aW a) c)) wp (fun c hc => absurd hc (Nat.not_lt_zero _)) ?_ ?_
  · intro n s hI
    unfold L_wh_mirror_2 P_gr_size B_wh_mirror_33
    refine br_t (nI_le (Nat.le_refl _) (by omega)) (s_piRel hA hP.1 hP.2.1 hI (fun pc' p1 => s_mirrorF hA hP.1 hP.2.2 (fun pf' p2 => s_roRel hA hRo.1 hRo.2.2 hI (fun rc' p3 => ?_))))
    unfold P_gr_height P_gr_width
    refine s_grRel (a2 := aMir a) hA (aOk_m hA) rfl (fun c _ => rfl) rfl hk hI hT rfl rfl (fun gk' gb' gc' gr' f' c' s' fc' lc' q1 q2 => ?_)
    exact h gk' gb' gc' gr' f' c' s' fc' lc' pc' pf' rc' s q1 q2 ⟨hP.1, p1, p2⟩ ⟨hRo.1, hRo.2.1, p3⟩
  · intro n i s hi hI ih
    unfold L_wh_mirror_2 P_gr_size P_gr_mirroredPlace
    rw [nI_1 i, cl (n := i) (by omega), s4 i hi, s5 i hi, tP_i (Nat.mod_lt i hw)]
    refine br_f (nI_ge hi (by omega)) ⟨vI (by omega) (by omega), vI (by omega) (by omega), vI (by omega) (by omega), ih _ (fun c hc => ?_)⟩
    by_cases e : c = i
    · subst e; rw [u_s]; rfl
    · rw [u_n e]; exact hI c (by omega)
theorem s_mturn {a : Abs} {mw mt mp : Int32} {mk mpc mf rm ro mo : Nat → Int32} {Q : Int32 → Int32 → Int32 → (Nat → Int32) → (Nat → Int32) → (Nat → Int32) → (Nat → Int32) → (Nat → Int32) → Prop} (hA : AOk a) (hm : ∀ c, c < aN a → mk c = nI (aKd a c)) (h1 : mw = nI (aW a)) (h2 : mt = nI (aH a)) (h6 : mp = nI (aNp a)) (m7 : ∀ p, p < aNp a → mpc p = nI (aPc a p)) (m8 : ∀ p, p < aNp a → mf p = nI (aPf a p)) (m9 : ∀ k, k < 4 → rm k = nI (aRl a k)) (m10 : ∀ k i, k < 4 → i < aRl a k → ro (6 * k + i) = nI (aRc a k i))
    (h : ∀ mk' mpc' mf' ro' mo', (∀ c, c < aN a → mk' c = nI (aKd a (tU (aW a) (aH a) c))) → (∀ p, p < aNp a → mpc' p = nI (tP (aW a) (aH a) (aPc a p))) → (∀ p, p < aNp a → mf' p = nI ((aPf a p + 1) % 4)) → (∀ k i, k < 4 → i < aRl a k → ro' (6 * k + i) = nI (tP (aW a) (aH a) (aRc a k i))) → Q (nI (aH a)) (nI (aH a)) (nI (aW a)) mk' mpc' mf' ro' mo') : P_mo_turn mw mt mk mp mpc mf rm ro mo Q := by
  obtain ⟨-, hn⟩ := aN_le hA
  have hnp : aNp a ≤ 8 := hA.2.2.2.2.2.1
  have hW := hA.1
  have hH := hA.2.1
  have h66 : ∀ k, k < 4 → aRl a k ≤ 6 := hA.2.2.2.2.2.2.2.1
  have hT := Plc_t (w := aW a) (h := aH a) (by omega) (by omega)
  have trn : ∀ {c : Nat} {Q : Int32 → Prop}, c < aN a → Q (nI (tP (aW a) (aH a) c)) → P_mo_turned (nI (aW a)) (nI (aH a)) (nI c) Q := fun hc hQ => s_mturned (by omega) (by omega) hc hn (by omega) hQ
  subst h1 h2 h6
  have hN : nI (aW a) * nI (aH a) = nI (aN a) := pk_mul _ _
  unfold P_mo_turn
  refine cnt0 (fun n i (s : Nat → Int32) => L_mo_turn_2 (nI (aNp a)) rm Q n (nI (aW a)) (nI (aH a)) mk mpc mf ro s (nI i)) (aN a) (fun i s => ∀ c, c < i → s c = nI (aKd a c)) mo (fun c hc => absurd hc (Nat.not_lt_zero _)) ?_ ?_
  · intro n old hO
    unfold L_mo_turn_2
    rw [hN]
    refine br_t (nI_le (Nat.le_refl _) (by omega)) ?_
    refine cnt0 (fun n i (s : Nat → Int32) => L_mo_turn_35 (nI (aNp a)) rm Q n (nI (aW a)) (nI (aH a)) s mpc mf ro old (nI i)) (aN a) (fun i s => ∀ c, c < i → s (tP (aW a) (aH a) c) = nI (aKd a c)) mk (fun c hc => absurd hc (Nat.not_lt_zero _)) ?_ ?_
    · intro n s hI
      have hs : ∀ c, c < aN a → s c = nI (aKd a (tU (aW a) (aH a) c)) := fun c hc => by
        have := hI _ (hT.2 c hc).1
        rw [(hT.2 c hc).2] at this
        exact this
      unfold L_mo_turn_35
      rw [hN]
      refine br_t (nI_le (Nat.le_refl _) (by omega)) ?_
      refine cnt0 (fun n i (z : (Nat → Int32) × (Nat → Int32)) => L_mo_turn_72 (nI (aNp a)) rm Q n (nI (aW a)) (nI (aH a)) s z.1 z.2 ro old (nI i)) (aNp a) (fun i z => (∀ p, p < i → z.1 p = nI (tP (aW a) (aH a) (aPc a p)) ∧ z.2 p = nI ((aPf a p + 1) % 4)) ∧ ∀ p, i ≤ p → p < aNp a → z.1 p = nI (aPc a p) ∧ z.2 p = nI (aPf a p)) (mpc, mf) ⟨fun p hp => absurd hp (Nat.not_lt_zero _), fun p _ hp => ⟨m7 p hp, m8 p hp⟩⟩ ?_ ?_
      · rintro n ⟨pc', pf'⟩ hI2
        unfold L_mo_turn_72
        refine br_t (nI_le (Nat.le_refl _) (by omega)) ?_
        refine cnt0 (fun n i (s2 : Nat → Int32) => L_mo_turn_120 rm Q n (nI (aW a)) (nI (aH a)) s pc' pf' s2 old (nI i)) 24 (fun z s2 => ∀ k i, k < 4 → i < aRl a k → s2 (6 * k + i) = if 6 * k + i < z then nI (tP (aW a) (aH a) (aRc a k i)) else nI (aRc a k i)) ro (fun k i hk hi => by rw [if_neg (by omega)]; exact m10 k i hk hi) ?_ ?_
        · intro n s2 hI3
          unfold L_mo_turn_120 B_mo_turn_168
          refine br_t (nI_le (a := 24) (b := 24) (Nat.le_refl _) (by omega)) (h s pc' pf' s2 old hs (fun p hp => (hI2.1 p hp).1) (fun p hp => (hI2.1 p hp).2) (fun k i hk hi => ?_))
          have := h66 k hk
          rw [hI3 k i hk hi, if_pos (by omega)]
        · intro n z s2 hz hI3 ih
          unfold L_mo_turn_120
          have e6 : ¬ (6 : Int32) = 0 := by decide
          rw [nI_1 z, show (6 : Int32) = nI 6 from rfl, pk_rem (by omega) (by decide) (by decide), pk_div (by omega) (by decide) (by decide), cl (n := z / 6) (by omega), cl (n := z) (by omega), m9 (z / 6) (by omega)]
          have hz6 := h66 (z / 6) (by omega)
          refine br_f (nI_ge (b := 24) hz (by omega)) ⟨e6, e6, vI (by omega) (by omega), fun q => ⟨vI (by omega) (by omega), ih _ (fun k i hk hi => ?_)⟩, fun q => ⟨vI (by omega) (by omega), ?_⟩⟩
          · rw [nI_leI (by omega) (by omega)] at q
            have := h66 k hk
            have hne : 6 * k + i ≠ z := by
              intro e
              have e1 : z / 6 = k := by omega
              have e2 : z % 6 = i := by omega
              rw [e1, e2] at q
              omega
            rw [u_n hne, hI3 k i hk hi]
            by_cases e : 6 * k + i < z
            · rw [if_pos e, if_pos (by omega)]
            · rw [if_neg e, if_neg (by omega)]
          · rw [nI_leI (by omega) (by omega)] at q
            have hsz := hI3 (z / 6) (z % 6) (by omega) (by omega)
            have ez : 6 * (z / 6) + z % 6 = z := by omega
            rw [ez, if_neg (by omega)] at hsz
            rw [hsz]
            refine trn (hA.2.2.2.2.2.2.2.2.1 _ _ (by omega) (by omega)) ⟨vI (by omega) (by omega), ih _ (fun k i hk hi => ?_)⟩
            have := h66 k hk
            by_cases e : 6 * k + i = z
            · have e1 : z / 6 = k := by omega
              have e2 : z % 6 = i := by omega
              rw [e, u_s, e1, e2, if_pos (by omega)]
            · rw [u_n e, hI3 k i hk hi]
              by_cases e : 6 * k + i < z
              · rw [if_pos e, if_pos (by omega)]
              · rw [if_neg e, if_neg (by omega)]
      · rintro n i ⟨pc', pf'⟩ hi hI2 ih
        obtain ⟨x1, x2⟩ := hI2.2 i (Nat.le_refl _) hi
        have x1' : pc' i = nI (aPc a i) := x1
        have x2' : pf' i = nI (aPf a i) := x2
        have hq := hA.2.2.2.2.2.2.1 i hi
        have e4 : ¬ (4 : Int32) = 0 := by decide
        unfold L_mo_turn_72
        show ((_ → _) ∧ _)
        rw [nI_1 i, cl (n := i) (by omega)]
        simp only [x1', x2']
        refine br_f (nI_ge hi (by omega)) ⟨vI (by omega) (by omega), trn hq.1 ⟨vI (by omega) (by omega), vI (by omega) (by omega), e4, vI (by omega) (by omega), ?_⟩⟩
        rw [nI_1, show (4 : Int32) = nI 4 from rfl, pk_rem (by omega) (by decide) (by decide)]
        refine ih (_, _) ⟨fun p hp => ?_, fun p hp hp2 => ?_⟩
        · by_cases e : p = i
          · subst e; exact ⟨u_s, u_s⟩
          · have := hI2.1 p (by omega)
            exact ⟨(u_n e).trans this.1, (u_n e).trans this.2⟩
        · have := hI2.2 p (by omega) hp2
          exact ⟨(u_n (by omega)).trans this.1, (u_n (by omega)).trans this.2⟩
    · intro n i s hi hI ih
      have hTi := hT.1 i hi
      have hTl : tP (aW a) (aH a) i < aN a := hTi.1
      unfold L_mo_turn_35
      rw [hN, nI_1 i]
      refine br_f (nI_ge hi (by omega)) (trn hi ⟨vI (by omega) (by omega), vI (by omega) (by omega), ?_⟩)
      rw [cl (n := tP (aW a) (aH a) i) (by omega), cl (n := i) (by omega), hO i hi]
      refine ih _ (fun c hc => ?_)
      by_cases e : c = i
      · subst e; rw [u_s]
      · rw [u_n]
        · exact hI c (by omega)
        · intro q
          have := (hT.1 c (Nat.lt_trans (by omega) hi)).2
          rw [q, hTi.2] at this
          exact e this.symm
  · intro n i s hi hI ih
    unfold L_mo_turn_2
    rw [hN, nI_1 i, cl (n := i) (by omega), hm i hi]
    refine br_f (nI_ge hi (by omega)) ⟨vI (by omega) (by omega), vI (by omega) (by omega), ih _ (fun c hc => ?_)⟩
    by_cases e : c = i
    · subst e; rw [u_s]
    · rw [u_n e]; exact hI c (by omega)
theorem s_mmir {a : Abs} {mw mt mp : Int32} {mk mpc mf rm ro mo : Nat → Int32} {Q : Int32 → (Nat → Int32) → (Nat → Int32) → (Nat → Int32) → (Nat → Int32) → (Nat → Int32) → Prop} (hA : AOk a) (hm : ∀ c, c < aN a → mk c = nI (aKd a c)) (h1 : mw = nI (aW a)) (h2 : mt = nI (aH a)) (h6 : mp = nI (aNp a)) (m7 : ∀ p, p < aNp a → mpc p = nI (aPc a p)) (m8 : ∀ p, p < aNp a → mf p = nI (aPf a p)) (m9 : ∀ k, k < 4 → rm k = nI (aRl a k)) (m10 : ∀ k i, k < 4 → i < aRl a k → ro (6 * k + i) = nI (aRc a k i))
    (h : ∀ mk' mpc' mf' ro' mo', (∀ c, c < aN a → mk' c = nI (aKd a (mP (aW a) c))) → (∀ p, p < aNp a → mpc' p = nI (mP (aW a) (aPc a p))) → (∀ p, p < aNp a → mf' p = nI (mF (aPf a p))) → (∀ k i, k < 4 → i < aRl a k → ro' (6 * k + i) = nI (mP (aW a) (aRc a k i))) → Q (nI (cntN (fun c => aKd a (mP (aW a) c) != aKd a c) (aN a))) mk' mpc' mf' ro' mo') : P_mo_mirror mw mt mk mp mpc mf rm ro mo Q := by
  obtain ⟨-, hn⟩ := aN_le hA
  have hnp : aNp a ≤ 8 := hA.2.2.2.2.2.1
  have hW := hA.1
  have hH := hA.2.1
  have h66 : ∀ k, k < 4 → aRl a k ≤ 6 := hA.2.2.2.2.2.2.2.1
  have hT := Plc_m (w := aW a) (h := aH a) (by omega)
  have trn : ∀ {c : Nat} {Q : Int32 → Prop}, c < aN a → Q (nI (mP (aW a) c)) → P_mo_mirrored (nI (aW a)) (nI c) Q := fun hc hQ => s_mmirrored (by omega) hc hn (by omega) hQ
  subst h1 h2 h6
  have hN : nI (aW a) * nI (aH a) = nI (aN a) := pk_mul _ _
  unfold P_mo_mirror
  refine cnt0 (fun n i (s : Nat → Int32) => L_mo_mirror_4 (nI (aW a)) (nI (aH a)) (nI (aNp a)) rm Q n mk mpc mf ro s 0 (nI i)) (aN a) (fun i s => ∀ c, c < i → s c = nI (aKd a c)) mo (fun c hc => absurd hc (Nat.not_lt_zero _)) ?_ ?_
  · intro n old hO
    unfold L_mo_mirror_4
    rw [hN]
    refine br_t (nI_le (Nat.le_refl _) (by omega)) ?_
    refine cnt0 (fun n i (z : (Nat → Int32) × Int32) => L_mo_mirror_37 (nI (aW a)) (nI (aH a)) (nI (aNp a)) rm Q n z.1 mpc mf ro old z.2 (nI i)) (aN a) (fun i z => (∀ c, c < i → z.1 c = nI (aKd a (mP (aW a) c))) ∧ z.2 = nI (cntN (fun c => aKd a (mP (aW a) c) != aKd a c) i)) (mk, 0) ⟨fun c hc => absurd hc (Nat.not_lt_zero _), rfl⟩ ?_ ?_
    · rintro n ⟨s, r⟩ ⟨hs, hr⟩
      have hr' : r = nI (cntN (fun c => aKd a (mP (aW a) c) != aKd a c) (aN a)) := hr
      subst hr'
      unfold L_mo_mirror_37
      rw [hN]
      refine br_t (nI_le (Nat.le_refl _) (by omega)) ?_
      refine cnt0 (fun n i (z : (Nat → Int32) × (Nat → Int32)) => L_mo_mirror_97 (nI (aW a)) (nI (aNp a)) rm Q n s z.1 z.2 ro old (nI (cntN (fun c => aKd a (mP (aW a) c) != aKd a c) (aN a))) (nI i)) (aNp a) (fun i z => (∀ p, p < i → z.1 p = nI (mP (aW a) (aPc a p)) ∧ z.2 p = nI (mF (aPf a p))) ∧ ∀ p, i ≤ p → p < aNp a → z.1 p = nI (aPc a p) ∧ z.2 p = nI (aPf a p)) (mpc, mf) ⟨fun p hp => absurd hp (Nat.not_lt_zero _), fun p _ hp => ⟨m7 p hp, m8 p hp⟩⟩ ?_ ?_
      · rintro n ⟨pc', pf'⟩ hI2
        unfold L_mo_mirror_97
        refine br_t (nI_le (Nat.le_refl _) (by omega)) ?_
        refine cnt0 (fun n i (s2 : Nat → Int32) => L_mo_mirror_168 (nI (aW a)) rm Q n s pc' pf' s2 old (nI (cntN (fun c => aKd a (mP (aW a) c) != aKd a c) (aN a))) (nI i)) 24 (fun z s2 => ∀ k i, k < 4 → i < aRl a k → s2 (6 * k + i) = if 6 * k + i < z then nI (mP (aW a) (aRc a k i)) else nI (aRc a k i)) ro (fun k i hk hi => by rw [if_neg (by omega)]; exact m10 k i hk hi) ?_ ?_
        · intro n s2 hI3
          unfold L_mo_mirror_168
          refine br_t (nI_le (a := 24) (b := 24) (Nat.le_refl _) (by omega)) (h s pc' pf' s2 old hs (fun p hp => (hI2.1 p hp).1) (fun p hp => (hI2.1 p hp).2) (fun k i hk hi => ?_))
          have := h66 k hk
          rw [hI3 k i hk hi, if_pos (by omega)]
        · intro n z s2 hz hI3 ih
          unfold L_mo_mirror_168
          have e6 : ¬ (6 : Int32) = 0 := by decide
          rw [nI_1 z, show (6 : Int32) = nI 6 from rfl, pk_rem (by omega) (by decide) (by decide), pk_div (by omega) (by decide) (by decide), cl (n := z / 6) (by omega), cl (n := z) (by omega), m9 (z / 6) (by omega)]
          have hz6 := h66 (z / 6) (by omega)
          refine br_f (nI_ge (b := 24) hz (by omega)) ⟨e6, e6, vI (by omega) (by omega), fun q => ⟨vI (by omega) (by omega), ih _ (fun k i hk hi => ?_)⟩, fun q => ⟨vI (by omega) (by omega), ?_⟩⟩
          · rw [nI_leI (by omega) (by omega)] at q
            have := h66 k hk
            have hne : 6 * k + i ≠ z := by
              intro e
              have e1 : z / 6 = k := by omega
              have e2 : z % 6 = i := by omega
              rw [e1, e2] at q
              omega
            rw [u_n hne, hI3 k i hk hi]
            by_cases e : 6 * k + i < z
            · rw [if_pos e, if_pos (by omega)]
            · rw [if_neg e, if_neg (by omega)]
          · rw [nI_leI (by omega) (by omega)] at q
            have hsz := hI3 (z / 6) (z % 6) (by omega) (by omega)
            have ez : 6 * (z / 6) + z % 6 = z := by omega
            rw [ez, if_neg (by omega)] at hsz
            rw [hsz]
            refine trn (hA.2.2.2.2.2.2.2.2.1 _ _ (by omega) (by omega)) ⟨vI (by omega) (by omega), ih _ (fun k i hk hi => ?_)⟩
            have := h66 k hk
            by_cases e : 6 * k + i = z
            · have e1 : z / 6 = k := by omega
              have e2 : z % 6 = i := by omega
              rw [e, u_s, e1, e2, if_pos (by omega)]
            · rw [u_n e, hI3 k i hk hi]
              by_cases e : 6 * k + i < z
              · rw [if_pos e, if_pos (by omega)]
              · rw [if_neg e, if_neg (by omega)]
      · rintro n i ⟨pc', pf'⟩ hi hI2 ih
        obtain ⟨x1, x2⟩ := hI2.2 i (Nat.le_refl _) hi
        have x1' : pc' i = nI (aPc a i) := x1
        have x2' : pf' i = nI (aPf a i) := x2
        have hq := hA.2.2.2.2.2.2.1 i hi
        have hq2 := hq.2
        unfold L_mo_mirror_97
        show ((_ → _) ∧ _)
        rw [nI_1 i, cl (n := i) (by omega)]
        simp only [x1', x2']
        have z0 : nI (aPf a i) = 0 ↔ aPf a i = 0 := nI_eq (b := 0) (by omega) (by omega)
        have z2 : nI (aPf a i) = 2 ↔ aPf a i = 2 := nI_eq (b := 2) (by omega) (by omega)
        rw [z0, z2]
        have fin : ∀ v : Int32, v = nI (mF (aPf a i)) → L_mo_mirror_97 (nI (aW a)) (nI (aNp a)) rm Q n s (upd pc' i (nI (mP (aW a) (aPc a i)))) (upd pf' i v) ro old (nI (cntN (fun c => aKd a (mP (aW a) c) != aKd a c) (aN a))) (nI (i + 1)) := by
          intro v hv
          refine ih (_, _) ⟨fun p hp => ?_, fun p hp hp2 => ?_⟩
          · by_cases e : p = i
            · subst e; exact ⟨u_s, u_s.trans hv⟩
            · have := hI2.1 p (by omega)
              exact ⟨(u_n e).trans this.1, (u_n e).trans this.2⟩
          · have := hI2.2 p (by omega) hp2
            exact ⟨(u_n (by omega)).trans this.1, (u_n (by omega)).trans this.2⟩
        have v8 : vp_in (nI i) 8 := vI (by omega) (by omega)
        refine br_f (nI_ge hi (by omega)) ⟨v8, trn hq.1 ⟨v8, v8, fun e => ⟨v8, fin _ (by rw [e]; rfl)⟩, fun e => ⟨v8, fun e2 => ⟨v8, fin _ (by rw [e2]; rfl)⟩, fun e2 => ⟨v8, v8, fin _ (by unfold mF; rw [if_neg e, if_neg e2])⟩⟩⟩⟩
    · rintro n i ⟨s, r⟩ hi ⟨hI, hr⟩ ih
      have hr' : r = nI (cntN (fun c => aKd a (mP (aW a) c) != aKd a c) i) := hr
      subst hr'
      have hTl : mP (aW a) i < aN a := (hT.1 i hi).1
      unfold L_mo_mirror_37
      rw [hN, nI_1 i]
      have v64 : vp_in (nI i) 64 := vI (by omega) (by omega)
      refine br_f (nI_ge hi (by omega)) (trn hi ⟨vI (by omega) (by omega), v64, v64, v64, ?_⟩)
      rw [cl (n := mP (aW a) i) (by omega), cl (n := i) (by omega), u_s, hO i hi, hO _ hTl, nI_eq (by have := hA.2.2.1 _ hTl; omega) (by have := hA.2.2.1 i hi; omega)]
      have fin : ∀ r : Int32, r = nI (cntN (fun c => aKd a (mP (aW a) c) != aKd a c) (i + 1)) → L_mo_mirror_37 (nI (aW a)) (nI (aH a)) (nI (aNp a)) rm Q n (upd s i (nI (aKd a (mP (aW a) i)))) mpc mf ro old r (nI (i + 1)) := by
        intro r hr
        refine ih (_, r) ⟨fun c hc => ?_, hr⟩
        by_cases e : c = i
        · subst e; exact u_s
        · exact (u_n e).trans (hI c (by omega))
      exact ⟨fun e => fin _ (by rw [cntN_s, e]; simp), fun e => fin _ (by rw [cntN_s, nI_1]; simp [e])⟩
  · intro n i s hi hI ih
    unfold L_mo_mirror_4
    rw [hN, nI_1 i, cl (n := i) (by omega), hm i hi]
    refine br_f (nI_ge hi (by omega)) ⟨vI (by omega) (by omega), vI (by omega) (by omega), ih _ (fun c hc => ?_)⟩
    by_cases e : c = i
    · subst e; rw [u_s]
    · rw [u_n e]; exact hI c (by omega)
theorem op_turn {gr_width : Int32} {gr_height : Int32} {gr_size : Int32} {gr_kinds : Nat → Int32} {gr_before : Nat → Int32} {gr_columns : Nat → Int32} {gr_rows : Nat → Int32} {gr_floorCells : Int64} {gr_clearCells : Int64} {gr_standCells : Int64} {gr_firstColumn : Int64} {gr_lastColumn : Int64} {pi_cells : Nat → Int32} {pi_facings : Nat → Int32} {pi_size : Int32} {ro_cells : Nat → Int32} {ro_lengths : Nat → Int32} {ro_shifts : Nat → Int32} {si_sightLaw : Int32} {si_sightRange : Int32} {wh_places : Nat → Int32} {mo_wide : Int32} {mo_tall : Int32} {mo_kind : Nat → Int32} {mo_law : Int32} {mo_range : Int32} {mo_pictures : Int32} {mo_pictureCell : Nat → Int32} {mo_facing : Nat → Int32} {mo_roundMany : Nat → Int32} {mo_round : Nat → Int32} {mo_shift : Nat → Int32} {mo_old : Nat → Int32} (hR : Rel gr_width gr_height gr_size gr_columns gr_rows gr_firstColumn gr_lastColumn gr_kinds gr_floorCells gr_clearCells gr_standCells pi_cells pi_facings pi_size ro_cells ro_lengths ro_shifts si_sightLaw si_sightRange mo_wide mo_tall mo_kind mo_law mo_range mo_pictures mo_pictureCell mo_facing mo_roundMany mo_round mo_shift)  : P_wh_turn gr_width gr_height gr_size gr_kinds gr_before gr_columns gr_rows gr_floorCells gr_clearCells gr_standCells gr_firstColumn gr_lastColumn pi_cells pi_facings pi_size ro_cells ro_lengths wh_places (fun r1 gr_width' gr_height' gr_size' gr_kinds' gr_before' gr_columns' gr_rows' gr_floorCells' gr_clearCells' gr_standCells' gr_firstColumn' gr_lastColumn' pi_cells' pi_facings' ro_cells' wh_places' => P_mo_turn mo_wide mo_tall mo_kind mo_pictures mo_pictureCell mo_facing mo_roundMany mo_round mo_old (fun r2 mo_wide' mo_tall' mo_kind' mo_pictureCell' mo_facing' mo_round' mo_old' => r1 = r2 ∧ Rel gr_width' gr_height' gr_size' gr_columns' gr_rows' gr_firstColumn' gr_lastColumn' gr_kinds' gr_floorCells' gr_clearCells' gr_standCells' pi_cells' pi_facings' pi_size ro_cells' ro_lengths ro_shifts si_sightLaw si_sightRange mo_wide' mo_tall' mo_kind' mo_law mo_range mo_pictures mo_pictureCell' mo_facing' mo_roundMany mo_round' mo_shift)) := by
  obtain ⟨a, hA, hGs, hGk, hPi, hRo, hSi, hM⟩ := id hR
  obtain ⟨m1, m2, m3, m4, m5, m6, m7, m8, m9, m10, m11⟩ := id hM
  obtain ⟨hn4, hn⟩ := aN_le hA
  have hnw : aW a * aH a < 1073741824 := by unfold aN at hn; omega
  have hnp : aNp a ≤ 8 := hA.2.2.2.2.2.1
  refine s_wturn hA hGs hGk hPi hRo (fun gk' gb' gc' gr' f' c' s' fc' lc' pc' pf' rc' wp' q1 q2 q3 q4 => ?_)
  refine s_mturn hA m3 m1 m2 m6 m7 m8 m9 m10 (fun mk' mpc' mf' ro' mo' p1 p2 p3 p4 => ?_)
  refine ⟨rfl, aTurn a, aOk_t hA, q1, q2, q3, q4, hSi, rfl, rfl, fun c hc => p1 c ?_, m4, m5, m6, p2, p3, m9, p4, m11⟩
  rw [aN_t] at hc; exact hc
theorem op_mirror {gr_width : Int32} {gr_height : Int32} {gr_size : Int32} {gr_kinds : Nat → Int32} {gr_before : Nat → Int32} {gr_columns : Nat → Int32} {gr_rows : Nat → Int32} {gr_floorCells : Int64} {gr_clearCells : Int64} {gr_standCells : Int64} {gr_firstColumn : Int64} {gr_lastColumn : Int64} {pi_cells : Nat → Int32} {pi_facings : Nat → Int32} {pi_size : Int32} {ro_cells : Nat → Int32} {ro_lengths : Nat → Int32} {ro_shifts : Nat → Int32} {si_sightLaw : Int32} {si_sightRange : Int32} {wh_places : Nat → Int32} {mo_wide : Int32} {mo_tall : Int32} {mo_kind : Nat → Int32} {mo_law : Int32} {mo_range : Int32} {mo_pictures : Int32} {mo_pictureCell : Nat → Int32} {mo_facing : Nat → Int32} {mo_roundMany : Nat → Int32} {mo_round : Nat → Int32} {mo_shift : Nat → Int32} {mo_old : Nat → Int32} (hR : Rel gr_width gr_height gr_size gr_columns gr_rows gr_firstColumn gr_lastColumn gr_kinds gr_floorCells gr_clearCells gr_standCells pi_cells pi_facings pi_size ro_cells ro_lengths ro_shifts si_sightLaw si_sightRange mo_wide mo_tall mo_kind mo_law mo_range mo_pictures mo_pictureCell mo_facing mo_roundMany mo_round mo_shift)  : P_wh_mirror gr_width gr_height gr_size gr_kinds gr_before gr_columns gr_rows gr_floorCells gr_clearCells gr_standCells gr_firstColumn gr_lastColumn pi_cells pi_facings pi_size ro_cells ro_lengths wh_places (fun r1 gr_width' gr_height' gr_size' gr_kinds' gr_before' gr_columns' gr_rows' gr_floorCells' gr_clearCells' gr_standCells' gr_firstColumn' gr_lastColumn' pi_cells' pi_facings' ro_cells' wh_places' => P_mo_mirror mo_wide mo_tall mo_kind mo_pictures mo_pictureCell mo_facing mo_roundMany mo_round mo_old (fun r2 mo_kind' mo_pictureCell' mo_facing' mo_round' mo_old' => r1 = r2 ∧ Rel gr_width' gr_height' gr_size' gr_columns' gr_rows' gr_firstColumn' gr_lastColumn' gr_kinds' gr_floorCells' gr_clearCells' gr_standCells' pi_cells' pi_facings' pi_size ro_cells' ro_lengths ro_shifts si_sightLaw si_sightRange mo_wide mo_tall mo_kind' mo_law mo_range mo_pictures mo_pictureCell' mo_facing' mo_roundMany mo_round' mo_shift)) := by
  obtain ⟨a, hA, hGs, hGk, hPi, hRo, hSi, hM⟩ := id hR
  obtain ⟨m1, m2, m3, m4, m5, m6, m7, m8, m9, m10, m11⟩ := id hM
  obtain ⟨hn4, hn⟩ := aN_le hA
  have hnw : aW a * aH a < 1073741824 := by unfold aN at hn; omega
  have hnp : aNp a ≤ 8 := hA.2.2.2.2.2.1
  refine s_wmir hA hGs hGk hPi hRo (fun gk' gb' gc' gr' f' c' s' fc' lc' pc' pf' rc' wp' q1 q2 q3 q4 => ?_)
  refine s_mmir hA m3 m1 m2 m6 m7 m8 m9 m10 (fun mk' mpc' mf' ro' mo' p1 p2 p3 p4 => ?_)
  exact ⟨rfl, aMir a, aOk_m hA, q1, q2, q3, q4, hSi, m1, m2, p1, m4, m5, m6, p2, p3, m9, p4, m11⟩
