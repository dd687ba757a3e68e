theorem DT_dist {mv : Nat → Nat → Option Nat} {goal : Nat → Prop} {K : Nat} {D : Nat → Int32} (hDT : DT mv goal K D) {s k : Nat} (hs : s < K) (h : Dist mv goal s k) : D s = nI k ∧ k < K := by
  rcases hDT s hs with ⟨-, e⟩ | ⟨k2, e1, e2, e3⟩
  · exact absurd h.1 (e k)
  · rw [e1, Dist_one h e2]; exact ⟨rfl, by rw [← Dist_one h e2] at *; exact e3⟩
theorem DT_iff {mv : Nat → Nat → Option Nat} {goal : Nat → Prop} {K : Nat} {D : Nat → Int32} (hDT : DT mv goal K D) {s k : Nat} (hK : K < 65536) (hs : s < K) (hk : k < K) : D s = nI k ↔ Dist mv goal s k := by
  constructor
  · intro h
    rcases hDT s hs with ⟨e, -⟩ | ⟨k2, e1, e2, e3⟩
    · rw [e] at h
      exact absurd h.symm (nI_ne9 (by omega))
    · rw [e1, nI_eq (by omega) (by omega)] at h
      rw [← h]; exact e2
  · intro h; exact (DT_dist hDT hs h).1
theorem s_mayTour {a : Abs} {mw mt : Int32} {mk : Nat → Int32} {x : Int32} {Q : Int32 → Prop} (hA : AOk a) (hm : ∀ c, c < aN a → mk c = nI (aKd a c)) (h1 : mw = nI (aW a)) (h2 : mt = nI (aH a)) (hn : isC (aN a) x = false → Q (-1)) (hs : ∀ p, p < aN a → x = nI p → std a p = false → Q (-3)) (hy : ∀ p, p < aN a → x = nI p → std a p = true → Q 0) : P_mo_mayTour mw mt mk x Q := by
  obtain ⟨-, hN⟩ := aN_le hA
  unfold P_mo_mayTour
  refine s_mc h1 h2 (by unfold aN at hN; omega) (brB (fun hf => hn hf) (fun ht => ?_))
  obtain ⟨p, hp, rfl⟩ := isC_of (by unfold aN at hN; omega) ht
  exact s_mstands hA hm hp (brB (fun g => hs p hp rfl g) (fun g => hy p hp rfl g))
theorem op_tour {gr_width : Int32} {gr_height : Int32} {gr_size : Int32} {gr_kinds : Nat → Int32} {gr_columns : Nat → Int32} {gr_rows : Nat → Int32} {gr_floorCells : Int64} {gr_clearCells : Int64} {gr_standCells : Int64} {gr_firstColumn : Int64} {gr_lastColumn : Int64} {pi_cells : Nat → Int32} {pi_facings : Nat → Int32} {pi_sets : Nat → Int32} {pi_size : Int32} {ro_cells : Nat → Int32} {ro_lengths : Nat → Int32} {ro_shifts : Nat → Int32} {si_sightLaw : Int32} {si_sightRange : Int32} {tr_marks : Nat → Int32} {tr_visited : Nat → Int64} {tr_size : Int32} {mo_wide : Int32} {mo_tall : Int32} {mo_kind : Nat → Int32} {mo_law : Int32} {mo_range : Int32} {mo_queue : Nat → Int32} {mo_pictures : Int32} {mo_pictureCell : Nat → Int32} {mo_facing : Nat → Int32} {mo_sights : Nat → Int32} {mo_left : Nat → Int32} {mo_roundMany : Nat → Int32} {mo_round : Nat → Int32} {mo_shift : Nat → Int32} (hR : Rel gr_width gr_height gr_size gr_columns gr_rows gr_firstColumn gr_lastColumn gr_kinds gr_floorCells gr_clearCells gr_standCells pi_cells pi_facings pi_size ro_cells ro_lengths ro_shifts si_sightLaw si_sightRange mo_wide mo_tall mo_kind mo_law mo_range mo_pictures mo_pictureCell mo_facing mo_roundMany mo_round mo_shift) (a1 : Int32) : P_wh_tour gr_width gr_height gr_size gr_columns gr_rows gr_floorCells gr_clearCells gr_standCells pi_cells pi_facings pi_sets pi_size si_sightLaw si_sightRange tr_marks tr_visited tr_size a1 (fun r1 pi_sets' tr_marks' tr_visited' tr_size' => P_mo_tour mo_wide mo_tall mo_kind mo_law mo_range mo_queue mo_pictures mo_pictureCell mo_facing mo_sights mo_left a1 (fun r2 mo_queue' mo_sights' mo_left' => r1 = r2 ∧ Rel gr_width gr_height gr_size gr_columns gr_rows gr_firstColumn gr_lastColumn gr_kinds gr_floorCells gr_clearCells gr_standCells pi_cells pi_facings pi_size ro_cells ro_lengths ro_shifts si_sightLaw si_sightRange mo_wide mo_tall mo_kind mo_law mo_range mo_pictures mo_pictureCell mo_facing mo_roundMany mo_round mo_shift)) := by
  obtain ⟨a, hA, hGs, hGk, hPi, hRo, hSi, hM⟩ := id hR
  obtain ⟨m1, m2, m3, m4, m5, m6, m7, m8, m9, m10, m11⟩ := id hM
  obtain ⟨hn4, hn⟩ := aN_le hA
  have hnw : aW a * aH a < 1073741824 := by unfold aN at hn; omega
  have hnp : aNp a ≤ 8 := hA.2.2.2.2.2.1
  have hp2 := p2_le hnp
  unfold P_wh_tour
  refine s_gc hGs.2.2.1 (by omega) (brB (fun hf => ?_) (fun ht => ?_))
  · unfold P_mo_tour
    refine s_mayTour hA m3 m1 m2 (fun _ => br_f (by decide) ⟨rfl, hR⟩) (fun p hp e _ => ?_) (fun p hp e _ => ?_)
    · rw [e, isC_n hp (by omega)] at hf; cases hf
    · rw [e, isC_n hp (by omega)] at hf; cases hf
  · obtain ⟨p, hp, rfl⟩ := isC_of (by omega) ht
    refine s_mayStand hGk hn hp (brB (fun hf2 => ?_) (fun ht2 => ?_))
    · unfold P_mo_tour
      refine s_mayTour hA m3 m1 m2 (fun hf => by rw [ht] at hf; cases hf) (fun p2 hp2 e _ => br_f (by decide) ⟨rfl, hR⟩) (fun p2 hp2 e g => ?_)
      rw [nI_eq (by omega) (by omega)] at e
      subst e
      rw [hf2] at g; cases g
    · refine s_survey hA hGs hGk hSi hPi (fun pt hpt => ?_)
      have hF := sFrom_lt hA p
      have ref : ∀ (r1 : Int32), (∀ D, DT (tmv a) (tgoal a p) 16384 D → r1 = D (256 * p + sFrom a p)) → P_mo_tour mo_wide mo_tall mo_kind mo_law mo_range mo_queue mo_pictures mo_pictureCell mo_facing mo_sights mo_left (nI p) (fun r2 mo_queue' mo_sights' mo_left' => r1 = r2 ∧ Rel gr_width gr_height gr_size gr_columns gr_rows gr_firstColumn gr_lastColumn gr_kinds gr_floorCells gr_clearCells gr_standCells pi_cells pi_facings pi_size ro_cells ro_lengths ro_shifts si_sightLaw si_sightRange mo_wide mo_tall mo_kind mo_law mo_range mo_pictures mo_pictureCell mo_facing mo_roundMany mo_round mo_shift) := by
        intro r1 hr1
        unfold P_mo_tour
        refine s_mayTour hA m3 m1 m2 (fun hf => by rw [ht] at hf; cases hf) (fun p2 hp2 e g => ?_) (fun p2 hp2 e g => br_t (by decide) (s_layTour hA m3 m1 m2 m4 m5 m6 m7 m8 hp (fun q g2 D hg2 hDT => ?_)))
        · rw [nI_eq (by omega) (by omega)] at e
          subst e
          rw [ht2] at g; cases g
        · rw [cl (n := p) (by omega), hg2 p hp, show (256 : Int32) = nI 256 from rfl, pk_mul, nI_add, cl (n := 256 * p + sFrom a p) (by omega)]
          exact ⟨vI (by omega) (by omega), vI (by omega) (by omega), hr1 D hDT, hR⟩
      unfold P_to_lengthFrom
      refine s_toSearch hA hGs hGk hPi.1 hpt hp ht2 (fun hNo tm tv ts => s_movesTo1 (ref _ (fun D hDT => ?_))) (fun m k e tm tv ts hB hTC => s_movesTo hTC (ref _ (fun D hDT => ?_)))
      · rcases hDT (256 * p + sFrom a p) (by omega) with ⟨e, -⟩ | ⟨k2, -, e2, -⟩
        · exact e.symm
        · exact absurd e2.1 (NoWay_iff.mp hNo k2)
      · exact (DT_dist hDT (by omega) (Best_dist hB)).1.symm
theorem s_isNearer {a : Abs} {mw mt : Int32} {mk g D : Nat → Int32} {p at_ d K : Nat} {Q : Int32 → Prop} (hA : AOk a) (hm : ∀ c, c < aN a → mk c = nI (aKd a c)) (h1 : mw = nI (aW a)) (h2 : mt = nI (aH a)) (hg : ∀ c, c < aN a → g c = nI (sFrom a c)) (hDT : DT (tmv a) (tgoal a p) 16384 D) (v1 : at_ / 256 < aN a) (v3 : at_ % 256 < 2 ^ aNp a) (hd : d < 4) (hK : D at_ = nI (K + 1)) (hK2 : K < 16384) (hy : ∀ t, tmv a at_ d = some t → Dist (tmv a) (tgoal a p) t K → Q 1) (hn : (∀ t, tmv a at_ d = some t → ¬ Dist (tmv a) (tgoal a p) t K) → Q 0) : P_mo_isNearer mw mt mk g D (nI at_) (nI d) Q := by
  obtain ⟨-, hn64⟩ := aN_le hA
  have hp2 := p2_le hA.2.2.2.2.2.1
  have ne : ¬ (256 : Int32) = 0 := by decide
  unfold P_mo_isNearer
  rw [show (256 : Int32) = nI 256 from rfl, pk_rem (by omega) (by omega) (by omega), pk_div (by omega) (by omega) (by omega)]
  refine ⟨ne, s_beside hA hm h1 h2 v1 hd ?_⟩
  cases hb : bsd a (at_ / 256) d with
  | none =>
    refine br_t rfl (hn (fun t ht => ?_))
    obtain ⟨o, -, -, -, e, -⟩ := tmv_some hA ht
    rw [hb] at e; cases e
  | some o =>
    have ho := bsd_std hb
    have hmv : tmv a at_ d = some (256 * o + (at_ % 256 ||| sFrom a o)) := by
      unfold tmv
      rw [if_pos ⟨v1, v3, hd⟩, hb]
    have hl := or_lt hA o v3
    refine br_f (nI_ne9 (by omega)) ⟨ne, ?_⟩
    rw [show oI (-9) (some o) = nI o from rfl, cl (n := o) (by omega), hg o ho.2.1, nI_or, pk_mul, nI_add, cl (n := 256 * o + (at_ % 256 ||| sFrom a o)) (by omega), cl (n := at_) (by omega), hK, nI_pred, DT_iff hDT (by omega) (by omega) hK2]
    refine ⟨vI (by omega) (by omega), vI (by omega) (by omega), vI (by omega) (by omega), fun e => hy _ hmv e, fun e => hn (fun t ht => ?_)⟩
    rw [hmv] at ht
    cases ht
    exact e
theorem s_mtourSteps {a : Abs} {mw mt : Int32} {mk q g D : Nat → Int32} {p s0 i K eB : Nat} {Q : Int32 → (Nat → Int32) → (Nat → Int32) → (Nat → Int32) → Prop} (hA : AOk a) (hm : ∀ c, c < aN a → mk c = nI (aKd a c)) (h1 : mw = nI (aW a)) (h2 : mt = nI (aH a)) (hg : ∀ c, c < aN a → g c = nI (sFrom a c)) (hp : p < aN a) (hDT : DT (tmv a) (tgoal a p) 16384 D) (hB : Best (tmv a) s0 (tgoal a p) K eB) (hK : K < 16384) (hi : i < K) (h : Q (nI (dgt K eB i)) q g D) : ∃ n : Nat, L_mo_tourStep_72 mw mt mk Q n q g D (nI i) (nI s0) (-9) 0 := by
  obtain ⟨-, hn64⟩ := aN_le hA
  have hp2 := p2_le hA.2.2.2.2.2.1
  have h0 := Best_dist hB
  refine cnt0 (fun n k (s : Nat × Int32) => L_mo_tourStep_72 mw mt mk Q n q g D (nI i) (nI s.1) s.2 (nI k)) (i + 1) (fun k s => ∃ e, Greedy (tmv a) (tgoal a p) s0 K k e s.1 ∧ (0 < k → s.2 = nI (e % 8))) (s0, -9) ⟨1, ⟨rfl, rfl⟩, fun h => absurd h (Nat.lt_irrefl _)⟩ ?_ ?_
  · rintro n ⟨at_, x5⟩ ⟨e, hG, hx⟩
    have hx' : x5 = nI (e % 8) := hx (by omega)
    subst hx'
    unfold L_mo_tourStep_72
    rw [Greedy_dgt hB hi hG] at h
    exact br_t (nI_lt (by omega) (by omega)) h
  · rintro n k ⟨at_, x5⟩ hk ⟨e, hG, -⟩ ih
    have hG : Greedy (tmv a) (tgoal a p) s0 K k e at_ := hG
    have hD := Greedy_dist h0 hG
    obtain ⟨v1, v3⟩ := tGd hA hp hD.1
    obtain ⟨d, t, hd8, hmv, hDt, hleast⟩ := Greedy_next h0 (by omega) hG
    obtain ⟨o, -, -, hd, hbo, ht, hVt, e1, e2⟩ := tmv_some hA hmv
    have ho := bsd_std hbo
    have hs : at_ < 16384 := by show at_ < 16384; omega
    have hDat : D at_ = nI ((K - (k + 1)) + 1) := by
      rw [(DT_dist hDT hs hD).1]
      exact congrArg nI (by omega)
    unfold L_mo_tourStep_72
    refine br_f (nI_nlt (by omega) (by omega)) ?_
    have inner : ∀ (m j : Nat), j + m = d → L_mo_tourStep_81 mw mt mk Q (L_mo_tourStep_72 mw mt mk Q n) (m + 1) q g D (nI i) (nI at_) (nI j) (nI k) := by
      intro m
      induction m with
      | zero =>
        intro j hj
        have : j = d := by omega
        subst this
        unfold L_mo_tourStep_81
        refine s_isNearer hA hm h1 h2 hg hDT v1 v3 hd hDat (by omega) (fun t2 _ _ => br_f (by decide) ?_) (fun hno => absurd hDt (hno t hmv))
        unfold B_mo_tourStep_98
        have ne : ¬ (256 : Int32) = 0 := by decide
        rw [show (256 : Int32) = nI 256 from rfl, pk_rem (by omega) (by omega) (by omega), pk_div (by omega) (by omega) (by omega)]
        refine ⟨ne, s_beside hA hm h1 h2 v1 hd ?_⟩
        rw [hbo]
        show _ ∧ _ ∧ _
        rw [show oI (-9) (some o) = nI o from rfl, cl (n := o) (by omega), hg o ho.2.1, nI_or, pk_mul, nI_add, nI_1, ← ht]
        refine ⟨ne, vI (by omega) (by omega), ?_⟩
        rintro _ rfl
        exact ih (t, nI j) ⟨8 * e + j, ⟨e, j, at_, hd8, rfl, hG, hmv, hDt, hleast⟩, fun _ => congrArg nI (by omega)⟩
      | succ m ih2 =>
        intro j hj
        unfold L_mo_tourStep_81
        rw [nI_1]
        refine s_isNearer hA hm h1 h2 hg hDT v1 v3 (by omega) hDat (by omega) (fun t2 w1 w2 => absurd w2 (hleast j t2 (by omega) w1)) (fun _ => br_t rfl (ih2 (j + 1) (by omega)))
    exact ⟨d + 1, inner d 0 (by omega)⟩
theorem op_tourStep {gr_width : Int32} {gr_height : Int32} {gr_size : Int32} {gr_kinds : Nat → Int32} {gr_columns : Nat → Int32} {gr_rows : Nat → Int32} {gr_floorCells : Int64} {gr_clearCells : Int64} {gr_standCells : Int64} {gr_firstColumn : Int64} {gr_lastColumn : Int64} {pi_cells : Nat → Int32} {pi_facings : Nat → Int32} {pi_sets : Nat → Int32} {pi_size : Int32} {ro_cells : Nat → Int32} {ro_lengths : Nat → Int32} {ro_shifts : Nat → Int32} {si_sightLaw : Int32} {si_sightRange : Int32} {tr_marks : Nat → Int32} {tr_visited : Nat → Int64} {tr_size : Int32} {mo_wide : Int32} {mo_tall : Int32} {mo_kind : Nat → Int32} {mo_law : Int32} {mo_range : Int32} {mo_queue : Nat → Int32} {mo_pictures : Int32} {mo_pictureCell : Nat → Int32} {mo_facing : Nat → Int32} {mo_sights : Nat → Int32} {mo_left : Nat → Int32} {mo_roundMany : Nat → Int32} {mo_round : Nat → Int32} {mo_shift : Nat → Int32} (hR : Rel gr_width gr_height gr_size gr_columns gr_rows gr_firstColumn gr_lastColumn gr_kinds gr_floorCells gr_clearCells gr_standCells pi_cells pi_facings pi_size ro_cells ro_lengths ro_shifts si_sightLaw si_sightRange mo_wide mo_tall mo_kind mo_law mo_range mo_pictures mo_pictureCell mo_facing mo_roundMany mo_round mo_shift) (a1 a2 : Int32) : P_wh_tourStep gr_width gr_height gr_size gr_columns gr_rows gr_floorCells gr_clearCells gr_standCells pi_cells pi_facings pi_sets pi_size si_sightLaw si_sightRange tr_marks tr_visited tr_size a1 a2 (fun r1 pi_sets' tr_marks' tr_visited' tr_size' => P_mo_tourStep mo_wide mo_tall mo_kind mo_law mo_range mo_queue mo_pictures mo_pictureCell mo_facing mo_sights mo_left a1 a2 (fun r2 mo_queue' mo_sights' mo_left' => r1 = r2 ∧ Rel gr_width gr_height gr_size gr_columns gr_rows gr_firstColumn gr_lastColumn gr_kinds gr_floorCells gr_clearCells gr_standCells pi_cells pi_facings pi_size ro_cells ro_lengths ro_shifts si_sightLaw si_sightRange mo_wide mo_tall mo_kind mo_law mo_range mo_pictures mo_pictureCell mo_facing mo_roundMany mo_round mo_shift)) := by
  obtain ⟨a, hA, hGs, hGk, hPi, hRo, hSi, hM⟩ := id hR
  obtain ⟨m1, m2, m3, m4, m5, m6, m7, m8, m9, m10, m11⟩ := id hM
  obtain ⟨hn4, hn⟩ := aN_le hA
  have hnw : aW a * aH a < 1073741824 := by unfold aN at hn; omega
  have hnp : aNp a ≤ 8 := hA.2.2.2.2.2.1
  have hp2 := p2_le hnp
  unfold P_wh_tourStep
  refine s_gc hGs.2.2.1 (by omega) (brB (fun hf => ?_) (fun ht => ?_))
  · unfold P_mo_tourStep
    refine s_mayTour hA m3 m1 m2 (fun _ => br_f (by decide) ⟨rfl, hR⟩) (fun p hp e _ => ?_) (fun p hp e _ => ?_)
    · rw [e, isC_n hp (by omega)] at hf; cases hf
    · rw [e, isC_n hp (by omega)] at hf; cases hf
  · obtain ⟨p, hp, rfl⟩ := isC_of (by omega) ht
    refine s_mayStand hGk hn hp (brB (fun hf2 => ?_) (fun ht2 => ?_))
    · unfold P_mo_tourStep
      refine s_mayTour hA m3 m1 m2 (fun hf => by rw [ht] at hf; cases hf) (fun p2 hp2 e _ => br_f (by decide) ⟨rfl, hR⟩) (fun p2 hp2 e g => ?_)
      rw [nI_eq (by omega) (by omega)] at e
      subst e
      rw [hf2] at g; cases g
    · refine s_survey hA hGs hGk hSi hPi (fun pt hpt => ?_)
      have hF := sFrom_lt hA p
      have ref : ∀ {Q : Int32 → (Nat → Int32) → (Nat → Int32) → (Nat → Int32) → Prop}, (∀ q g D, (∀ c, c < aN a → g c = nI (sFrom a c)) → DT (tmv a) (tgoal a p) 16384 D → (D (256 * p + sFrom a p) = -9 → Q (-9) q g D) ∧ (¬ D (256 * p + sFrom a p) = -9 → P_mo_in (Int32.toInt64 a2) 0 (Int32.toInt64 (D (256 * p + sFrom a p) - 1)) (fun r56 => (r56 = 0 → Q (-9) q g D) ∧ (¬ r56 = 0 → ∃ n : Nat, L_mo_tourStep_72 mo_wide mo_tall mo_kind Q n q g D a2 (nI (256 * p + sFrom a p)) (-9) 0)))) → P_mo_tourStep mo_wide mo_tall mo_kind mo_law mo_range mo_queue mo_pictures mo_pictureCell mo_facing mo_sights mo_left (nI p) a2 Q := by
        intro Q hQ
        unfold P_mo_tourStep
        refine s_mayTour hA m3 m1 m2 (fun hf => by rw [ht] at hf; cases hf) (fun p2 hp2 e g => ?_) (fun p2 hp2 e g => br_t (by decide) (s_layTour hA m3 m1 m2 m4 m5 m6 m7 m8 hp (fun q g2 D hg2 hDT => ?_)))
        · rw [nI_eq (by omega) (by omega)] at e
          subst e
          rw [ht2] at g; cases g
        · rw [cl (n := p) (by omega), hg2 p hp, show (256 : Int32) = nI 256 from rfl, pk_mul, nI_add]
          refine ⟨vI (by omega) (by omega), ?_⟩
          rintro _ rfl
          rw [cl (n := 256 * p + sFrom a p) (by omega)]
          obtain ⟨q1, q2⟩ := hQ q g2 D hg2 hDT
          exact ⟨vI (by omega) (by omega), q1, fun e => ⟨vI (by omega) (by omega), q2 e⟩⟩
      unfold P_to_moveFrom
      refine s_toSearch hA hGs hGk hPi.1 hpt hp ht2 (fun hNo tm tv ts => s_moveTo1 (ref (fun q g D hg hDT => ?_))) (fun m k e tm tv ts hB hTC => ?_)
      · rcases hDT (256 * p + sFrom a p) (by omega) with ⟨e, -⟩ | ⟨k2, -, e2, -⟩
        · exact ⟨fun _ => ⟨rfl, hR⟩, fun q => absurd e q⟩
        · exact absurd e2.1 (NoWay_iff.mp hNo k2)
      · have core : ∀ D, DT (tmv a) (tgoal a p) 16384 D → D (256 * p + sFrom a p) = nI k ∧ k < 16384 := fun D hDT => DT_dist hDT (by omega) (Best_dist hB)
        have hin : ∀ {Q : Int32 → Prop}, k < 16384 → Q (bI (isC k a2)) → P_mo_in (Int32.toInt64 a2) 0 (Int32.toInt64 (nI k - 1)) Q := by
          intro Q hk hQ
          refine s_in (l := 0) (h := (k : Int) - 1) rfl (by rw [w64, m1T (by omega)]) ?_
          have : isR 0 ((k : Int) - 1) a2 = isC k a2 := by
            unfold isR isC
            exact decide_eq_decide.mpr (by omega)
          rw [this]; exact hQ
        refine s_moveTo hTC (fun hno => ref (fun q g D hg hDT => ?_)) (fun i hi hx => ref (fun q g D hg hDT => ?_))
        · obtain ⟨c1, c2⟩ := core D hDT
          rw [c1]
          exact ⟨fun q => absurd q (nI_ne9 (by omega)), fun _ => hin c2 (brF hno ⟨rfl, hR⟩)⟩
        · obtain ⟨c1, c2⟩ := core D hDT
          rw [c1]
          refine ⟨fun q => absurd q (nI_ne9 (by omega)), fun _ => hin c2 (brT (by rw [hx]; exact isC_n hi (by omega)) ?_)⟩
          rw [hx]
          exact s_mtourSteps hA m3 m1 m2 hg hp hDT hB c2 hi ⟨rfl, hR⟩
