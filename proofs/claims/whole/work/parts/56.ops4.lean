theorem s_gcd {x y : Nat} {Q : Int32 → Prop} (hx : x < 1000) (hy : y < 1000) (h : Q (nI (Nat.gcd x y))) : P_mo_common (nI x) (nI y) Q := by
  unfold P_mo_common
  have key : ∀ (m u v : Nat), u < 1000 → v < 1000 → v < m → Nat.gcd u v = Nat.gcd x y → L_mo_common_4 Q m (nI u) (nI v) := by
    intro m
    induction m with
    | zero => intro u v q1 q2 q3; omega
    | succ m ih =>
      intro u v q1 q2 q3 q4
      unfold L_mo_common_4
      rcases Nat.eq_zero_or_pos v with z | z
      · subst z
        refine br_t rfl ?_
        rw [Nat.gcd_zero_right] at q4
        rw [q4]; exact h
      · have hne : ¬ nI v = 0 := nI_ne0 z (by omega)
        refine br_f hne ⟨hne, ?_⟩
        rw [pk_rem (by omega) z (by omega)]
        rintro _ rfl
        have hl : u % v < v := Nat.mod_lt _ z
        refine ih v (u % v) q2 (by omega) (by omega) ?_
        rw [← q4, Nat.gcd_comm u v, Nat.gcd_rec v u, Nat.gcd_comm]
  exact ⟨y + 1, key (y + 1) x y hx hy (by omega) rfl⟩
theorem s_periodNow {a : Abs} {rm : Nat → Int32} {Q : Int32 → Prop} (hA : AOk a) (hr : ∀ k, k < 4 → rm k = nI (aRl a k)) (h : Q (nI (per a))) : P_mo_periodNow rm Q := by
  unfold P_mo_periodNow
  have key : ∀ (m i : Nat), i ≤ 4 → 4 - i < m → L_mo_periodNow_4 rm Q m (nI (perN a i)) (nI i) := by
    intro m
    induction m with
    | zero => intro i q1 q2; omega
    | succ m ih =>
      intro i hi hm
      unfold L_mo_periodNow_4
      rcases Nat.lt_or_ge i 4 with q | q
      · have h6 := hA.2.2.2.2.2.2.2.1 i q
        have hp := perN_pos hA i (by omega)
        have hl := perN_le hA (k := i) (by omega)
        refine br_f (nI_ge (b := 4) q (by omega)) ⟨vI q (by omega), ?_⟩
        rw [cl (by omega), hr i q, nI_1]
        have nx := ih (i + 1) (by omega) (by omega)
        rcases Nat.eq_zero_or_pos (aRl a i) with z | z
        · refine br_t (by rw [z]; rfl) ?_
          have e : perN a (i + 1) = perN a i := by
            show Nat.lcm (perN a i) (rl1 a i) = _
            unfold rl1
            rw [if_pos z, Nat.lcm_one_right]
          rw [e] at nx
          exact nx
        · refine br_f (nI_ne0 z (by omega)) ⟨vI q (by omega), s_gcd (by omega) (by omega) ?_⟩
          have hg : 0 < Nat.gcd (perN a i) (aRl a i) := Nat.gcd_pos_of_pos_right _ z
          have hg2 : Nat.gcd (perN a i) (aRl a i) ≤ aRl a i := Nat.gcd_le_right _ z
          refine ⟨nI_ne0 hg (by omega), vI q (by omega), ?_⟩
          rw [pk_div (by omega) hg (by omega), pk_mul]
          rintro _ rfl
          have e : perN a (i + 1) = perN a i / Nat.gcd (perN a i) (aRl a i) * aRl a i := by
            show Nat.lcm (perN a i) (rl1 a i) = _
            unfold rl1
            rw [if_neg (by omega)]
            unfold Nat.lcm
            rw [Nat.mul_comm (perN a i / _), Nat.mul_comm (perN a i) (aRl a i), Nat.mul_div_assoc _ (Nat.gcd_dvd_left _ _)]
          rw [e] at nx
          exact nx
      · have e : i = 4 := by omega
        subst e
        exact br_t (nI_le (a := 4) (by omega) (by omega)) h
  exact ⟨5, key 5 0 (by omega) (by omega)⟩
theorem op_period {gr_width : Int32} {gr_height : Int32} {gr_size : Int32} {gr_kinds : Nat → Int32} {gr_columns : Nat → Int32} {gr_rows : Nat → Int32} {gr_floorCells : Int64} {gr_clearCells : Int64} {gr_standCells : Int64} {gr_firstColumn : Int64} {gr_lastColumn : Int64} {pi_cells : Nat → Int32} {pi_facings : Nat → Int32} {pi_size : Int32} {ro_cells : Nat → Int32} {ro_lengths : Nat → Int32} {ro_shifts : Nat → Int32} {si_sightLaw : Int32} {si_sightRange : Int32} {mo_wide : Int32} {mo_tall : Int32} {mo_kind : Nat → Int32} {mo_law : Int32} {mo_range : Int32} {mo_pictures : Int32} {mo_pictureCell : Nat → Int32} {mo_facing : Nat → Int32} {mo_roundMany : Nat → Int32} {mo_round : Nat → Int32} {mo_shift : Nat → Int32} (hR : Rel gr_width gr_height gr_size gr_columns gr_rows gr_firstColumn gr_lastColumn gr_kinds gr_floorCells gr_clearCells gr_standCells pi_cells pi_facings pi_size ro_cells ro_lengths ro_shifts si_sightLaw si_sightRange mo_wide mo_tall mo_kind mo_law mo_range mo_pictures mo_pictureCell mo_facing mo_roundMany mo_round mo_shift)  : P_wh_period ro_lengths (fun r1 => P_mo_period mo_roundMany (fun r2 => r1 = r2 ∧ Rel gr_width gr_height gr_size gr_columns gr_rows gr_firstColumn gr_lastColumn gr_kinds gr_floorCells gr_clearCells gr_standCells pi_cells pi_facings pi_size ro_cells ro_lengths ro_shifts si_sightLaw si_sightRange mo_wide mo_tall mo_kind mo_law mo_range mo_pictures mo_pictureCell mo_facing mo_roundMany mo_round mo_shift)) := by
  obtain ⟨a, hA, hGs, hGk, hPi, hRo, hSi, hM⟩ := id hR
  obtain ⟨m1, m2, m3, m4, m5, m6, m7, m8, m9, m10, m11⟩ := id hM
  obtain ⟨hn4, hn⟩ := aN_le hA
  have hnw : aW a * aH a < 1073741824 := by unfold aN at hn; omega
  have hrl : ∀ k, k < 4 → aRl a k ≤ 6 := hA.2.2.2.2.2.2.2.1
  have hrc : ∀ k i, k < 4 → i < aRl a k → aRc a k i < aN a := hA.2.2.2.2.2.2.2.2.1
  have hrs : ∀ k, k < 4 → aRs a k ≤ 5 := hA.2.2.2.2.2.2.2.2.2
  unfold P_wh_period
  refine s_common hA hRo.1 ?_
  unfold P_mo_period
  exact s_periodNow hA m9 ⟨rfl, hR⟩
theorem op_step {gr_width : Int32} {gr_height : Int32} {gr_size : Int32} {gr_kinds : Nat → Int32} {gr_columns : Nat → Int32} {gr_rows : Nat → Int32} {gr_floorCells : Int64} {gr_clearCells : Int64} {gr_standCells : Int64} {gr_firstColumn : Int64} {gr_lastColumn : Int64} {pi_cells : Nat → Int32} {pi_facings : Nat → Int32} {pi_size : Int32} {ro_cells : Nat → Int32} {ro_lengths : Nat → Int32} {ro_shifts : Nat → Int32} {si_sightLaw : Int32} {si_sightRange : Int32} {mo_wide : Int32} {mo_tall : Int32} {mo_kind : Nat → Int32} {mo_law : Int32} {mo_range : Int32} {mo_pictures : Int32} {mo_pictureCell : Nat → Int32} {mo_facing : Nat → Int32} {mo_roundMany : Nat → Int32} {mo_round : Nat → Int32} {mo_shift : Nat → Int32} (hR : Rel gr_width gr_height gr_size gr_columns gr_rows gr_firstColumn gr_lastColumn gr_kinds gr_floorCells gr_clearCells gr_standCells pi_cells pi_facings pi_size ro_cells ro_lengths ro_shifts si_sightLaw si_sightRange mo_wide mo_tall mo_kind mo_law mo_range mo_pictures mo_pictureCell mo_facing mo_roundMany mo_round mo_shift) (a1 a2 : Int32) : P_wh_step gr_size gr_columns gr_rows gr_standCells ro_cells ro_lengths a1 a2 (fun r1 ro_cells' ro_lengths' => P_mo_step mo_wide mo_tall mo_kind mo_roundMany mo_round a1 a2 (fun r2 mo_roundMany' mo_round' => r1 = r2 ∧ Rel gr_width gr_height gr_size gr_columns gr_rows gr_firstColumn gr_lastColumn gr_kinds gr_floorCells gr_clearCells gr_standCells pi_cells pi_facings pi_size ro_cells' ro_lengths' ro_shifts si_sightLaw si_sightRange mo_wide mo_tall mo_kind mo_law mo_range mo_pictures mo_pictureCell mo_facing mo_roundMany' mo_round' mo_shift)) := by
  obtain ⟨a, hA, hGs, hGk, hPi, hRo, hSi, hM⟩ := id hR
  obtain ⟨m1, m2, m3, m4, m5, m6, m7, m8, m9, m10, m11⟩ := id hM
  obtain ⟨hn4, hn⟩ := aN_le hA
  have hnw : aW a * aH a < 1073741824 := by unfold aN at hn; omega
  have hrl : ∀ k, k < 4 → aRl a k ≤ 6 := hA.2.2.2.2.2.2.2.1
  have hrc : ∀ k i, k < 4 → i < aRl a k → aRc a k i < aN a := hA.2.2.2.2.2.2.2.2.1
  have hrs : ∀ k, k < 4 → aRs a k ≤ 5 := hA.2.2.2.2.2.2.2.2.2
  unfold P_wh_step
  refine s_isWatcher (brB (fun hf => ?_) (fun ht => ?_))
  · unfold P_mo_step
    exact s_mWatcher (brF hf ⟨rfl, hR⟩)
  · refine s_gc hGs.2.2.1 (by omega) (brB (fun hf => ?_) (fun ht2 => ?_))
    · unfold P_mo_step
      exact s_mWatcher (brT ht (s_mc m1 m2 hnw (brF hf ⟨rfl, hR⟩)))
    · obtain ⟨j, hj, rfl⟩ := isC_of (by omega) ht
      obtain ⟨c, hc, rfl⟩ := isC_of (by omega) ht2
      have hj6 := hrl j hj
      refine s_mayStand hGk hn hc (brB (fun hf => ?_) (fun ht3 => ?_))
      · unfold P_mo_step
        refine s_mWatcher (brT ht (s_mc m1 m2 hnw (brT ht2 ⟨vI hj (by omega), ?_⟩)))
        rintro _ rfl
        exact s_mstands hA m3 hc (brF hf ⟨rfl, hR⟩)
      · -- the last cell, or none
        have fin : ∀ (hok : aRl a j = 0 ∨ ∃ i, aRl a j = i + 1 ∧ near a (aRc a j i) c = true), B_wh_step_69 (fun r1 ro_cells' ro_lengths' => P_mo_step mo_wide mo_tall mo_kind mo_roundMany mo_round (nI j) (nI c) (fun r2 mo_roundMany' mo_round' => r1 = r2 ∧ Rel gr_width gr_height gr_size gr_columns gr_rows gr_firstColumn gr_lastColumn gr_kinds gr_floorCells gr_clearCells gr_standCells pi_cells pi_facings pi_size ro_cells' ro_lengths' ro_shifts si_sightLaw si_sightRange mo_wide mo_tall mo_kind mo_law mo_range mo_pictures mo_pictureCell mo_facing mo_roundMany' mo_round' mo_shift)) ro_cells ro_lengths (nI j) (nI c) := by
          intro hok
          have mo : ∀ {Q2 : Int32 → (Nat → Int32) → (Nat → Int32) → Prop}, B_mo_step_60 Q2 mo_roundMany mo_round (nI j) (nI c) (nI (aRl a j)) → P_mo_step mo_wide mo_tall mo_kind mo_roundMany mo_round (nI j) (nI c) Q2 := by
            intro Q2 hB
            unfold P_mo_step
            refine s_mWatcher (brT ht (s_mc m1 m2 hnw (brT ht2 ⟨vI hj (by omega), ?_⟩)))
            rw [cl (by omega), m9 j hj]
            rintro _ rfl
            refine s_mstands hA m3 hc (brT ht3 ?_)
            rcases hok with z | ⟨i, z, hnr⟩
            · exact br_t (by rw [z]; decide) hB
            · refine br_f (nI_nle (by omega) (by omega)) ?_
              rw [show (6 : Int32) * nI j = nI (6 * j) from pk_mul 6 j, nI_add, show nI (6 * j + aRl a j) - 1 = nI (6 * j + i) by rw [show (1 : Int32) = nI 1 from rfl, pk_sub (by omega)]; congr 1; omega]
              refine ⟨vI (by omega) (by omega), ?_⟩
              rw [cl (by omega), m10 j i hj (by omega)]
              exact s_areNear hA m3 m1 m2 (hrc j i hj (by omega)) hc (brT hnr hB)
          unfold B_wh_step_69 P_ro_lengthen
          rw [cl (by omega), hRo.1 j hj, show nI j * 6 + nI (aRl a j) = nI (6 * j + aRl a j) by rw [show (6 : Int32) = nI 6 from rfl, pk_mul, nI_add, Nat.mul_comm]]
          refine ⟨vI hj (by omega), ?_⟩
          rcases Nat.lt_or_ge (aRl a j) 6 with q | q
          · refine br_t (nI_lt (b := 6) q (by omega)) ⟨vI hj (by omega), vI (by omega) (by omega), vI hj (by omega), vI hj (by omega), vI hj (by omega), mo ?_⟩
            unfold B_mo_step_60
            refine br_f (fun e => by have := (nI_eq (b := 6) (by omega) (by omega)).mp e; omega) ?_
            rw [show (6 : Int32) * nI j = nI (6 * j) from pk_mul 6 j, nI_add, cl (n := j) (by omega), cl (n := 6 * j + aRl a j) (by omega), m9 j hj, nI_1, u_s]
            refine ⟨vI (by omega) (by omega), vI hj (by omega), vI hj (by omega), rfl, (aW a, aH a, aKd a, aLw a, aRg a, aNp a, aPc a, aPf a, (fun k => if k = j then aRl a j + 1 else aRl a k), (fun k i => if k = j ∧ i = aRl a j then c else aRc a k i), aRs a), ?_, hGs, hGk, hPi, ⟨?_, hRo.2.1, ?_⟩, hSi, m1, m2, m3, m4, m5, m6, m7, m8, ?_, ?_, m11⟩
            · obtain ⟨b1, b2, b3, b4, b5, b6, b7, b8, b9, b10⟩ := hA
              refine ⟨b1, b2, b3, b4, b5, b6, b7, fun k hk => ?_, fun k i hk hi => ?_, b10⟩
              · show (if k = j then aRl a j + 1 else aRl a k) ≤ 6
                by_cases e : k = j
                · simp only [e, if_true]; omega
                · simp only [e, if_false]; exact b8 k hk
              · have hi2 : i < (if k = j then aRl a j + 1 else aRl a k) := hi
                show (if k = j ∧ i = aRl a j then c else aRc a k i) < aN a
                by_cases e : k = j
                · subst e
                  simp only [if_true] at hi2
                  by_cases e2 : i = aRl a k
                  · simp only [e2, and_self, if_true]; exact hc
                  · simp only [e2, and_false, if_false]; exact b9 k i hk (by omega)
                · simp only [e, if_false] at hi2
                  simp only [e, false_and, if_false]; exact b9 k i hk hi2
            · intro k hk
              show _ = nI (if k = j then aRl a j + 1 else aRl a k)
              by_cases e : k = j
              · subst e; rw [u_s]; simp
              · rw [u_n e]; simp only [e, if_false]; exact hRo.1 k hk
            · intro k i hk hi
              have hi2 : i < (if k = j then aRl a j + 1 else aRl a k) := hi
              show _ = nI (if k = j ∧ i = aRl a j then c else aRc a k i)
              by_cases e : k = j
              · subst e
                simp only [if_true] at hi2
                by_cases e2 : i = aRl a k
                · subst e2; rw [u_s]; simp
                · rw [u_n (by omega)]; simp only [e2, and_false, if_false]; exact hRo.2.2 k i hk (by omega)
              · simp only [e, if_false] at hi2
                have := hrl k hk
                rw [u_n (by omega)]; simp only [e, false_and, if_false]; exact hRo.2.2 k i hk hi2
            · intro k hk
              show _ = nI (if k = j then aRl a j + 1 else aRl a k)
              by_cases e : k = j
              · subst e; rw [u_s]; simp
              · rw [u_n e]; simp only [e, if_false]; exact m9 k hk
            · intro k i hk hi
              have hi2 : i < (if k = j then aRl a j + 1 else aRl a k) := hi
              show _ = nI (if k = j ∧ i = aRl a j then c else aRc a k i)
              by_cases e : k = j
              · subst e
                simp only [if_true] at hi2
                by_cases e2 : i = aRl a k
                · subst e2; rw [u_s]; simp
                · rw [u_n (by omega)]; simp only [e2, and_false, if_false]; exact m10 k i hk (by omega)
              · simp only [e, if_false] at hi2
                have := hrl k hk
                rw [u_n (by omega)]; simp only [e, false_and, if_false]; exact m10 k i hk hi2
          · have e6 : aRl a j = 6 := by omega
            refine br_f (nI_nlt (b := 6) q (by omega)) (mo ?_)
            unfold B_mo_step_60
            exact br_t (by rw [e6]; rfl) ⟨rfl, hR⟩
        unfold P_ro_lastOf
        rw [cl (by omega), hRo.1 j hj]
        refine ⟨vI hj (by omega), ?_⟩
        rcases Nat.eq_zero_or_pos (aRl a j) with z | z
        · exact br_t (by rw [z]; rfl) (br_t rfl (fin (Or.inl z)))
        · refine br_f (nI_ne0 z (by omega)) ⟨vI hj (by omega), ?_⟩
          unfold P_ro_cellOf
          obtain ⟨i, hi⟩ : ∃ i, aRl a j = i + 1 := ⟨aRl a j - 1, by omega⟩
          rw [hi, show nI (i + 1) - 1 = nI i from nI_pred i, show nI j * 6 + nI i = nI (6 * j + i) by rw [show (6 : Int32) = nI 6 from rfl, pk_mul, nI_add, Nat.mul_comm]]
          rw [cl (by omega), hRo.2.2 j i hj (by omega)]
          have hx := hrc j i hj (by omega)
          refine ⟨vI (by omega) (by omega), br_f (nI_ne9 (by omega)) ⟨fun e => fin (Or.inr ⟨i, hi, ?_⟩), fun e => ?_⟩⟩
          · unfold near
            rw [decide_eq_true ((nI_eq (by omega) (by omega)).mp e), Bool.true_or]
          · have en : ¬ aRc a j i = c := fun z2 => e (by rw [z2])
            refine s_areNb hA hGs hGk hx hc (brB (fun hf => ?_) (fun ht4 => fin (Or.inr ⟨i, hi, by unfold near; rw [ht4, Bool.or_true]⟩)))
            unfold P_mo_step
            refine s_mWatcher (brT ht (s_mc m1 m2 hnw (brT ht2 ⟨vI hj (by omega), ?_⟩)))
            rw [cl (by omega), m9 j hj]
            rintro _ rfl
            refine s_mstands hA m3 hc (brT ht3 (br_f (nI_nle z (by omega)) ?_))
            rw [show (6 : Int32) * nI j = nI (6 * j) from pk_mul 6 j, nI_add, show nI (6 * j + aRl a j) - 1 = nI (6 * j + i) by rw [show (1 : Int32) = nI 1 from rfl, pk_sub (by omega)]; congr 1; omega]
            refine ⟨vI (by omega) (by omega), ?_⟩
            rw [cl (by omega), m10 j i hj (by omega)]
            refine s_areNear hA m3 m1 m2 hx hc (brF ?_ ⟨rfl, hR⟩)
            unfold near
            rw [decide_eq_false en, hf]; rfl
