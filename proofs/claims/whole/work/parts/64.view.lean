theorem cntN_0 {f : Nat → Bool} : ∀ {n : Nat}, (∀ i, i < n → f i = false) → cntN f n = 0
  | 0, _ => rfl
  | n + 1, h => by rw [cntN_s, h n (by omega), cntN_0 (fun i hi => h i (by omega))]; rfl
theorem cntN_cut {f : Nat → Bool} {n N : Nat} (h : n ≤ N) : cntN (fun q => decide (q < n) && f q) N = cntN f n := by
  obtain ⟨m, rfl⟩ : ∃ m, N = n + m := ⟨N - n, by omega⟩
  rw [cntN_add, cntN_0 (n := m) (fun i hi => by rw [decide_eq_false (by omega)]; rfl), Nat.add_zero]
  exact cntN_congr (fun i hi => by simp [hi])
noncomputable def vw (a : Abs) (c : Nat) : Nat := cntN (fun q => sees a c q) (aN a)
theorem s_board {a : Abs} {gw gh gz sl sr : Int32} {gc gr gk : Nat → Int32} {fc lc f c2 st : Int64} {c : Nat} {Q : Int64 → Prop} (hA : AOk a) (hs : IGs a gw gh gz gc gr fc lc) (hk : IGk a gk f c2 st) (hS : IS a sl sr) (hc : c < aN a) (h : ∀ b, (∀ q, q < 64 → bt b q = (decide (q < aN a) && sees a c q)) → Q b) : P_si_boardFrom gw gz gc gr f c2 st sl sr (nI c) Q := by
  obtain ⟨-, hn⟩ := aN_le hA
  obtain ⟨-, -, hz, -⟩ := id hs
  subst hz
  unfold P_si_boardFrom
  refine cnt0 (fun n i (s : Int64) => L_si_boardFrom_5 gw (nI (aN a)) gc gr f c2 st sl sr Q n (nI c) s (nI i)) (aN a) (fun i s => ∀ q, q < 64 → bt s q = (decide (q < i) && sees a c q)) 0 (fun q _ => by rw [bt_0]; simp) ?_ ?_
  · intro n s hI
    unfold L_si_boardFrom_5 P_gr_size
    exact br_t (nI_le (Nat.le_refl _) (by omega)) (h s hI)
  · intro n i s hi hI ih
    unfold L_si_boardFrom_5 P_gr_size
    rw [nI_1 i]
    refine br_f (nI_ge hi (by omega)) (s_reaches hA hs hk hS hc hi (brB (fun hf => ?_) (fun ht => ?_)))
    · rintro _ rfl
      exact ih _ (bits_add hI (bit_no (P := fun q => sees a c q) hf))
    · rintro _ rfl
      exact ih _ (bits_add hI (bit_yes (P := fun q => sees a c q) (by omega) ht))
theorem pop_board {a : Abs} (hA : AOk a) {c : Nat} {b : Int64} (h : ∀ q, q < 64 → bt b q = (decide (q < aN a) && sees a c q)) : popc b = vw a c := by
  obtain ⟨-, hn⟩ := aN_le hA
  unfold popc vw
  rw [cntN_congr h]
  exact cntN_cut hn
theorem s_viewOf {a : Abs} {mw mt ml mr : Int32} {mk : Nat → Int32} {c : Nat} {Q : Int32 → Prop} (hA : AOk a) (hm : ∀ c, c < aN a → mk c = nI (aKd a c)) (h1 : mw = nI (aW a)) (h2 : mt = nI (aH a)) (h4 : ml = nI (aLw a)) (h5 : mr = nI (aRg a)) (hc : c < aN a) (h : Q (nI (vw a c))) : P_mo_viewOf mw mt mk ml mr (nI c) Q := by
  obtain ⟨-, hn⟩ := aN_le hA
  have hN : mw * mt = nI (aN a) := by rw [h1, h2, pk_mul]; rfl
  unfold P_mo_viewOf
  refine cnt0 (fun n i (s : Int32) => L_mo_viewOf_4 mw mt mk ml mr Q n (nI c) s (nI i)) (aN a) (fun i s => s = nI (cntN (fun q => sees a c q) i)) 0 rfl ?_ ?_
  · rintro n _ rfl
    unfold L_mo_viewOf_4
    rw [hN]
    exact br_t (nI_le (Nat.le_refl _) (by omega)) h
  · rintro n i _ hi rfl ih
    unfold L_mo_viewOf_4
    rw [hN, nI_1 i]
    refine br_f (nI_ge hi (by omega)) (s_isSeen hA hm h1 h4 h5 hc hi (brB (fun hf => ih _ ?_) (fun ht => ih _ ?_)))
    · rw [cntN_s, hf]; simp
    · rw [cntN_s, ht, nI_1]; simp
theorem op_view {gr_width : Int32} {gr_height : Int32} {gr_size : Int32} {gr_kinds : Nat → Int32} {gr_columns : Nat → Int32} {gr_rows : Nat → Int32} {gr_floorCells : Int64} {gr_clearCells : Int64} {gr_standCells : Int64} {gr_firstColumn : Int64} {gr_lastColumn : Int64} {pi_cells : Nat → Int32} {pi_facings : Nat → Int32} {pi_size : Int32} {ro_cells : Nat → Int32} {ro_lengths : Nat → Int32} {ro_shifts : Nat → Int32} {si_sightLaw : Int32} {si_sightRange : Int32} {mo_wide : Int32} {mo_tall : Int32} {mo_kind : Nat → Int32} {mo_law : Int32} {mo_range : Int32} {mo_pictures : Int32} {mo_pictureCell : Nat → Int32} {mo_facing : Nat → Int32} {mo_roundMany : Nat → Int32} {mo_round : Nat → Int32} {mo_shift : Nat → Int32} (hR : Rel gr_width gr_height gr_size gr_columns gr_rows gr_firstColumn gr_lastColumn gr_kinds gr_floorCells gr_clearCells gr_standCells pi_cells pi_facings pi_size ro_cells ro_lengths ro_shifts si_sightLaw si_sightRange mo_wide mo_tall mo_kind mo_law mo_range mo_pictures mo_pictureCell mo_facing mo_roundMany mo_round mo_shift) (a1 : Int32) : P_wh_view gr_width gr_size gr_columns gr_rows gr_floorCells gr_clearCells gr_standCells si_sightLaw si_sightRange a1 (fun r1 => P_mo_view mo_wide mo_tall mo_kind mo_law mo_range a1 (fun r2 => r1 = r2 ∧ Rel gr_width gr_height gr_size gr_columns gr_rows gr_firstColumn gr_lastColumn gr_kinds gr_floorCells gr_clearCells gr_standCells pi_cells pi_facings pi_size ro_cells ro_lengths ro_shifts si_sightLaw si_sightRange mo_wide mo_tall mo_kind mo_law mo_range mo_pictures mo_pictureCell mo_facing mo_roundMany mo_round mo_shift)) := by
  obtain ⟨a, hA, hGs, hGk, hPi, hRo, hSi, hM⟩ := id hR
  obtain ⟨m1, m2, m3, m4, m5, m6, m7, m8, m9, m10, m11⟩ := id hM
  obtain ⟨hn4, hn⟩ := aN_le hA
  have hnw : aW a * aH a < 1073741824 := by unfold aN at hn; omega
  have hnp : aNp a ≤ 8 := hA.2.2.2.2.2.1
  unfold P_wh_view
  refine s_gc hGs.2.2.1 (by omega) (brB (fun hf => ?_) (fun ht => ?_))
  · unfold P_mo_view
    exact s_mc m1 m2 hnw (brF hf ⟨rfl, hR⟩)
  · obtain ⟨c, hc, rfl⟩ := isC_of (by omega) ht
    refine s_board hA hGs hGk hSi hc (fun b hb => s_bitCount ?_)
    rw [pop_board hA hb]
    unfold P_mo_view
    exact s_mc m1 m2 hnw (brT ht (s_viewOf hA m3 m1 m2 m4 m5 hc ⟨rfl, hR⟩))
noncomputable def bst (a : Abs) : Nat → Int32 × Nat
  | 0 => (-9, 0)
  | k + 1 => if vw a k ≤ (bst a k).2 then bst a k else (nI k, vw a k)
theorem bst_s (a : Abs) (k : Nat) : bst a (k + 1) = if vw a k ≤ (bst a k).2 then bst a k else (nI k, vw a k) := rfl
theorem vw_le {a : Abs} (hA : AOk a) (c : Nat) : vw a c ≤ 64 := by
  obtain ⟨-, hn⟩ := aN_le hA
  have := cntN_le (fun q => sees a c q) (aN a)
  unfold vw
  omega
theorem bst_le {a : Abs} (hA : AOk a) : ∀ k, (bst a k).2 ≤ 64
  | 0 => Nat.zero_le _
  | k + 1 => by
    rw [bst_s]
    split
    · exact bst_le hA k
    · exact vw_le hA k
theorem vw_0 {a : Abs} {c : Nat} (h : std a c = false) : vw a c = 0 := cntN_0 (fun q _ => by
  cases hs : sees a c q with
  | false => rfl
  | true => rw [sees_std hs] at h; cases h)
theorem s_wbest {a : Abs} {gw gh gz sl sr : Int32} {gc gr gk : Nat → Int32} {fc lc f c2 st : Int64} {Q : Int32 → Prop} (hA : AOk a) (hs : IGs a gw gh gz gc gr fc lc) (hk : IGk a gk f c2 st) (hS : IS a sl sr) (h : Q (bst a (aN a)).1) : P_wh_best gw gz gc gr f c2 st sl sr Q := by
  obtain ⟨-, hn⟩ := aN_le hA
  have hz : gz = nI (aN a) := hs.2.2.1
  unfold P_wh_best
  refine cnt0 (fun n i (s : Int32 × Nat) => L_wh_best_7 gw gz gc gr f c2 st sl sr Q n s.1 (nI s.2) (nI i)) (aN a) (fun i s => s = bst a i) (-9, 0) rfl ?_ ?_
  · rintro n _ rfl
    unfold L_wh_best_7 P_gr_size
    rw [hz]
    exact br_t (nI_le (Nat.le_refl _) (by omega)) h
  · rintro n i _ hi rfl ih
    unfold L_wh_best_7 P_gr_size
    rw [nI_1 i]
    have b1 := bst_le hA i
    have b2 := vw_le hA i
    refine br_f (by rw [hz]; exact nI_ge hi (by omega)) (s_board hA hs hk hS hi (fun b hb => s_bitCount ?_))
    rw [pop_board hA hb, nI_leI (by omega) (by omega)]
    refine ⟨fun e => ih (_, _) ?_, fun e => ih (_, _) ?_⟩
    · rw [bst_s, if_pos e]
    · rw [bst_s, if_neg e]; rfl
theorem s_mbest {a : Abs} {mw mt ml mr : Int32} {mk : Nat → Int32} {Q : Int32 → Prop} (hA : AOk a) (hm : ∀ c, c < aN a → mk c = nI (aKd a c)) (h1 : mw = nI (aW a)) (h2 : mt = nI (aH a)) (h4 : ml = nI (aLw a)) (h5 : mr = nI (aRg a)) (h : Q (bst a (aN a)).1) : P_mo_best mw mt mk ml mr Q := by
  obtain ⟨-, hn⟩ := aN_le hA
  have hN : mw * mt = nI (aN a) := by rw [h1, h2, pk_mul]; rfl
  unfold P_mo_best
  refine cnt0 (fun n i (s : Int32 × Nat) => L_mo_best_7 mw mt mk ml mr Q n s.1 (nI s.2) (nI i)) (aN a) (fun i s => s = bst a i) (-9, 0) rfl ?_ ?_
  · rintro n _ rfl
    unfold L_mo_best_7
    rw [hN]
    exact br_t (nI_le (Nat.le_refl _) (by omega)) h
  · rintro n i _ hi rfl ih
    unfold L_mo_best_7
    rw [hN]
    have b1 := bst_le hA i
    have b2 := vw_le hA i
    have fin : ∀ v, v = vw a i → B_mo_best_37 mw mt mk ml mr Q (L_mo_best_7 mw mt mk ml mr Q n) (bst a i).1 (nI (bst a i).2) (nI i) (nI v) := by
      rintro _ rfl
      unfold B_mo_best_37 B_mo_best_50
      rw [nI_leI (by omega) (by omega), nI_1 i]
      refine ⟨fun e => ⟨fun _ => ih (_, _) ?_, fun q => absurd e q⟩, fun e => ⟨fun q => absurd q e, fun _ => ih (_, _) ?_⟩⟩
      · rw [bst_s, if_pos e]
      · rw [bst_s, if_neg e]; rfl
    refine br_f (nI_ge hi (by omega)) (s_mstands hA hm hi (brB (fun hf => fin 0 (vw_0 hf).symm) (fun ht => s_viewOf hA hm h1 h2 h4 h5 hi (fin _ rfl))))
theorem op_best {gr_width : Int32} {gr_height : Int32} {gr_size : Int32} {gr_kinds : Nat → Int32} {gr_columns : Nat → Int32} {gr_rows : Nat → Int32} {gr_floorCells : Int64} {gr_clearCells : Int64} {gr_standCells : Int64} {gr_firstColumn : Int64} {gr_lastColumn : Int64} {pi_cells : Nat → Int32} {pi_facings : Nat → Int32} {pi_size : Int32} {ro_cells : Nat → Int32} {ro_lengths : Nat → Int32} {ro_shifts : Nat → Int32} {si_sightLaw : Int32} {si_sightRange : Int32} {mo_wide : Int32} {mo_tall : Int32} {mo_kind : Nat → Int32} {mo_law : Int32} {mo_range : Int32} {mo_pictures : Int32} {mo_pictureCell : Nat → Int32} {mo_facing : Nat → Int32} {mo_roundMany : Nat → Int32} {mo_round : Nat → Int32} {mo_shift : Nat → Int32} (hR : Rel gr_width gr_height gr_size gr_columns gr_rows gr_firstColumn gr_lastColumn gr_kinds gr_floorCells gr_clearCells gr_standCells pi_cells pi_facings pi_size ro_cells ro_lengths ro_shifts si_sightLaw si_sightRange mo_wide mo_tall mo_kind mo_law mo_range mo_pictures mo_pictureCell mo_facing mo_roundMany mo_round mo_shift)  : P_wh_best gr_width gr_size gr_columns gr_rows gr_floorCells gr_clearCells gr_standCells si_sightLaw si_sightRange (fun r1 => P_mo_best mo_wide mo_tall mo_kind mo_law mo_range (fun r2 => r1 = r2 ∧ Rel gr_width gr_height gr_size gr_columns gr_rows gr_firstColumn gr_lastColumn gr_kinds gr_floorCells gr_clearCells gr_standCells pi_cells pi_facings pi_size ro_cells ro_lengths ro_shifts si_sightLaw si_sightRange mo_wide mo_tall mo_kind mo_law mo_range mo_pictures mo_pictureCell mo_facing mo_roundMany mo_round mo_shift)) := by
  obtain ⟨a, hA, hGs, hGk, hPi, hRo, hSi, hM⟩ := id hR
  obtain ⟨m1, m2, m3, m4, m5, m6, m7, m8, m9, m10, m11⟩ := id hM
  obtain ⟨hn4, hn⟩ := aN_le hA
  have hnw : aW a * aH a < 1073741824 := by unfold aN at hn; omega
  have hnp : aNp a ≤ 8 := hA.2.2.2.2.2.1
  exact s_wbest hA hGs hGk hSi (s_mbest hA m3 m1 m2 m4 m5 ⟨rfl, hR⟩)
def hwm (a : Abs) (n : Nat) : Nat := cntN (fun k => decide (0 < aRl a k)) n
def stn (a : Abs) (n : Nat) : Nat := cntN (fun c => std a c) n
theorem s_howMany {a : Abs} {rc rl rs : Nat → Int32} {Q : Int32 → Prop} (hA : AOk a) (hRo : IR a rc rl rs) (h : Q (nI (hwm a 4))) : P_ro_howMany rl Q := by
  unfold P_ro_howMany
  refine cnt0 (fun n i (s : Int32) => L_ro_howMany_4 rl Q n s (nI i)) 4 (fun i s => s = nI (hwm a i)) 0 rfl ?_ ?_
  · rintro n _ rfl
    unfold L_ro_howMany_4
    exact br_t (nI_le (a := 4) (b := 4) (Nat.le_refl _) (by omega)) h
  · rintro n i _ hi rfl ih
    have h6 := hA.2.2.2.2.2.2.2.1 i hi
    unfold L_ro_howMany_4
    rw [nI_1 i, cl (by omega), hRo.1 i hi, show (nI (aRl a i) ≤ 0 ↔ aRl a i ≤ 0) from nI_leI (b := 0) (by omega) (by omega)]
    refine br_f (nI_ge (b := 4) hi (by omega)) ⟨vI hi (by omega), fun e => ih _ ?_, fun e => ih _ ?_⟩
    · unfold hwm; rw [cntN_s, decide_eq_false (by omega)]; simp
    · unfold hwm; rw [cntN_s, decide_eq_true (by omega), nI_1]; simp
theorem s_mcount {a : Abs} {mw mt mp x : Int32} {mk rm : Nat → Int32} {Q : Int32 → Prop} (hA : AOk a) (hm : ∀ c, c < aN a → mk c = nI (aKd a c)) (h1 : mw = nI (aW a)) (h2 : mt = nI (aH a)) (m9 : ∀ k, k < 4 → rm k = nI (aRl a k)) (h : B_mo_count_77 mw mt mp Q x (nI (hwm a 4)) (nI (stn a (aN a)))) : P_mo_count mw mt mk mp rm x Q := by
  obtain ⟨-, hn⟩ := aN_le hA
  have hN : mw * mt = nI (aN a) := by rw [h1, h2, pk_mul]; rfl
  unfold P_mo_count
  refine cnt0 (fun n i (s : Int32) => L_mo_count_7 mw mt mk mp rm Q n x s 0 (nI i)) 4 (fun i s => s = nI (hwm a i)) 0 rfl ?_ ?_
  · rintro n _ rfl
    unfold L_mo_count_7
    refine br_t (nI_le (a := 4) (b := 4) (Nat.le_refl _) (by omega)) ?_
    refine cnt0 (fun n i (s : Int32) => L_mo_count_40 mw mt mk mp Q n x (nI (hwm a 4)) s (nI i)) (aN a) (fun i s => s = nI (stn a i)) 0 rfl ?_ ?_
    · rintro n _ rfl
      unfold L_mo_count_40
      rw [hN]
      exact br_t (nI_le (Nat.le_refl _) (by omega)) h
    · rintro n i _ hi rfl ih
      unfold L_mo_count_40
      rw [hN, nI_1 i]
      refine br_f (nI_ge hi (by omega)) (s_mstands hA hm hi (brB (fun hf => ih _ ?_) (fun ht => ih _ ?_)))
      · unfold stn; rw [cntN_s, hf]; simp
      · unfold stn; rw [cntN_s, ht, nI_1]; simp
  · rintro n i _ hi rfl ih
    have h6 := hA.2.2.2.2.2.2.2.1 i hi
    unfold L_mo_count_7
    rw [nI_1 i, cl (by omega), m9 i hi, show (nI (aRl a i) ≤ 0 ↔ aRl a i ≤ 0) from nI_leI (b := 0) (by omega) (by omega)]
    refine br_f (nI_ge (b := 4) hi (by omega)) ⟨vI hi (by omega), fun e => ih _ ?_, fun e => ih _ ?_⟩
    · unfold hwm; rw [cntN_s, decide_eq_false (by omega)]; simp
    · unfold hwm; rw [cntN_s, decide_eq_true (by omega), nI_1]; simp
theorem op_count {gr_width : Int32} {gr_height : Int32} {gr_size : Int32} {gr_kinds : Nat → Int32} {gr_columns : Nat → Int32} {gr_rows : Nat → Int32} {gr_floorCells : Int64} {gr_clearCells : Int64} {gr_standCells : Int64} {gr_firstColumn : Int64} {gr_lastColumn : Int64} {pi_cells : Nat → Int32} {pi_facings : Nat → Int32} {pi_size : Int32} {ro_cells : Nat → Int32} {ro_lengths : Nat → Int32} {ro_shifts : Nat → Int32} {si_sightLaw : Int32} {si_sightRange : Int32} {mo_wide : Int32} {mo_tall : Int32} {mo_kind : Nat → Int32} {mo_law : Int32} {mo_range : Int32} {mo_pictures : Int32} {mo_pictureCell : Nat → Int32} {mo_facing : Nat → Int32} {mo_roundMany : Nat → Int32} {mo_round : Nat → Int32} {mo_shift : Nat → Int32} (hR : Rel gr_width gr_height gr_size gr_columns gr_rows gr_firstColumn gr_lastColumn gr_kinds gr_floorCells gr_clearCells gr_standCells pi_cells pi_facings pi_size ro_cells ro_lengths ro_shifts si_sightLaw si_sightRange mo_wide mo_tall mo_kind mo_law mo_range mo_pictures mo_pictureCell mo_facing mo_roundMany mo_round mo_shift) (a1 : Int32) : P_wh_count gr_width gr_height gr_standCells pi_size ro_lengths a1 (fun r1 => P_mo_count mo_wide mo_tall mo_kind mo_pictures mo_roundMany a1 (fun r2 => r1 = r2 ∧ Rel gr_width gr_height gr_size gr_columns gr_rows gr_firstColumn gr_lastColumn gr_kinds gr_floorCells gr_clearCells gr_standCells pi_cells pi_facings pi_size ro_cells ro_lengths ro_shifts si_sightLaw si_sightRange mo_wide mo_tall mo_kind mo_law mo_range mo_pictures mo_pictureCell mo_facing mo_roundMany mo_round mo_shift)) := by
  obtain ⟨a, hA, hGs, hGk, hPi, hRo, hSi, hM⟩ := id hR
  obtain ⟨m1, m2, m3, m4, m5, m6, m7, m8, m9, m10, m11⟩ := id hM
  obtain ⟨hn4, hn⟩ := aN_le hA
  have hnw : aW a * aH a < 1073741824 := by unfold aN at hn; omega
  have hnp : aNp a ≤ 8 := hA.2.2.2.2.2.1
  have hst : popc gr_standCells = stn a (aN a) := by
    unfold popc stn
    rw [cntN_congr hGk.2.2.2]
    exact cntN_cut hn
  unfold P_wh_count P_gr_width P_gr_height P_pi_size P_gr_standing
  refine ⟨fun e => ?_, fun e => ?_, fun e => ?_, fun e => ?_, fun e => ?_, fun e0 e1 e2 e3 e4 => ?_⟩
  · subst e
    refine s_mcount hA m3 m1 m2 m9 ?_
    unfold B_mo_count_77
    exact ⟨fun _ => ⟨hGs.1.trans m1.symm, hR⟩, fun q => absurd q (by decide), fun q => absurd q (by decide), fun q => absurd q (by decide), fun q => absurd q (by decide), fun q => absurd rfl q⟩
  · subst e
    refine s_mcount hA m3 m1 m2 m9 ?_
    unfold B_mo_count_77
    exact ⟨fun q => absurd q (by decide), fun _ => ⟨hGs.2.1.trans m2.symm, hR⟩, fun q => absurd q (by decide), fun q => absurd q (by decide), fun q => absurd q (by decide), fun _ q => absurd rfl q⟩
  · subst e
    refine s_mcount hA m3 m1 m2 m9 ?_
    unfold B_mo_count_77
    exact ⟨fun q => absurd q (by decide), fun q => absurd q (by decide), fun _ => ⟨hPi.1.trans m6.symm, hR⟩, fun q => absurd q (by decide), fun q => absurd q (by decide), fun _ _ q => absurd rfl q⟩
  · subst e
    refine s_howMany hA hRo (s_mcount hA m3 m1 m2 m9 ?_)
    unfold B_mo_count_77
    exact ⟨fun q => absurd q (by decide), fun q => absurd q (by decide), fun q => absurd q (by decide), fun _ => ⟨rfl, hR⟩, fun q => absurd q (by decide), fun _ _ _ q => absurd rfl q⟩
  · subst e
    refine s_bitCount (s_mcount hA m3 m1 m2 m9 ?_)
    rw [hst]
    unfold B_mo_count_77
    exact ⟨fun q => absurd q (by decide), fun q => absurd q (by decide), fun q => absurd q (by decide), fun q => absurd q (by decide), fun _ => ⟨rfl, hR⟩, fun _ _ _ _ q => absurd rfl q⟩
  · refine s_mcount hA m3 m1 m2 m9 ?_
    unfold B_mo_count_77
    exact ⟨fun q => absurd q e0, fun q => absurd q e1, fun q => absurd q e2, fun q => absurd q e3, fun q => absurd q e4, fun _ _ _ _ _ => ⟨rfl, hR⟩⟩
