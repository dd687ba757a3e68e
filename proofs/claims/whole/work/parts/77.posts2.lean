def rvA (a : Abs) (F : Nat → Nat) (c T : Nat) : Nat := rv F (std a) (aN a) (2 ^ aNp a - 1) (aN a - c) T
theorem rv_le {f : Nat → Nat} {s : Nat → Bool} {N Full : Nat} : ∀ {m T : Nat}, rv f s N Full m T ≤ 1000000
  | 0, T => by unfold rv; split <;> omega
  | m + 1, T => by
    unfold rv
    have h1 := rv_le (f := f) (s := s) (N := N) (Full := Full) (m := m) (T := T)
    generalize rv f s N Full m T = x at *
    generalize (if s (N - (m + 1)) = true then 1 + rv f s N Full m (T ||| f (N - (m + 1))) else 1000000) = y
    split <;> omega
theorem rvA_s {a : Abs} {F : Nat → Nat} {c T : Nat} (hc : c < aN a) : rvA a F c T = if (if std a c = true then 1 + rvA a F (c + 1) (T ||| F c) else 1000000) < rvA a F (c + 1) T then (if std a c = true then 1 + rvA a F (c + 1) (T ||| F c) else 1000000) else rvA a F (c + 1) T := by
  unfold rvA
  obtain ⟨m, hm⟩ : ∃ m, aN a - c = m + 1 := ⟨aN a - c - 1, by omega⟩
  rw [hm, show aN a - (c + 1) = m by omega]
  have e : aN a - (m + 1) = c := by omega
  show (if (if std a (aN a - (m + 1)) = true then _ else _) < _ then _ else _) = _
  rw [e]
/-- what the reference has laid -/
def Pl (a : Abs) (G P : Nat → Int32) (pm : Int32) : Prop :=
  (∃ K, K ≤ 8 ∧ Nd (sFrom a) (aN a) (2 ^ aNp a - 1) K ∧ G 0 = nI K ∧ pm = nI K ∧ ∀ j, j < K → ∃ c, P j = nI c ∧ Pst (sFrom a) (aN a) (2 ^ aNp a - 1) K j c) ∨ ((∀ k, ¬ Cv (sFrom a) (aN a) 0 k (2 ^ aNp a - 1)) ∧ G 0 = nI 1000000 ∧ pm = nI 0)
theorem s_layPosts {a : Abs} {mw mt ml mr mp pm0 : Int32} {mk mpc mf ms G0 P0 : Nat → Int32} {Q : (Nat → Int32) → (Nat → Int32) → (Nat → Int32) → Int32 → Prop} (hA : AOk a) (hm : ∀ c, c < aN a → mk c = nI (aKd a c)) (h1 : mw = nI (aW a)) (h2 : mt = nI (aH a)) (h4 : ml = nI (aLw a)) (h5 : mr = nI (aRg a)) (h6 : mp = nI (aNp a)) (m7 : ∀ p, p < aNp a → mpc p = nI (aPc a p)) (m8 : ∀ p, p < aNp a → mf p = nI (aPf a p)) (h : ∀ g G P pm, Pl a G P pm → Q g G P pm) : P_mo_layPosts mw mt mk ml mr mp mpc mf ms G0 P0 pm0 Q := by
  obtain ⟨hn4, hn⟩ := aN_le hA
  have hnp : aNp a ≤ 8 := hA.2.2.2.2.2.1
  have hp2 := p2_le hnp
  have hp0 := Nat.two_pow_pos (aNp a)
  have hF : ∀ c, sFrom a c < 2 ^ aNp a := fun c => sFrom_lt hA c
  have hs0 : ∀ c, std a c = false → sFrom a c = 0 := fun c hc => sFrom_0 hc
  have hrl : ∀ c T, rvA a (sFrom a) c T ≤ 1000000 := fun c T => rv_le
  unfold P_mo_layPosts
  refine s_laySights hA hm h1 h2 h4 h5 h6 m7 m8 (fun g hg => ?_)
  rintro _ rfl
  rintro _ rfl
  rw [h1, h2, pk_mul, h6, sh32 _ (by omega), show aW a * aH a = aN a from rfl]
  -- the last loop
  have last : ∀ (G : Nat → Int32), (∀ c T, c ≤ aN a → T < 2 ^ aNp a → G (256 * c + T) = nI (rvA a (sFrom a) c T)) → B_mo_layPosts_175 mk Q g G P0 pm0 (nI (aN a)) := by
    intro G hG
    have hG0 : G 0 = nI (rvA a (sFrom a) 0 0) := hG 0 0 (Nat.zero_le _) hp0
    unfold B_mo_layPosts_175
    rcases nv_spec (f := sFrom a) (N := aN a) (S := 2 ^ aNp a - 1) (by omega) (by omega) with ⟨hK8, hK⟩ | ⟨-, hno⟩
    · generalize nv (sFrom a) (aN a) (2 ^ aNp a - 1) = K at *
      have eK : rvA a (sFrom a) 0 0 = K := rv_at (c := 0) (T := 0) (by omega) hF hs0 (Nat.zero_le _) hp0 (by rw [sdf_0]; exact hK) (fun c' h => absurd h (Nat.not_lt_zero _))
      rw [eK] at hG0
      refine cnt0 (fun n c (z : (Nat → Int32) × Nat × Nat) => L_mo_layPosts_185 mk Q n g G z.1 (nI z.2.1) (nI (aN a)) (nI z.2.2) (nI c)) (aN a) (fun c z => z.2.2 < 2 ^ aNp a ∧ Ps (sFrom a) (aN a) (2 ^ aNp a - 1) K z.2.1 (sdf (2 ^ aNp a - 1) z.2.2) ∧ (∀ c', c' < c → ¬ Hp (sFrom a) (aN a) (sdf (2 ^ aNp a - 1) z.2.2) (K - z.2.1) c') ∧ ∀ j, j < z.2.1 → ∃ c, z.1 j = nI c ∧ Pst (sFrom a) (aN a) (2 ^ aNp a - 1) K j c) (P0, 0, 0) ⟨hp0, by rw [sdf_0]; exact rfl, fun c' h => absurd h (Nat.not_lt_zero _), fun j hj => absurd hj (Nat.not_lt_zero _)⟩ ?_ ?_
      · rintro n ⟨P, j, T⟩ ⟨hT, hPs, hnoH, hPj⟩
        simp only at hT hPs hnoH hPj
        obtain ⟨p1, p2, -⟩ := Ps_nd hK hPs
        have hjK : j = K := by
          rcases Nat.lt_or_ge j K with q | q
          · obtain ⟨r, hr⟩ : ∃ r, K - j = r + 1 := ⟨K - j - 1, by omega⟩
            rw [hr] at p2 hnoH
            obtain ⟨c, c1, c2⟩ := Hp_ex p2
            exact absurd c2 (hnoH c c1)
          · omega
        subst hjK
        unfold L_mo_layPosts_185
        exact br_t (nI_le (Nat.le_refl _) (by omega)) (h g G P _ (Or.inl ⟨j, hK8, hK, hG0, rfl, hPj⟩))
      · rintro n c ⟨P, j, T⟩ hc ⟨hT, hPs, hnoH, hPj⟩ ih
        simp only at hT hPs hnoH hPj
        obtain ⟨p1, p2, -⟩ := Ps_nd hK hPs
        have take := rv_take (s := std a) (c := c) (T := T) (r := K - j) (by omega) hF hs0 hc hT p2 hnoH
        have at_ : rvA a (sFrom a) c T = K - j := rv_at (by omega) hF hs0 (Nat.le_of_lt hc) hT p2 hnoH
        have hTo := Nat.or_lt_two_pow hT (hF c)
        have yes : Hp (sFrom a) (aN a) (sdf (2 ^ aNp a - 1) T) (K - j) c → B_mo_layPosts_275 mk Q (L_mo_layPosts_185 mk Q n) g G P (nI j) (nI (aN a)) (nI T) (nI c) 1 := by
          intro hH
          obtain ⟨r, hr, hNr⟩ := id hH
          unfold B_mo_layPosts_275
          rw [nI_1 c, nI_1 j, cl (n := j) (by omega), cl (n := c) (by omega), hg c hc, nI_or]
          refine br_f (by decide) ⟨vI (by omega) (by omega), vI (by omega) (by omega), ?_⟩
          rintro _ rfl
          refine ih (_, j + 1, _) ⟨hTo, ⟨sdf (2 ^ aNp a - 1) T, c, hPs, ⟨hc, hH, hnoH⟩, sdf_or _ _ _⟩, fun c' hc' => ?_, fun j' hj' => ?_⟩
          · show ¬ Hp (sFrom a) (aN a) (sdf (2 ^ aNp a - 1) (T ||| sFrom a c)) (K - (j + 1)) c'
            rw [sdf_or, show K - (j + 1) = r by omega]
            rw [hr] at p2 hnoH
            exact Hp_next hc p2 hnoH hNr c' hc' (by omega)
          · have hj2 : j' < j + 1 := hj'
            rcases Nat.lt_or_ge j' j with q | q
            · obtain ⟨c2, w1, w2⟩ := hPj j' q
              exact ⟨c2, (u_n (by omega)).trans w1, w2⟩
            · have : j' = j := by omega
              subst this
              exact ⟨c, u_s, sdf (2 ^ aNp a - 1) T, hPs, hc, hH, hnoH⟩
        have no : ¬ Hp (sFrom a) (aN a) (sdf (2 ^ aNp a - 1) T) (K - j) c → B_mo_layPosts_275 mk Q (L_mo_layPosts_185 mk Q n) g G P (nI j) (nI (aN a)) (nI T) (nI c) 0 := by
          intro hH
          unfold B_mo_layPosts_275
          rw [nI_1 c]
          refine br_t rfl (ih (P, j, T) ⟨hT, hPs, fun c' hc' => ?_, hPj⟩)
          rcases Nat.lt_or_ge c' c with q | q
          · exact hnoH c' q
          · have : c' = c := by omega
            subst this
            exact hH
        unfold L_mo_layPosts_185
        simp only
        refine br_f (nI_ge hc (by omega)) ⟨vI (n := 0) (by omega) (by omega), br_f ?_ (s_mstands hA hm hc (brB (fun gs => no (fun hH => ?_)) (fun gs => ?_)))⟩
        · rw [show G (0 : Int32).toNatClampNeg = nI K from hG0]
          exact nI_ge (b := 1000000) (by omega) (by omega)
        · have := (take.mpr hH).1
          rw [gs] at this; cases this
        · rw [cl (n := c) (by omega), hg c hc, nI_or, show (256 : Int32) = nI 256 from rfl, pk_mul, nI_add, nI_add, nI_add, cl (n := 256 * c + T) (by omega), cl (n := 256 * c + 256 + (T ||| sFrom a c)) (by omega), hG c T (Nat.le_of_lt hc) hT, at_, show 256 * c + 256 + (T ||| sFrom a c) = 256 * (c + 1) + (T ||| sFrom a c) by omega, hG (c + 1) _ hc hTo, show (1 : Int32) = nI 1 from rfl, nI_add]
          have hrl2 := hrl (c + 1) (T ||| sFrom a c)
          have z0 : nI (K - j) ≤ 0 ↔ K - j ≤ 0 := nI_leI (b := 0) (by omega) (by omega)
          rw [z0, nI_eq (by omega) (by omega)]
          refine ⟨vI (by omega) (by omega), fun q => no (fun hH => ?_), fun q => ⟨vI (by omega) (by omega), vI (by omega) (by omega), vI (by omega) (by omega), fun q2 => yes (take.mp ⟨gs, by omega, q2⟩), fun q2 => no (fun hH => q2 (take.mpr hH).2.2)⟩⟩
          have := (take.mpr hH).2.1
          omega
    · have eF : rvA a (sFrom a) 0 0 = 1000000 := by
        unfold rvA
        rcases rv_spec (f := sFrom a) (s := std a) (N := aN a) (Full := 2 ^ aNp a - 1) (m := aN a - 0) (T := 0) (by omega) with ⟨-, b2, -⟩ | ⟨b1, -⟩
        · have := Rv_Cv (by omega) b2
          rw [sdf_0] at this
          exact absurd (Cv_lo (Nat.zero_le _) this) (hno _)
        · exact b1
      rw [eF] at hG0
      refine ⟨1, ?_⟩
      unfold L_mo_layPosts_185
      refine br_f (by show ¬ nI (aN a) ≤ nI 0; exact nI_ge (by omega) (by omega)) ⟨vI (n := 0) (by omega) (by omega), br_t ?_ (h g G P0 _ (Or.inr ⟨hno, hG0, rfl⟩))⟩
      rw [show G (0 : Int32).toNatClampNeg = nI 1000000 from hG0]
      decide
  -- the table, from the last cell on
  have mid : ∀ (m : Nat) (G : Nat → Int32), m ≤ aN a → (∀ c T, m ≤ c → c ≤ aN a → T < 2 ^ aNp a → G (256 * c + T) = nI (rvA a (sFrom a) c T)) → L_mo_layPosts_63 mk Q (m + 1) g G P0 pm0 (nI (aN a)) (nI (2 ^ aNp a)) (nI m + (-1)) := by
    intro m
    induction m with
    | zero =>
      intro G _ hG
      unfold L_mo_layPosts_63
      exact br_t (by decide) (last G (fun c T hc hT => hG c T (Nat.zero_le _) hc hT))
    | succ m ih =>
      intro G hmN hG
      have hmc : m < aN a := by omega
      unfold L_mo_layPosts_63
      rw [pk_m1]
      refine br_f (nI_pos (by omega)) ?_
      refine cnt0 (fun n T (G : Nat → Int32) => L_mo_layPosts_70 mk Q (L_mo_layPosts_63 mk Q (m + 1)) n g G P0 pm0 (nI (aN a)) (nI (2 ^ aNp a)) (nI m) (nI T)) (2 ^ aNp a) (fun T' G => (∀ c T, m + 1 ≤ c → c ≤ aN a → T < 2 ^ aNp a → G (256 * c + T) = nI (rvA a (sFrom a) c T)) ∧ ∀ T, T < T' → G (256 * m + T) = nI (rvA a (sFrom a) m T)) G ⟨hG, fun T hT => absurd hT (Nat.not_lt_zero _)⟩ ?_ ?_
      · rintro n G' ⟨a1, a2⟩
        unfold L_mo_layPosts_70
        refine br_t (nI_le (Nat.le_refl _) (by omega)) (ih G' (by omega) (fun c T hc hcN hT => ?_))
        rcases Nat.eq_or_lt_of_le hc with e | e
        · subst e; exact a2 T hT
        · exact a1 c T e hcN hT
      · rintro n T G' hT ⟨a1, a2⟩ ih2
        have hTo := Nat.or_lt_two_pow hT (hF m)
        have r1 := hrl (m + 1) T
        have r2 := hrl (m + 1) (T ||| sFrom a m)
        unfold L_mo_layPosts_70
        rw [show (256 : Int32) = nI 256 from rfl, pk_mul, nI_add, nI_add, cl (n := 256 * m + 256 + T) (by omega), show 256 * m + 256 + T = 256 * (m + 1) + T by omega, a1 (m + 1) T (Nat.le_refl _) hmc hT]
        refine br_f (nI_ge hT (by omega)) ⟨vI (by omega) (by omega), ?_⟩
        rintro _ rfl
        have fin : ∀ w, w ≤ 1000001 → w = (if std a m = true then 1 + rvA a (sFrom a) (m + 1) (T ||| sFrom a m) else 1000000) → B_mo_layPosts_134 mk Q (L_mo_layPosts_70 mk Q (L_mo_layPosts_63 mk Q (m + 1)) n) g G' P0 pm0 (nI (aN a)) (nI (2 ^ aNp a)) (nI m) (nI T) (nI (rvA a (sFrom a) (m + 1) T)) (nI w) := by
          intro w hw1 hw
          have hs := rvA_s (F := sFrom a) (c := m) (T := T) hmc
          rw [← hw] at hs
          unfold B_mo_layPosts_134
          rw [show (256 : Int32) = nI 256 from rfl, pk_mul, nI_add, cl (n := 256 * m + T) (by omega), nI_1 T, nI_leI (by omega) (by omega)]
          have go : ∀ v, v = rvA a (sFrom a) m T → L_mo_layPosts_70 mk Q (L_mo_layPosts_63 mk Q (m + 1)) n g (upd G' (256 * m + T) (nI v)) P0 pm0 (nI (aN a)) (nI (2 ^ aNp a)) (nI m) (nI (T + 1)) := by
            rintro _ rfl
            refine ih2 _ ⟨fun c T2 hc hcN hT2 => ?_, fun T2 hT2 => ?_⟩
            · rw [u_n (by omega)]; exact a1 c T2 hc hcN hT2
            · by_cases e : T2 = T
              · subst e; rw [u_s]
              · rw [u_n (by omega)]; exact a2 T2 (by omega)
          refine ⟨fun q => ⟨vI (by omega) (by omega), go _ ?_⟩, fun q => ⟨vI (by omega) (by omega), go _ ?_⟩⟩
          · rw [hs, if_neg (by omega)]
          · rw [hs, if_pos (by omega)]
        refine s_mstands hA hm hmc (brB (fun gs => fin 1000000 (by omega) (by rw [if_neg (by rw [gs]; decide)])) (fun gs => ⟨vI (by omega) (by omega), ?_⟩))
        rw [cl (n := m) (by omega), hg m hmc, nI_or, nI_add, cl (n := 256 * m + 256 + (T ||| sFrom a m)) (by omega), show 256 * m + 256 + (T ||| sFrom a m) = 256 * (m + 1) + (T ||| sFrom a m) by omega, a1 (m + 1) _ (Nat.le_refl _) hmc hTo, show (1 : Int32) = nI 1 from rfl, nI_add]
        exact ⟨vI (by omega) (by omega), fin _ (by omega) (by rw [if_pos gs])⟩
  refine cnt0 (fun n T (G : Nat → Int32) => L_mo_layPosts_23 mk Q n g G P0 pm0 (nI (aN a)) (nI (2 ^ aNp a)) (nI T)) (2 ^ aNp a) (fun T' G => ∀ T, T < T' → G (256 * aN a + T) = nI (rvA a (sFrom a) (aN a) T)) G0 (fun T hT => absurd hT (Nat.not_lt_zero _)) ?_ ?_
  · intro n G hI
    unfold L_mo_layPosts_23
    refine br_t (nI_le (Nat.le_refl _) (by omega)) ?_
    obtain ⟨N', hN'⟩ : ∃ N', aN a = N' + 1 := ⟨aN a - 1, by omega⟩
    have := mid (aN a) G (Nat.le_refl _) (fun c T hc hcN hT => by
      have : c = aN a := by omega
      subst this
      exact hI T hT)
    have e1 : nI (aN a) + (-1) = nI (aN a) - 1 := by rw [hN', pk_m1, nI_pred]
    rw [e1] at this
    exact ⟨_, this⟩
  · intro n T G hT hI ih
    have eN : ∀ T, rvA a (sFrom a) (aN a) T = if T = 2 ^ aNp a - 1 then 0 else 1000000 := by
      intro T
      unfold rvA
      rw [Nat.sub_self]
      rfl
    unfold L_mo_layPosts_23
    rw [show (256 : Int32) = nI 256 from rfl, pk_mul, nI_add, cl (n := 256 * aN a + T) (by omega), nI_1 T, show (1 : Int32) = nI 1 from rfl, pk_sub (a := 2 ^ aNp a) (b := 1) (by omega), nI_eq (a := T) (by omega) (by omega)]
    have go : ∀ x, x = nI (rvA a (sFrom a) (aN a) T) → L_mo_layPosts_23 mk Q n g (upd G (256 * aN a + T) x) P0 pm0 (nI (aN a)) (nI (2 ^ aNp a)) (nI (T + 1)) := by
      rintro _ rfl
      refine ih _ (fun T2 hT2 => ?_)
      by_cases e : T2 = T
      · subst e; rw [u_s]
      · rw [u_n (by omega)]; exact hI T2 (by omega)
    refine br_f (nI_ge hT (by omega)) ⟨fun e => ⟨vI (by omega) (by omega), go _ (by rw [eN, if_pos e]; rfl)⟩, fun e => ⟨vI (by omega) (by omega), go _ (by rw [eN, if_neg e]; rfl)⟩⟩
theorem op_fewest {gr_width : Int32} {gr_height : Int32} {gr_size : Int32} {gr_kinds : Nat → Int32} {gr_columns : Nat → Int32} {gr_rows : Nat → Int32} {gr_floorCells : Int64} {gr_clearCells : Int64} {gr_standCells : Int64} {gr_firstColumn : Int64} {gr_lastColumn : Int64} {pi_cells : Nat → Int32} {pi_facings : Nat → Int32} {pi_sets : Nat → Int32} {pi_size : Int32} {po_needs : Nat → Int32} {ro_cells : Nat → Int32} {ro_lengths : Nat → Int32} {ro_shifts : Nat → Int32} {si_sightLaw : Int32} {si_sightRange : Int32} {mo_wide : Int32} {mo_tall : Int32} {mo_kind : Nat → Int32} {mo_law : Int32} {mo_range : Int32} {mo_pictures : Int32} {mo_pictureCell : Nat → Int32} {mo_facing : Nat → Int32} {mo_sights : Nat → Int32} {mo_fewest : Nat → Int32} {mo_posts : Nat → Int32} {mo_postMany : Int32} {mo_roundMany : Nat → Int32} {mo_round : Nat → Int32} {mo_shift : Nat → Int32} (hR : Rel gr_width gr_height gr_size gr_columns gr_rows gr_firstColumn gr_lastColumn gr_kinds gr_floorCells gr_clearCells gr_standCells pi_cells pi_facings pi_size ro_cells ro_lengths ro_shifts si_sightLaw si_sightRange mo_wide mo_tall mo_kind mo_law mo_range mo_pictures mo_pictureCell mo_facing mo_roundMany mo_round mo_shift)  : P_wh_fewest gr_width gr_size gr_columns gr_rows gr_floorCells gr_clearCells gr_standCells pi_cells pi_facings pi_sets pi_size po_needs si_sightLaw si_sightRange (fun r1 pi_sets' po_needs' => P_mo_fewest mo_wide mo_tall mo_kind mo_law mo_range mo_pictures mo_pictureCell mo_facing mo_sights mo_fewest mo_posts mo_postMany (fun r2 mo_sights' mo_fewest' mo_posts' mo_postMany' => r1 = r2 ∧ Rel gr_width gr_height gr_size gr_columns gr_rows gr_firstColumn gr_lastColumn gr_kinds gr_floorCells gr_clearCells gr_standCells pi_cells pi_facings pi_size ro_cells ro_lengths ro_shifts si_sightLaw si_sightRange mo_wide mo_tall mo_kind mo_law mo_range mo_pictures mo_pictureCell mo_facing mo_roundMany mo_round mo_shift)) := by
  obtain ⟨a, hA, hGs, hGk, hPi, hRo, hSi, hM⟩ := id hR
  obtain ⟨m1, m2, m3, m4, m5, m6, m7, m8, m9, m10, m11⟩ := id hM
  obtain ⟨hn4, hn⟩ := aN_le hA
  have hnw : aW a * aH a < 1073741824 := by unfold aN at hn; omega
  have hnp : aNp a ≤ 8 := hA.2.2.2.2.2.1
  unfold P_wh_fewest
  refine s_survey hA hGs hGk hSi hPi (fun pt hpt => s_weigh hA hGs.2.2.1 hPi.1 hpt (fun nd hnd => s_poSize hA hPi.1 hnd (fun K hK hN => ?_) (fun hno => ?_)))
  · unfold P_mo_fewest
    refine s_layPosts hA m3 m1 m2 m4 m5 m6 m7 m8 (fun g G P pm hPl => ⟨vI (n := 0) (by omega) (by omega), ?_⟩)
    rcases hPl with ⟨K2, k1, k2, k3, -⟩ | ⟨k1, -⟩
    · have := Nd_one hN k2
      subst this
      rw [show G (0 : Int32).toNatClampNeg = nI K from k3]
      exact br_t (nI_lt (b := 1000000) (by omega) (by omega)) ⟨vI (n := 0) (by omega) (by omega), rfl, hR⟩
    · exact absurd hN.1 (k1 K)
  · unfold P_mo_fewest
    refine s_layPosts hA m3 m1 m2 m4 m5 m6 m7 m8 (fun g G P pm hPl => ⟨vI (n := 0) (by omega) (by omega), ?_⟩)
    rcases hPl with ⟨K2, k1, k2, k3, -⟩ | ⟨-, k2, -⟩
    · exact absurd k2.1 (hno K2)
    · rw [show G (0 : Int32).toNatClampNeg = nI 1000000 from k2]
      exact br_f (by decide) ⟨rfl, hR⟩
theorem op_post {gr_width : Int32} {gr_height : Int32} {gr_size : Int32} {gr_kinds : Nat → Int32} {gr_columns : Nat → Int32} {gr_rows : Nat → Int32} {gr_floorCells : Int64} {gr_clearCells : Int64} {gr_standCells : Int64} {gr_firstColumn : Int64} {gr_lastColumn : Int64} {pi_cells : Nat → Int32} {pi_facings : Nat → Int32} {pi_sets : Nat → Int32} {pi_size : Int32} {po_needs : Nat → Int32} {ro_cells : Nat → Int32} {ro_lengths : Nat → Int32} {ro_shifts : Nat → Int32} {si_sightLaw : Int32} {si_sightRange : Int32} {mo_wide : Int32} {mo_tall : Int32} {mo_kind : Nat → Int32} {mo_law : Int32} {mo_range : Int32} {mo_pictures : Int32} {mo_pictureCell : Nat → Int32} {mo_facing : Nat → Int32} {mo_sights : Nat → Int32} {mo_fewest : Nat → Int32} {mo_posts : Nat → Int32} {mo_postMany : Int32} {mo_roundMany : Nat → Int32} {mo_round : Nat → Int32} {mo_shift : Nat → Int32} (hR : Rel gr_width gr_height gr_size gr_columns gr_rows gr_firstColumn gr_lastColumn gr_kinds gr_floorCells gr_clearCells gr_standCells pi_cells pi_facings pi_size ro_cells ro_lengths ro_shifts si_sightLaw si_sightRange mo_wide mo_tall mo_kind mo_law mo_range mo_pictures mo_pictureCell mo_facing mo_roundMany mo_round mo_shift) (a1 : Int32) : P_wh_post gr_width gr_size gr_columns gr_rows gr_floorCells gr_clearCells gr_standCells pi_cells pi_facings pi_sets pi_size po_needs si_sightLaw si_sightRange a1 (fun r1 pi_sets' po_needs' => P_mo_post mo_wide mo_tall mo_kind mo_law mo_range mo_pictures mo_pictureCell mo_facing mo_sights mo_fewest mo_posts mo_postMany a1 (fun r2 mo_sights' mo_fewest' mo_posts' mo_postMany' => r1 = r2 ∧ Rel gr_width gr_height gr_size gr_columns gr_rows gr_firstColumn gr_lastColumn gr_kinds gr_floorCells gr_clearCells gr_standCells pi_cells pi_facings pi_size ro_cells ro_lengths ro_shifts si_sightLaw si_sightRange mo_wide mo_tall mo_kind mo_law mo_range mo_pictures mo_pictureCell mo_facing mo_roundMany mo_round mo_shift)) := by
  obtain ⟨a, hA, hGs, hGk, hPi, hRo, hSi, hM⟩ := id hR
  obtain ⟨m1, m2, m3, m4, m5, m6, m7, m8, m9, m10, m11⟩ := id hM
  obtain ⟨hn4, hn⟩ := aN_le hA
  have hnw : aW a * aH a < 1073741824 := by unfold aN at hn; omega
  have hnp : aNp a ≤ 8 := hA.2.2.2.2.2.1
  unfold P_wh_post
  have hin : ∀ {k : Nat} {Q : Int32 → Prop}, k < 16384 → Q (bI (isC k a1)) → P_mo_in (Int32.toInt64 a1) 0 (Int32.toInt64 (nI k - 1)) Q := by
    intro k Q hk hQ
    refine s_in (l := 0) (h := (k : Int) - 1) rfl (by rw [w64, m1T (by omega)]) ?_
    have : isR 0 ((k : Int) - 1) a1 = isC k a1 := by
      unfold isR isC
      exact decide_eq_decide.mpr (by omega)
    rw [this]; exact hQ
  have e0 : isC 0 a1 = false := decide_eq_false (by omega)
  refine s_survey hA hGs hGk hSi hPi (fun pt hpt => s_weigh hA hGs.2.2.1 hPi.1 hpt (fun nd hnd => s_poCellOf hA hGs.2.2.1 hPi.1 hpt hnd (fun hno => ?_) (fun K hK hN hx => ?_) (fun K i c hK hN hi hx hPs => ?_)))
  · unfold P_mo_post
    refine s_layPosts hA m3 m1 m2 m4 m5 m6 m7 m8 (fun g G P pm hPl => ?_)
    rcases hPl with ⟨K2, k1, k2, k3, -⟩ | ⟨-, -, rfl⟩
    · exact absurd k2.1 (hno K2)
    · exact hin (by omega) (brF e0 ⟨rfl, hR⟩)
  · unfold P_mo_post
    refine s_layPosts hA m3 m1 m2 m4 m5 m6 m7 m8 (fun g G P pm hPl => ?_)
    rcases hPl with ⟨K2, k1, k2, -, rfl, -⟩ | ⟨k1, -⟩
    · have := Nd_one hN k2
      subst this
      exact hin (by omega) (brF hx ⟨rfl, hR⟩)
    · exact absurd hN.1 (k1 K)
  · unfold P_mo_post
    refine s_layPosts hA m3 m1 m2 m4 m5 m6 m7 m8 (fun g G P pm hPl => ?_)
    rcases hPl with ⟨K2, k1, k2, -, rfl, k5⟩ | ⟨k1, -⟩
    · have := Nd_one hN k2
      subst this
      refine hin (by omega) (brT (by rw [hx]; exact isC_n hi (by omega)) ?_)
      obtain ⟨c2, w1, w2⟩ := k5 i hi
      rw [hx, cl (n := i) (by omega), w1, Pst_one hPs w2]
      exact ⟨vI (by omega) (by omega), rfl, hR⟩
    · exact absurd hN.1 (k1 K)
