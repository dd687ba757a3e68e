theorem s_mayAsk {a : Abs} {mw mt mp x1 x2 x3 : Int32} {Q : Int32 → Prop} (hA : AOk a) (h1 : mw = nI (aW a)) (h2 : mt = nI (aH a)) (h6 : mp = nI (aNp a)) (hp : isC (aNp a) x1 = false → Q (-1)) (hc : isC (aNp a) x1 = true → isC (aN a) x2 = false → Q (-1)) (ht : isC (aNp a) x1 = true → isC (aN a) x2 = true → isR 0 9999 x3 = false → Q (-2)) (h : isC (aNp a) x1 = true → isC (aN a) x2 = true → isR 0 9999 x3 = true → Q 0) : P_mo_mayAsk mw mt mp x1 x2 x3 Q := by
  obtain ⟨-, hn⟩ := aN_le hA
  have hnp : aNp a ≤ 8 := hA.2.2.2.2.2.1
  unfold P_mo_mayAsk
  exact s_mp h6 (by omega) (brB (fun g => hp g) (fun g => s_mc h1 h2 (by unfold aN at hn; omega) (brB (fun g2 => hc g g2) (fun g2 => s_in rfl rfl (brB (fun g3 => ht g g2 g3) (fun g3 => h g g2 g3))))))
theorem s_mayBegin {a : Abs} {mw ml mr : Int32} {mk rm ro sh : Nat → Int32} {c t : Nat} {Q : Int32 → Prop} (hA : AOk a) (hm : ∀ c, c < aN a → mk c = nI (aKd a c)) (h1 : mw = nI (aW a)) (h4 : ml = nI (aLw a)) (h5 : mr = nI (aRg a)) (m9 : ∀ k, k < 4 → rm k = nI (aRl a k)) (m10 : ∀ k i, k < 4 → i < aRl a k → ro (6 * k + i) = nI (aRc a k i)) (m11 : ∀ k, k < 4 → sh k = nI (aRs a k)) (hc : c < aN a) (ht : t ≤ 9999) (h : Q (bI (sf a t c))) : P_mo_mayBegin mw mk ml mr rm ro sh (nI c) (nI t) Q := by
  unfold P_mo_mayBegin
  unfold sf at h
  rw [decide_eq_true hc, Bool.true_and] at h
  refine s_mstands hA hm hc (brB (fun g => ?_) (fun g => s_isWatched hA hm h1 h4 h5 m9 m10 m11 hc ht (brB (fun g2 => ?_) (fun g2 => ?_))))
  · rw [g] at h; exact h
  · rw [g, g2] at h; exact h
  · rw [g, g2] at h; exact h
theorem sf_per {a : Abs} {t c : Nat} : sf a (t % per a) c = sf a t c := by unfold sf; rw [wtd_per]
theorem s_beginOf {a : Abs} {mpc rm : Nat → Int32} {p c t : Nat} {Q : Int32 → Prop} (hA : AOk a) (m7 : ∀ p, p < aNp a → mpc p = nI (aPc a p)) (m9 : ∀ k, k < 4 → rm k = nI (aRl a k)) (hp : p < aNp a) (hc : c < aN a) (ht : t ≤ 9999) (h : Q (nI (128 * (t % per a) + (2 * c + (if c = aPc a p then 1 else 0))))) : P_mo_beginOf mpc rm (nI p) (nI c) (nI t) Q := by
  obtain ⟨-, hn⟩ := aN_le hA
  have hP := per_le hA
  have hP1 := per_pos hA
  have hnp : aNp a ≤ 8 := hA.2.2.2.2.2.1
  have htg := (hA.2.2.2.2.2.2.1 p hp).1
  unfold P_mo_beginOf
  refine s_periodNow hA m9 ⟨nI_ne0 hP1 (by omega), vI (by omega) (by omega), ?_⟩
  rw [pk_rem (by omega) hP1 (by omega), cl (n := p) (by omega), m7 p hp, show (128 : Int32) = nI 128 from rfl, show (2 : Int32) = nI 2 from rfl, pk_mul, pk_mul, nI_add, nI_1, nI_eq (by omega) (by omega)]
  refine ⟨fun e => ?_, fun e => ?_⟩
  · rw [if_pos e] at h
    rw [show 128 * (t % per a) + 2 * c + 1 = 128 * (t % per a) + (2 * c + 1) by omega]; exact h
  · rw [if_neg e] at h
    rw [show (0 : Int32) = nI 0 from rfl, nI_add, show 128 * (t % per a) + 2 * c + 0 = 128 * (t % per a) + (2 * c + 0) by omega]; exact h
theorem s_thenAt {a : Abs} {mw mt : Int32} {mk mpc rm g : Nat → Int32} {p S d : Nat} {Q : Int32 → Prop} (hA : AOk a) (hm : ∀ c, c < aN a → mk c = nI (aKd a c)) (h1 : mw = nI (aW a)) (h2 : mt = nI (aH a)) (m7 : ∀ p, p < aNp a → mpc p = nI (aPc a p)) (m9 : ∀ k, k < 4 → rm k = nI (aRl a k)) (hg : ∀ t c, t < per a → c < aN a → g (64 * t + c) = bI (wtd a c t)) (hp : p < aNp a) (hV2 : hV a S) (hd : d < 5) (h : Q (oI (-9) (hmv a (aPc a p) S d))) : P_mo_thenAt mw mt mk mpc rm g (nI p) (nI S) (nI d) Q := by
  obtain ⟨-, hn⟩ := aN_le hA
  have hP := per_le hA
  have hP1 := per_pos hA
  have hnp : aNp a ≤ 8 := hA.2.2.2.2.2.1
  have htg := (hA.2.2.2.2.2.2.1 p hp).1
  obtain ⟨v1, v2⟩ := hV2
  have hsf := sf_iff.mp v2
  have hS : S < 7680 := by omega
  have htp : (S / 128 + 1) % per a < per a := Nat.mod_lt _ hP1
  have ne1 : ¬ nI 128 = 0 := by decide
  have ne2 : ¬ nI 2 = 0 := by decide
  unfold P_mo_thenAt
  refine s_periodNow hA m9 ?_
  rw [show (128 : Int32) = nI 128 from rfl, show (2 : Int32) = nI 2 from rfl]
  refine ⟨ne1, nI_ne0 hP1 (by omega), ?_⟩
  rintro _ rfl
  refine ⟨ne1, ne2, ?_⟩
  rintro _ rfl
  rw [pk_rem (a := S) (d := 128) (by omega) (by omega) (by omega), pk_div (a := S) (d := 128) (by omega) (by omega) (by omega), nI_1, pk_rem (by omega) hP1 (by omega), pk_div (a := S % 128) (d := 2) (by omega) (by omega) (by omega)]
  unfold hmv at h
  rw [if_pos ⟨v1, v2, hd⟩] at h
  generalize hbb : (S / 128 + 1) % per a = t2 at *
  have b44 : ∀ y0 : Int32, y0 = oI (-9) (stp a (S % 128 / 2) d) → B_mo_thenAt_44 mpc g Q (nI p) (nI S) (nI t2) y0 := by
    rintro _ rfl
    unfold B_mo_thenAt_44
    cases hsd : stp a (S % 128 / 2) d with
    | none => rw [hsd] at h; exact br_t rfl h
    | some o =>
      rw [hsd] at h
      simp only at h
      have ho := stp_some hsd
      refine br_f (nI_ne9 (by omega)) ?_
      rw [show oI (-9) (some o) = nI o from rfl, show (64 : Int32) = nI 64 from rfl, show (128 : Int32) = nI 128 from rfl, show (2 : Int32) = nI 2 from rfl, pk_mul, pk_mul, pk_mul, nI_add, nI_add, nI_1, cl (n := 64 * t2 + o) (by omega), hg t2 o htp ho.1, cl (n := p) (by omega), m7 p hp, pk_rem (a := S) (d := 2) (by omega) (by omega) (by omega)]
      have z1 : nI (S % 2) = 1 ↔ S % 2 = 1 := nI_eq (b := 1) (by omega) (by omega)
      have z2 : nI o = nI (aPc a p) ↔ o = aPc a p := nI_eq (by omega) (by omega)
      rw [z1, z2]
      refine ⟨vI (by omega) (by omega), brB (fun gd => ⟨ne2, fun e1 => ?_, fun e1 => ⟨vI (by omega) (by omega), fun e2 => ?_, fun e2 => ?_⟩⟩) (fun gd => ?_)⟩
      · rw [if_pos (sf_iff.mpr ⟨ho.1, ho.2.1, gd⟩), if_pos (Or.inl e1)] at h
        rw [show 128 * t2 + 2 * o + 1 = 128 * t2 + (2 * o + 1) by omega]; exact h
      · rw [if_pos (sf_iff.mpr ⟨ho.1, ho.2.1, gd⟩), if_pos (Or.inr e2)] at h
        rw [show 128 * t2 + 2 * o + 1 = 128 * t2 + (2 * o + 1) by omega]; exact h
      · rw [if_pos (sf_iff.mpr ⟨ho.1, ho.2.1, gd⟩), if_neg (fun z => z.elim e1 e2)] at h
        rw [show (0 : Int32) = nI 0 from rfl, nI_add, show 128 * t2 + 2 * o + 0 = 128 * t2 + (2 * o + 0) by omega]; exact h
      · rw [if_neg (fun z => by rw [(sf_iff.mp z).2.2] at gd; cases gd)] at h
        exact h
  have z4 : nI d = 4 ↔ d = 4 := nI_eq (b := 4) (by omega) (by omega)
  rw [z4]
  refine ⟨fun e => b44 _ ?_, fun e => s_beside hA hm h1 h2 hsf.1 (by omega) (b44 _ ?_)⟩
  · subst e
    rw [stp4 hA hsf.1, if_pos hsf.2.1]; rfl
  · unfold bsd
    rw [if_pos hsf.2.1]
theorem s_mtheftSteps {a : Abs} {mw mt : Int32} {mk mpc rm q g D : Nat → Int32} {p dr s0 i K eB : Nat} {Q : Int32 → (Nat → Int32) → (Nat → Int32) → (Nat → Int32) → Prop} (hA : AOk a) (hm : ∀ c, c < aN a → mk c = nI (aKd a c)) (h1 : mw = nI (aW a)) (h2 : mt = nI (aH a)) (m7 : ∀ p, p < aNp a → mpc p = nI (aPc a p)) (m9 : ∀ k, k < 4 → rm k = nI (aRl a k)) (hg : ∀ t c, t < per a → c < aN a → g (64 * t + c) = bI (wtd a c t)) (hp : p < aNp a) (hDT : DT (hmv a (aPc a p)) (hgoal a dr) (128 * per a) D) (hB : Best (hmv a (aPc a p)) s0 (hgoal a dr) K eB) (hK : K < 128 * per a) (hi : i < K) (h : Q (nI (dgt K eB i)) q D g) : ∃ n : Nat, L_mo_theftStep_86 mw mt mk mpc rm Q n q D g (nI p) (nI i) (nI s0) (-9) 0 := by
  obtain ⟨-, hn64⟩ := aN_le hA
  have hP := per_le hA
  have h0 := Best_dist hB
  refine cnt0 (fun n k (s : Nat × Int32) => L_mo_theftStep_86 mw mt mk mpc rm Q n q D g (nI p) (nI i) (nI s.1) s.2 (nI k)) (i + 1) (fun k s => ∃ e, Greedy (hmv a (aPc a p)) (hgoal a dr) s0 K k e s.1 ∧ (0 < k → s.2 = nI (e % 8))) (s0, -9) ⟨1, ⟨rfl, rfl⟩, fun h => absurd h (Nat.lt_irrefl _)⟩ ?_ ?_
  · rintro n ⟨at_, x5⟩ ⟨e, hG, hx⟩
    have hx' : x5 = nI (e % 8) := hx (by omega)
    subst hx'
    unfold L_mo_theftStep_86
    rw [Greedy_dgt hB hi hG] at h
    exact br_t (nI_lt (by omega) (by omega)) h
  · rintro n k ⟨at_, x5⟩ hk ⟨e, hG, -⟩ ih
    have hG : Greedy (hmv a (aPc a p)) (hgoal a dr) s0 K k e at_ := hG
    have hD := Greedy_dist h0 hG
    have hVa := hGd hA hD.1
    obtain ⟨d, t, hd8, hmv2, hDt, hleast⟩ := Greedy_next h0 (by omega) hG
    obtain ⟨-, hd, -⟩ := hmv_some hA hmv2
    have hVt := hGd hA hDt.1
    have hs : at_ < 128 * per a := by have := hVa.1; omega
    have hts : t < 128 * per a := by have := hVt.1; omega
    have hDat : D at_ = nI ((K - (k + 1)) + 1) := by
      rw [(DT_dist hDT hs hD).1]
      exact congrArg nI (by omega)
    unfold L_mo_theftStep_86
    refine br_f (nI_nlt (by omega) (by omega)) ?_
    have inner : ∀ (m j : Nat), j + m = d → L_mo_theftStep_96 mw mt mk mpc rm Q (L_mo_theftStep_86 mw mt mk mpc rm Q n) (m + 1) q D g (nI p) (nI i) (nI at_) (nI j) (nI k) := by
      intro m
      induction m with
      | zero =>
        intro j hj
        have : j = d := by omega
        subst this
        unfold L_mo_theftStep_96
        refine s_thenAt hA hm h1 h2 m7 m9 hg hp hVa hd ?_
        rw [hmv2]
        refine br_f (nI_ne9 (by omega)) (s_thenAt hA hm h1 h2 m7 m9 hg hp hVa hd ?_)
        rw [hmv2, show oI (-9) (some t) = nI t from rfl, cl (n := t) (by omega), cl (n := at_) (by omega), hDat, nI_pred]
        refine ⟨vI (by omega) (by omega), vI (by omega) (by omega), br_t (DT_dist hDT hts hDt).1 ?_⟩
        unfold B_mo_theftStep_142
        refine s_thenAt hA hm h1 h2 m7 m9 hg hp hVa hd ?_
        rw [hmv2, show oI (-9) (some t) = nI t from rfl, nI_1]
        exact ih (t, nI j) ⟨8 * e + j, ⟨e, j, at_, hd8, rfl, hG, hmv2, hDt, hleast⟩, fun _ => congrArg nI (by omega)⟩
      | succ m ih2 =>
        intro j hj
        have nxt := ih2 (j + 1) (by omega)
        unfold L_mo_theftStep_96
        rw [nI_1]
        refine s_thenAt hA hm h1 h2 m7 m9 hg hp hVa (by omega) ?_
        cases hmj : hmv a (aPc a p) at_ j with
        | none => exact br_t rfl nxt
        | some t2 =>
          have ht2V := (hmv_some hA hmj).2.2
          obtain ⟨o, -, -, -, -, hV2, -⟩ := ht2V
          have ht2 : t2 < 128 * per a := by have := hV2.1; omega
          refine br_f (nI_ne9 (by omega)) (s_thenAt hA hm h1 h2 m7 m9 hg hp hVa (by omega) ?_)
          rw [hmj, show oI (-9) (some t2) = nI t2 from rfl, cl (n := t2) (by omega), cl (n := at_) (by omega), hDat, nI_pred, DT_iff hDT (by omega) ht2 (by omega)]
          exact ⟨vI (by omega) (by omega), vI (by omega) (by omega), br_f (hleast j t2 (by omega) hmj) nxt⟩
    exact ⟨d + 1, inner d 0 (by omega)⟩
theorem op_theft {gr_width : Int32} {gr_height : Int32} {gr_size : Int32} {gr_kinds : Nat → Int32} {gr_columns : Nat → Int32} {gr_rows : Nat → Int32} {gr_floorCells : Int64} {gr_clearCells : Int64} {gr_standCells : Int64} {gr_firstColumn : Int64} {gr_lastColumn : Int64} {pi_cells : Nat → Int32} {pi_facings : Nat → Int32} {pi_size : Int32} {ro_cells : Nat → Int32} {ro_lengths : Nat → Int32} {ro_shifts : Nat → Int32} {si_sightLaw : Int32} {si_sightRange : Int32} {th_unseen : Nat → Int64} {th_commonLength : Int32} {tr_marks : Nat → Int32} {tr_visited : Nat → Int64} {tr_size : Int32} {mo_wide : Int32} {mo_tall : Int32} {mo_kind : Nat → Int32} {mo_law : Int32} {mo_range : Int32} {mo_queue : Nat → Int32} {mo_pictures : Int32} {mo_pictureCell : Nat → Int32} {mo_facing : Nat → Int32} {mo_roundMany : Nat → Int32} {mo_round : Nat → Int32} {mo_shift : Nat → Int32} {mo_thief : Nat → Int32} {mo_danger : Nat → Int32} (hR : Rel gr_width gr_height gr_size gr_columns gr_rows gr_firstColumn gr_lastColumn gr_kinds gr_floorCells gr_clearCells gr_standCells pi_cells pi_facings pi_size ro_cells ro_lengths ro_shifts si_sightLaw si_sightRange mo_wide mo_tall mo_kind mo_law mo_range mo_pictures mo_pictureCell mo_facing mo_roundMany mo_round mo_shift) (a1 a2 a3 : Int32) : P_wh_theft gr_width gr_height gr_size gr_columns gr_rows gr_floorCells gr_clearCells gr_standCells pi_cells pi_size ro_cells ro_lengths ro_shifts si_sightLaw si_sightRange th_unseen th_commonLength tr_marks tr_visited tr_size a1 a2 a3 (fun r1 th_unseen' th_commonLength' tr_marks' tr_visited' tr_size' => P_mo_theft mo_wide mo_tall mo_kind mo_law mo_range mo_queue mo_pictures mo_pictureCell mo_roundMany mo_round mo_shift mo_thief mo_danger a1 a2 a3 (fun r2 mo_queue' mo_thief' mo_danger' => r1 = r2 ∧ Rel gr_width gr_height gr_size gr_columns gr_rows gr_firstColumn gr_lastColumn gr_kinds gr_floorCells gr_clearCells gr_standCells pi_cells pi_facings pi_size ro_cells ro_lengths ro_shifts si_sightLaw si_sightRange mo_wide mo_tall mo_kind mo_law mo_range mo_pictures mo_pictureCell mo_facing mo_roundMany mo_round mo_shift)) := by
  obtain ⟨a, hA, hGs, hGk, hPi, hRo, hSi, hM⟩ := id hR
  obtain ⟨m1, m2, m3, m4, m5, m6, m7, m8, m9, m10, m11⟩ := id hM
  obtain ⟨hn4, hn⟩ := aN_le hA
  have hnw : aW a * aH a < 1073741824 := by unfold aN at hn; omega
  have hnp : aNp a ≤ 8 := hA.2.2.2.2.2.1
  have hP := per_le hA
  have hP1 := per_pos hA
  unfold P_wh_theft
  refine s_pi hPi.1 (by omega) (brB (fun hf => ?_) (fun ht => ?_))
  · unfold P_mo_theft
    exact s_mayAsk hA m1 m2 m6 (fun _ => br_f (by decide) ⟨rfl, hR⟩) (fun g => by rw [hf] at g; cases g) (fun g => by rw [hf] at g; cases g) (fun g => by rw [hf] at g; cases g)
  · refine s_gc hGs.2.2.1 (by omega) (brB (fun hf2 => ?_) (fun ht2 => ?_))
    · unfold P_mo_theft
      exact s_mayAsk hA m1 m2 m6 (fun g => by rw [ht] at g; cases g) (fun _ _ => br_f (by decide) ⟨rfl, hR⟩) (fun _ g => by rw [hf2] at g; cases g) (fun _ g => by rw [hf2] at g; cases g)
    · refine s_isTime (brB (fun hf3 => ?_) (fun ht3 => ?_))
      · unfold P_mo_theft
        exact s_mayAsk hA m1 m2 m6 (fun g => by rw [ht] at g; cases g) (fun _ g => by rw [ht2] at g; cases g) (fun _ _ _ => br_f (by decide) ⟨rfl, hR⟩) (fun _ _ g => by rw [hf3] at g; cases g)
      · obtain ⟨p, hp, rfl⟩ := isC_of (by omega) ht
        obtain ⟨dr, hdr, rfl⟩ := isC_of (by omega) ht2
        obtain ⟨t, htm, rfl⟩ := isR_of (h := 9999) ht3 (by decide)
        have htg := (hA.2.2.2.2.2.2.1 p hp).1
        have htp : t % per a < per a := Nat.mod_lt _ hP1
        have hb2 := b01 (dr = aPc a p)
        have ref : ∀ (r1 : Int32), (sf a t dr = false → r1 = -9) → (sf a t dr = true → ∀ D, DT (hmv a (aPc a p)) (hgoal a dr) (128 * per a) D → r1 = D (128 * (t % per a) + (2 * dr + (if dr = aPc a p then 1 else 0)))) → P_mo_theft mo_wide mo_tall mo_kind mo_law mo_range mo_queue mo_pictures mo_pictureCell mo_roundMany mo_round mo_shift mo_thief mo_danger (nI p) (nI dr) (nI t) (fun r2 mo_queue' mo_thief' mo_danger' => r1 = r2 ∧ Rel gr_width gr_height gr_size gr_columns gr_rows gr_firstColumn gr_lastColumn gr_kinds gr_floorCells gr_clearCells gr_standCells pi_cells pi_facings pi_size ro_cells ro_lengths ro_shifts si_sightLaw si_sightRange mo_wide mo_tall mo_kind mo_law mo_range mo_pictures mo_pictureCell mo_facing mo_roundMany mo_round mo_shift) := by
          intro r1 hr0 hr1
          unfold P_mo_theft
          refine s_mayAsk hA m1 m2 m6 (fun g => by rw [ht] at g; cases g) (fun _ g => by rw [ht2] at g; cases g) (fun _ _ g => by rw [ht3] at g; cases g) (fun _ _ _ => br_t (by decide) (s_mayBegin hA m3 m1 m4 m5 m9 m10 m11 hdr htm (brB (fun g => ⟨hr0 g, hR⟩) (fun g => s_layTheft hA m3 m1 m2 m4 m5 m7 m9 m10 m11 hp hdr (fun q D gg hgg hDT => s_beginOf hA m7 m9 hp hdr htm ?_)))))
          rw [cl (by omega)]
          exact ⟨vI (by omega) (by omega), hr1 g D hDT, hR⟩
        refine s_thSurvey hA hGs hGk hSi hRo (fun U hU => ?_)
        unfold P_pi_cellOf P_th_lengthOf
        rw [cl (n := p) (by omega), hPi.2.1 p hp]
        refine ⟨vI (by omega) (by omega), s_thSearch hA hGs hGk hU htg hdr htm (fun hsf tm tv ts => s_movesTo1 (ref _ (fun _ => rfl) (fun g => ?_))) (fun hsf hNo tm tv ts => s_movesTo1 (ref _ (fun _ => rfl) (fun g D hDT => ?_))) (fun hsf m k e tm tv ts hB hTC => s_movesTo hTC (ref _ (fun g => ?_) (fun g D hDT => ?_)))⟩
        · rw [sf_per] at hsf; rw [hsf] at g; cases g
        · rcases hDT (128 * (t % per a) + (2 * dr + (if dr = aPc a p then 1 else 0))) (by omega) with ⟨e, -⟩ | ⟨k2, -, e2, -⟩
          · exact e.symm
          · exact absurd e2.1 (NoWay_iff.mp hNo k2)
        · rw [sf_per] at hsf; rw [hsf] at g; cases g
        · exact (DT_dist hDT (by omega) (Best_dist hB)).1.symm
theorem op_theftStep {gr_width : Int32} {gr_height : Int32} {gr_size : Int32} {gr_kinds : Nat → Int32} {gr_columns : Nat → Int32} {gr_rows : Nat → Int32} {gr_floorCells : Int64} {gr_clearCells : Int64} {gr_standCells : Int64} {gr_firstColumn : Int64} {gr_lastColumn : Int64} {pi_cells : Nat → Int32} {pi_facings : Nat → Int32} {pi_size : Int32} {ro_cells : Nat → Int32} {ro_lengths : Nat → Int32} {ro_shifts : Nat → Int32} {si_sightLaw : Int32} {si_sightRange : Int32} {th_unseen : Nat → Int64} {th_commonLength : Int32} {tr_marks : Nat → Int32} {tr_visited : Nat → Int64} {tr_size : Int32} {mo_wide : Int32} {mo_tall : Int32} {mo_kind : Nat → Int32} {mo_law : Int32} {mo_range : Int32} {mo_queue : Nat → Int32} {mo_pictures : Int32} {mo_pictureCell : Nat → Int32} {mo_facing : Nat → Int32} {mo_roundMany : Nat → Int32} {mo_round : Nat → Int32} {mo_shift : Nat → Int32} {mo_thief : Nat → Int32} {mo_danger : Nat → Int32} (hR : Rel gr_width gr_height gr_size gr_columns gr_rows gr_firstColumn gr_lastColumn gr_kinds gr_floorCells gr_clearCells gr_standCells pi_cells pi_facings pi_size ro_cells ro_lengths ro_shifts si_sightLaw si_sightRange mo_wide mo_tall mo_kind mo_law mo_range mo_pictures mo_pictureCell mo_facing mo_roundMany mo_round mo_shift) (a1 a2 a3 a4 : Int32) : P_wh_theftStep gr_width gr_height gr_size gr_columns gr_rows gr_floorCells gr_clearCells gr_standCells pi_cells pi_size ro_cells ro_lengths ro_shifts si_sightLaw si_sightRange th_unseen th_commonLength tr_marks tr_visited tr_size a1 a2 a3 a4 (fun r1 th_unseen' th_commonLength' tr_marks' tr_visited' tr_size' => P_mo_theftStep mo_wide mo_tall mo_kind mo_law mo_range mo_queue mo_pictures mo_pictureCell mo_roundMany mo_round mo_shift mo_thief mo_danger a1 a2 a3 a4 (fun r2 mo_queue' mo_thief' mo_danger' => r1 = r2 ∧ Rel gr_width gr_height gr_size gr_columns gr_rows gr_firstColumn gr_lastColumn gr_kinds gr_floorCells gr_clearCells gr_standCells pi_cells pi_facings pi_size ro_cells ro_lengths ro_shifts si_sightLaw si_sightRange mo_wide mo_tall mo_kind mo_law mo_range mo_pictures mo_pictureCell mo_facing mo_roundMany mo_round mo_shift)) := by
  obtain ⟨a, hA, hGs, hGk, hPi, hRo, hSi, hM⟩ := id hR
  obtain ⟨m1, m2, m3, m4, m5, m6, m7, m8, m9, m10, m11⟩ := id hM
  obtain ⟨hn4, hn⟩ := aN_le hA
  have hnw : aW a * aH a < 1073741824 := by unfold aN at hn; omega
  have hnp : aNp a ≤ 8 := hA.2.2.2.2.2.1
  have hP := per_le hA
  have hP1 := per_pos hA
  unfold P_wh_theftStep
  refine s_pi hPi.1 (by omega) (brB (fun hf => ?_) (fun ht => ?_))
  · unfold P_mo_theftStep
    exact s_mayAsk hA m1 m2 m6 (fun _ => br_f (by decide) ⟨rfl, hR⟩) (fun g => by rw [hf] at g; cases g) (fun g => by rw [hf] at g; cases g) (fun g => by rw [hf] at g; cases g)
  · refine s_gc hGs.2.2.1 (by omega) (brB (fun hf2 => ?_) (fun ht2 => ?_))
    · unfold P_mo_theftStep
      exact s_mayAsk hA m1 m2 m6 (fun g => by rw [ht] at g; cases g) (fun _ _ => br_f (by decide) ⟨rfl, hR⟩) (fun _ g => by rw [hf2] at g; cases g) (fun _ g => by rw [hf2] at g; cases g)
    · refine s_isTime (brB (fun hf3 => ?_) (fun ht3 => ?_))
      · unfold P_mo_theftStep
        exact s_mayAsk hA m1 m2 m6 (fun g => by rw [ht] at g; cases g) (fun _ g => by rw [ht2] at g; cases g) (fun _ _ _ => br_f (by decide) ⟨rfl, hR⟩) (fun _ _ g => by rw [hf3] at g; cases g)
      · obtain ⟨p, hp, rfl⟩ := isC_of (by omega) ht
        obtain ⟨dr, hdr, rfl⟩ := isC_of (by omega) ht2
        obtain ⟨t, htm, rfl⟩ := isR_of (h := 9999) ht3 (by decide)
        have htg := (hA.2.2.2.2.2.2.1 p hp).1
        have htp : t % per a < per a := Nat.mod_lt _ hP1
        have hb2 := b01 (dr = aPc a p)
        have ref : ∀ {Q : Int32 → (Nat → Int32) → (Nat → Int32) → (Nat → Int32) → Prop}, (sf a t dr = false → ∀ q D g, Q (-9) q D g) → (sf a t dr = true → ∀ q D g, (∀ t c, t < per a → c < aN a → g (64 * t + c) = bI (wtd a c t)) → DT (hmv a (aPc a p)) (hgoal a dr) (128 * per a) D → (D (128 * (t % per a) + (2 * dr + (if dr = aPc a p then 1 else 0))) = -9 → Q (-9) q D g) ∧ (¬ D (128 * (t % per a) + (2 * dr + (if dr = aPc a p then 1 else 0))) = -9 → P_mo_in (Int32.toInt64 a4) 0 (Int32.toInt64 (D (128 * (t % per a) + (2 * dr + (if dr = aPc a p then 1 else 0))) - 1)) (fun r70 => (r70 = 0 → Q (-9) q D g) ∧ (¬ r70 = 0 → ∃ n : Nat, L_mo_theftStep_86 mo_wide mo_tall mo_kind mo_pictureCell mo_roundMany Q n q D g (nI p) a4 (nI (128 * (t % per a) + (2 * dr + (if dr = aPc a p then 1 else 0)))) (-9) 0)))) → P_mo_theftStep mo_wide mo_tall mo_kind mo_law mo_range mo_queue mo_pictures mo_pictureCell mo_roundMany mo_round mo_shift mo_thief mo_danger (nI p) (nI dr) (nI t) a4 Q := by
          intro Q hr0 hr1
          unfold P_mo_theftStep
          refine s_mayAsk hA m1 m2 m6 (fun g => by rw [ht] at g; cases g) (fun _ g => by rw [ht2] at g; cases g) (fun _ _ g => by rw [ht3] at g; cases g) (fun _ _ _ => br_t (by decide) (s_mayBegin hA m3 m1 m4 m5 m9 m10 m11 hdr htm (brB (fun g => hr0 g _ _ _) (fun g => s_layTheft hA m3 m1 m2 m4 m5 m7 m9 m10 m11 hp hdr (fun q D gg hgg hDT => s_beginOf hA m7 m9 hp hdr htm ?_)))))
          rw [cl (by omega)]
          obtain ⟨q1, q2⟩ := hr1 g q D gg hgg hDT
          exact ⟨vI (by omega) (by omega), q1, fun e => ⟨vI (by omega) (by omega), q2 e⟩⟩
        refine s_thSurvey hA hGs hGk hSi hRo (fun U hU => ?_)
        unfold P_pi_cellOf P_th_moveOf
        rw [cl (n := p) (by omega), hPi.2.1 p hp]
        refine ⟨vI (by omega) (by omega), s_thSearch hA hGs hGk hU htg hdr htm (fun hsf tm tv ts => s_moveTo1 (ref (fun _ _ _ _ => ⟨rfl, hR⟩) (fun g => ?_))) (fun hsf hNo tm tv ts => s_moveTo1 (ref (fun _ _ _ _ => ⟨rfl, hR⟩) (fun g q D gg hgg hDT => ?_))) (fun hsf m k e tm tv ts hB hTC => ?_)⟩
        · rw [sf_per] at hsf; rw [hsf] at g; cases g
        · rcases hDT (128 * (t % per a) + (2 * dr + (if dr = aPc a p then 1 else 0))) (by omega) with ⟨e, -⟩ | ⟨k2, -, e2, -⟩
          · exact ⟨fun _ => ⟨rfl, hR⟩, fun q => absurd e q⟩
          · exact absurd e2.1 (NoWay_iff.mp hNo k2)
        · rw [sf_per] at hsf
          have core : ∀ D, DT (hmv a (aPc a p)) (hgoal a dr) (128 * per a) D → D (128 * (t % per a) + (2 * dr + (if dr = aPc a p then 1 else 0))) = nI k ∧ k < 128 * per a := fun D hDT => DT_dist hDT (by omega) (Best_dist hB)
          have hin : ∀ {Q : Int32 → Prop}, k < 16384 → Q (bI (isC k a4)) → P_mo_in (Int32.toInt64 a4) 0 (Int32.toInt64 (nI k - 1)) Q := by
            intro Q hk hQ
            refine s_in (l := 0) (h := (k : Int) - 1) rfl (by rw [w64, m1T (by omega)]) ?_
            have : isR 0 ((k : Int) - 1) a4 = isC k a4 := by
              unfold isR isC
              exact decide_eq_decide.mpr (by omega)
            rw [this]; exact hQ
          refine s_moveTo hTC (fun hno => ref (fun g => by rw [hsf] at g; cases g) (fun g q D gg hgg hDT => ?_)) (fun i hi hx => ref (fun g => by rw [hsf] at g; cases g) (fun g q D gg hgg hDT => ?_))
          · obtain ⟨c1, c2⟩ := core D hDT
            rw [c1]
            exact ⟨fun q => absurd q (nI_ne9 (by omega)), fun _ => hin (by omega) (brF hno ⟨rfl, hR⟩)⟩
          · obtain ⟨c1, c2⟩ := core D hDT
            rw [c1]
            refine ⟨fun q => absurd q (nI_ne9 (by omega)), fun _ => hin (by omega) (brT (by rw [hx]; exact isC_n hi (by omega)) ?_)⟩
            rw [hx]
            exact s_mtheftSteps hA m3 m1 m2 m7 m9 hgg hp hDT hB c2 hi ⟨rfl, hR⟩
