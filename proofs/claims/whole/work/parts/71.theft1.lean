theorem s_after {a : Abs} (hA : AOk a) {t : Nat} {Q : Int32 → Prop} (ht : t < per a) (h : Q (nI ((t + 1) % per a))) : P_th_after (nI (per a)) (nI t) Q := by
  have hP := per_le hA
  unfold P_th_after
  rw [nI_1 t]
  rcases Nat.lt_or_ge (t + 1) (per a) with g | g
  · rw [Nat.mod_eq_of_lt g] at h
    exact br_f (nI_ge g (by omega)) h
  · have : t + 1 = per a := by omega
    rw [this, Nat.mod_self] at h
    exact br_t (nI_le g (by omega)) h
theorem s_layerFor {a : Abs} {t : Nat} {b : Bool} {Q : Int32 → Prop} (h : Q (nI (t + (if b = true then 1 else 0) * per a))) : P_th_layerFor (nI (per a)) (bI b) (nI t) Q := by
  unfold P_th_layerFor
  refine brB (fun hf => ?_) (fun ht => ?_)
  · rw [hf, if_neg (by decide), Nat.zero_mul, Nat.add_zero] at h
    exact h
  · rw [ht, if_pos rfl, Nat.one_mul, Nat.add_comm] at h
    rw [nI_add]
    exact h
theorem s_goOn {a : Abs} {gw gh gz : Int32} {gc gr gk : Nat → Int32} {fc lc f c2 st : Int64} {U : Nat → Int64} {tg dr S0 many mark C e : Nat} {marks : Nat → Int32} {visited : Nat → Int64} {Q : (Nat → Int32) → (Nat → Int64) → Int32 → Prop} (hA : AOk a) (hs : IGs a gw gh gz gc gr fc lc) (hk : IGk a gk f c2 st) (hU : ∀ t q, t < per a → q < 64 → bt (U t) q = sf a t q) (htg : tg < aN a) (B : TI (hmv a tg) S0 (hgoal a dr) (hlay a) hcel (hV a) marks visited many mark C e 0) (h : ∀ marks' visited' many', TI (hmv a tg) S0 (hgoal a dr) (hlay a) hcel (hV a) marks' visited' many' mark C e 5 → Q marks' visited' (nI many')) : P_th_goOn gw gh gc gr st U (nI (per a)) marks visited (nI many) (nI mark) (bI (decide (C % 2 = 1))) (nI ((C / 128 + 1) % per a)) (nI tg) Q := by
  obtain ⟨-, hn⟩ := aN_le hA
  have hP := per_le hA
  have hP1 := per_pos hA
  have hE := hEnc hA
  have ht' : (C / 128 + 1) % per a < per a := Nat.mod_lt _ hP1
  unfold P_th_goOn
  refine cnt0 (fun n d (z : (Nat → Int32) × (Nat → Int64) × Nat) => L_th_goOn_3 gw gh gc gr st U (nI (per a)) Q n z.1 z.2.1 (nI z.2.2) (nI mark) (bI (decide (C % 2 = 1))) (nI ((C / 128 + 1) % per a)) (nI tg) (nI d)) 5 (fun d z => TI (hmv a tg) S0 (hgoal a dr) (hlay a) hcel (hV a) z.1 z.2.1 z.2.2 mark C e d) (marks, visited, many) B ?_ ?_
  · rintro n ⟨mk', vs', many'⟩ hB
    unfold L_th_goOn_3
    exact br_t (nI_le (a := 5) (b := 5) (Nat.le_refl _) (by omega)) (h mk' vs' many' hB)
  · rintro n d ⟨mk', vs', many'⟩ hd hB ih
    obtain ⟨hVC, k1, k2, r1, r2⟩ := TI_at hE hB
    simp only at k1 k2 r1 r2
    have r1 : mk' mark &&& (63 : Int32) = nI (C % 128 / 2) := r1
    have hsf := sf_iff.mp hVC.2
    unfold L_th_goOn_3 P_tr_cellAt
    simp only
    rw [nI_1 d, cl (n := mark) (by omega), r1, cl (n := (C / 128 + 1) % per a) (by omega)]
    refine br_f (nI_ge (b := 5) hd (by omega)) ⟨vI (by omega) (by omega), s_placeAfter hA hs hk hsf.1 hd ?_⟩
    cases hsd : stp a (C % 128 / 2) d with
    | none =>
      refine br_t rfl (ih (_, _, _) (TI_skip hB ?_))
      unfold hmv
      rw [if_pos ⟨hVC.1, hVC.2, hd⟩, hsd]
    | some o =>
      have ho := (stp_some hsd).1
      refine br_f (nI_ne1 (by omega)) ⟨vI (by omega) (by omega), ?_⟩
      rw [show oI (-1) (some o) = nI o from rfl]
      refine s_holds (by omega) ?_
      rw [hU _ o ht' (by omega)]
      refine brB (fun hf => ih (_, _, _) (TI_skip hB ?_)) (fun ht => ?_)
      · unfold hmv
        rw [if_pos ⟨hVC.1, hVC.2, hd⟩, hsd]
        simp only
        rw [if_neg (by rw [hf]; decide)]
      · have hmvv : hmv a tg C d = some (128 * ((C / 128 + 1) % per a) + (2 * o + (if C % 2 = 1 ∨ o = tg then 1 else 0))) := by
          unfold hmv
          rw [if_pos ⟨hVC.1, hVC.2, hd⟩, hsd]
          simp only
          rw [if_pos ht]
        obtain ⟨-, -, o2, -, -, -, -, hV2, e1, e2, e3⟩ := hmv_some hA hmvv
        have q := hst (t := (C / 128 + 1) % per a) (c := o) (h := if C % 2 = 1 ∨ o = tg then 1 else 0) (by omega) (b01 _)
        have fin : ∀ bb : Bool, (bb = true ↔ (C % 2 = 1 ∨ o = tg)) → B_th_goOn_69 gw gh gc gr st U (nI (per a)) Q (L_th_goOn_3 gw gh gc gr st U (nI (per a)) Q n) mk' vs' (nI many') (nI mark) (bI (decide (C % 2 = 1))) (nI ((C / 128 + 1) % per a)) (nI tg) (nI d) (nI o) (bI bb) := by
          intro bb hbb
          unfold B_th_goOn_69
          refine s_layerFor ?_
          rw [nI_1 d]
          refine TI_visit hE hB (by omega) hmvv hV2 ?_ ?_ (fun m' v' k' hTI' => ih (m', v', k') hTI')
          · unfold hlay
            rw [q.1, q.2.2]
            by_cases g : C % 2 = 1 ∨ o = tg
            · rw [if_pos g, if_pos (hbb.mpr g)]
            · rw [if_neg g, if_neg (fun z => g (hbb.mp z))]
          · unfold hcel
            rw [q.2.1]
        refine brB (fun g => ?_) (fun g => fin true (by simp at g; simp [g]))
        have g' : ¬ C % 2 = 1 := of_decide_eq_false g
        rw [nI_eq (by omega) (by omega)]
        refine ⟨fun g2 => fin true (by simp [g2]), fun g2 => fin false (by simp [g', g2])⟩
theorem s_thSearch {a : Abs} {gw gh gz ts : Int32} {gc gr gk tm : Nat → Int32} {tv U : Nat → Int64} {fc lc f c2 st : Int64} {tg dr t : Nat} {Q : Int32 → (Nat → Int32) → (Nat → Int64) → Int32 → Prop} (hA : AOk a) (hs : IGs a gw gh gz gc gr fc lc) (hk : IGk a gk f c2 st) (hU : ∀ t q, t < per a → q < 64 → bt (U t) q = sf a t q) (htg : tg < aN a) (hdr : dr < aN a) (ht : t ≤ 9999)
    (hN0 : sf a (t % per a) dr = false → ∀ tm tv ts, Q (-1) tm tv ts) (hN : sf a (t % per a) dr = true → NoWay (hmv a tg) (128 * (t % per a) + (2 * dr + (if dr = tg then 1 else 0))) (hgoal a dr) → ∀ tm tv ts, Q (-1) tm tv ts) (hY : sf a (t % per a) dr = true → ∀ m k e tm tv ts, Best (hmv a tg) (128 * (t % per a) + (2 * dr + (if dr = tg then 1 else 0))) (hgoal a dr) k e → TC tm m k e → Q (nI m) tm tv ts) : P_th_search gw gh gc gr st U (nI (per a)) tm tv ts (nI tg) (nI dr) (nI t) Q := by
  obtain ⟨-, hn⟩ := aN_le hA
  have hP := per_le hA
  have hP1 := per_pos hA
  have hE := hEnc hA
  have htp : t % per a < per a := Nat.mod_lt _ hP1
  have emax : (if (1 : Int32) < nI (per a) then nI (per a) else 1) = nI (per a) := by
    by_cases g : 1 < per a
    · exact if_pos (nI_lt (a := 1) g (by omega))
    · have : per a = 1 := by omega
      rw [this]; rfl
  unfold P_th_search P_tr_clear
  rw [emax, pk_rem (by omega) hP1 (by omega)]
  refine ⟨nI_ne0 hP1 (by omega), ?_⟩
  rintro _ rfl
  rw [cl (n := t % per a) (by omega)]
  refine ⟨vI (by omega) (by omega), s_holds (by omega) ?_⟩
  rw [hU _ dr htp (by omega)]
  refine brB (fun hf => ⟨1, ?_⟩) (fun hsf => ?_)
  · unfold L_th_search_62 P_tr_size
    exact br_f (by decide) (br_t (by decide) (hN0 hf _ _ _))
  · have q0 := hst (t := t % per a) (c := dr) (h := if dr = tg then 1 else 0) (by omega) (b01 _)
    have hV0 : hV a (128 * (t % per a) + (2 * dr + (if dr = tg then 1 else 0))) := ⟨by rw [q0.1]; exact htp, by rw [q0.1, q0.2.1]; exact hsf⟩
    have outer : ∀ (n mark many : Nat) (marks : Nat → Int32) (visited : Nat → Int64), 16384 - mark < n → TO (hmv a tg) (128 * (t % per a) + (2 * dr + (if dr = tg then 1 else 0))) (hgoal a dr) (hlay a) hcel (hV a) marks visited many mark → L_th_search_62 gw gh gc gr st U (nI (per a)) Q n marks visited (nI many) (nI tg) (nI dr) (nI mark) := by
      intro n
      induction n with
      | zero => intro mark many marks visited hx; omega
      | succ n ih =>
        intro mark many marks visited hx hTO
        have hml : mark ≤ many ∧ many ≤ 16384 := by
          obtain ⟨_, _, _, _, _, B, h1, -⟩ := hTO
          exact ⟨h1, TR_le hE B⟩
        unfold L_th_search_62 P_tr_size
        rcases Nat.lt_or_ge mark many with hmk | hmk
        · obtain ⟨C, e, hTI⟩ := TI_start hTO hmk
          obtain ⟨hVC, -, -, r1, r2⟩ := TI_at hE hTI
          have hsf2 := sf_iff.mp hVC.2
          have hC1 := hVC.1
          have hlayC : hlay a C = C / 128 + C % 2 * per a := rfl
          have rd : ∀ {Q : Int32 → Prop}, Q (nI (hlay a C)) → P_tr_layerAt marks (nI mark) Q := by
            intro Q hQ
            unfold P_tr_layerAt
            rw [cl (n := mark) (by omega), r2]
            exact ⟨vI (by omega) (by omega), hQ⟩
          have rdc : ∀ {Q : Int32 → Prop}, Q (nI (C % 128 / 2)) → P_tr_cellAt marks (nI mark) Q := by
            intro Q hQ
            unfold P_tr_cellAt
            rw [cl (n := mark) (by omega), r1]
            exact ⟨vI (by omega) (by omega), hQ⟩
          refine br_f (nI_ge (b := 16384) (by omega) (by omega)) (br_f (nI_ge hmk (by omega)) (rd ?_))
          have h148 : ¬ hgoal a dr C → ∀ y0 y1 : Int32, y0 - y1 = nI (C / 128) → B_th_search_148 gw gh gc gr st U (nI (per a)) Q (L_th_search_62 gw gh gc gr st U (nI (per a)) Q n) marks visited (nI many) (nI tg) (nI dr) (nI mark) (bI (decide (C % 2 = 1))) y0 y1 := by
            intro hng y0 y1 hy
            unfold B_th_search_148
            rintro _ rfl
            rw [hy]
            refine s_after hA hC1 (s_goOn hA hs hk hU htg hTI (fun m' v' k' hB => ?_))
            rw [nI_1 mark]
            refine ih _ _ _ _ (by omega) (TI_end hB (by omega) (fun d' hd' => ?_) hng)
            unfold hmv
            rw [if_neg (by omega)]
          have h126 : ¬ hgoal a dr C → B_th_search_126 gw gh gc gr st U (nI (per a)) Q (L_th_search_62 gw gh gc gr st U (nI (per a)) Q n) marks visited (nI many) (nI tg) (nI dr) (nI mark) (bI (decide (C % 2 = 1))) := by
            intro hng
            unfold B_th_search_126
            refine rd (brB (fun g => h148 hng _ _ ?_) (fun g => h148 hng _ _ ?_))
            · have g' : ¬ C % 2 = 1 := of_decide_eq_false g
              rw [hlayC, show C % 2 = 0 by omega, Nat.zero_mul, Nat.add_zero, show (0 : Int32) = nI 0 from rfl, pk_sub (by omega)]
              rfl
            · have g' : C % 2 = 1 := of_decide_eq_true g
              rw [hlayC, g', Nat.one_mul, pk_sub (by omega)]
              exact congrArg nI (by omega)
          have h103 : ∀ bb : Bool, bb = decide (C % 2 = 1) → B_th_search_103 gw gh gc gr st U (nI (per a)) Q (L_th_search_62 gw gh gc gr st U (nI (per a)) Q n) marks visited (nI many) (nI tg) (nI dr) (nI mark) (bI bb) := by
            rintro _ rfl
            unfold B_th_search_103
            refine brB (fun g => h126 (fun hg => ?_)) (fun g => rdc ?_)
            · exact (of_decide_eq_false g) hg.2.2.2
            · have z1 : nI (C % 128 / 2) = nI dr ↔ C % 128 / 2 = dr := nI_eq (by omega) (by omega)
              rw [z1]
              refine ⟨fun g2 => ?_, fun g2 => h126 (fun hg => g2 hg.2.2.1)⟩
              have hg : hgoal a dr C := ⟨hC1, hVC.2, g2, of_decide_eq_true g⟩
              obtain ⟨k, hB, hTC⟩ := TI_goal hE hTI hg
              exact hY hsf mark k e marks visited _ hB hTC
          rw [nI_ltI (by have := (hE.1 C hVC).1; omega) (by omega)]
          refine ⟨fun g => h103 false ?_, fun g => h103 true ?_⟩
          · rw [hlayC] at g
            refine (decide_eq_false (fun z => ?_)).symm
            rw [z] at g
            omega
          · rw [hlayC] at g
            refine (decide_eq_true ?_).symm
            rcases Nat.mod_two_eq_zero_or_one C with z | z
            · rw [z] at g; omega
            · exact z
        · have hN' := TO_none hTO hmk
          rcases Nat.lt_or_ge mark 16384 with g | g
          · exact br_f (nI_ge (b := 16384) g (by omega)) (br_t (nI_le hmk (by omega)) (hN hsf hN' _ _ _))
          · exact br_t (nI_le (a := 16384) g (by omega)) (hN hsf hN' _ _ _)
    have h48 : ∀ bb : Bool, bb = decide (dr = tg) → B_th_search_48 gw gh gc gr st U (nI (per a)) Q tm (filll 256 (0 : Int64) tv) 0 (nI tg) (nI dr) (nI (t % per a)) (bI bb) := by
      rintro _ rfl
      unfold B_th_search_48
      refine s_layerFor (TO_first (mv := hmv a tg) (goal := hgoal a dr) hE hV0 ?_ ?_ (fun l hl => filll_z hl) (fun marks visited hTO => ⟨16385, outer 16385 0 1 marks visited (by omega) hTO⟩))
      · unfold hlay
        rw [q0.1, q0.2.2]
        simp only [decide_eq_true_eq]
      · unfold hcel
        rw [q0.2.1]
    rw [nI_eq (by omega) (by omega)]
    exact ⟨fun g => h48 true (by simp [g]), fun g => h48 false (by simp [g])⟩
