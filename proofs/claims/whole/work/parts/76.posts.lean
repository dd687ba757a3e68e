theorem and_p2 (y b : Nat) : y &&& 2 ^ b = if y.testBit b = true then 2 ^ b else 0 := by
  apply Nat.eq_of_testBit_eq
  intro j
  rw [Nat.testBit_and, Nat.testBit_two_pow]
  by_cases e : b = j
  · subst e
    cases y.testBit b <;> simp
  · have : ((if y.testBit b = true then 2 ^ b else 0 : Nat)).testBit j = false := by
      split
      · rw [Nat.testBit_two_pow]; simp [e]
      · simp
    rw [this]
    simp [e]
noncomputable def nvA (a : Abs) (S : Nat) : Nat := nv (sFrom a) (aN a) S
theorem nvA_le {a : Abs} (hA : AOk a) {S : Nat} (hS : S < 256) : nvA a S ≤ 99 := by
  obtain ⟨hn4, -⟩ := aN_le hA
  rcases nv_spec (f := sFrom a) (N := aN a) (S := S) (by omega) hS with ⟨h, -⟩ | ⟨h, -⟩
  · unfold nvA; omega
  · unfold nvA; omega
theorem s_needOf {a : Abs} {gz : Int32} {pt nd : Nat → Int32} {S : Nat} {Q : Int32 → Prop} (hA : AOk a) (hz : gz = nI (aN a)) (hpt : ∀ c, c < aN a → pt c = nI (sFrom a c)) (h0 : 0 < S) (hS : S < 2 ^ aNp a) (hnd : ∀ S', S' < S → nd S' = nI (nvA a S')) (h : Q (nI (nvA a S))) : P_po_needOf gz pt nd (nI S) Q := by
  obtain ⟨hn4, hn⟩ := aN_le hA
  have hp2 := p2_le hA.2.2.2.2.2.1
  obtain ⟨b, hb1, hb2⟩ := low_dec ⟨S, by omega⟩ h0
  simp only at hb1 hb2
  have hmn := mn_nv (f := sFrom a) (N := aN a) (S := S) (b := b.val) (by omega) (by omega) hb2
  unfold P_po_needOf
  rintro _ rfl
  rw [hb1]
  refine cnt0 (fun n i (s : Int32) => L_po_needOf_11 gz pt nd Q n (nI S) (nI (2 ^ b.val)) s (nI i)) (aN a) (fun i s => s = nI (mn (sFrom a) (aN a) S b.val i)) 99 rfl ?_ ?_
  · rintro n _ rfl
    unfold L_po_needOf_11 P_gr_size
    rw [hz, hmn]
    exact br_t (nI_le (Nat.le_refl _) (by omega)) h
  · rintro n i _ hi rfl ih
    have hFi := sFrom_lt hA i
    have hml := mn_le (sFrom a) (aN a) S b.val i
    unfold L_po_needOf_11 P_gr_size
    rw [nI_1 i]
    refine br_f (by rw [hz]; exact nI_ge hi (by omega)) (s_setAt (by omega) (hpt i hi) ?_)
    rw [nI_and, and_p2, sdf_i]
    have hle := sdf_le S (sFrom a i)
    rw [cl (n := sdf S (sFrom a i)) (by omega)]
    cases htb : (sFrom a i).testBit b.val with
    | false =>
      refine br_t (by rw [if_neg (by decide)]; rfl) (ih _ ?_)
      show _ = nI (if (sFrom a i).testBit b.val = true then _ else _)
      rw [if_neg (by rw [htb]; decide)]
    | true =>
      have hlt := sdf_lt hb2 htb
      have hb8 : 2 ^ b.val ≤ 256 := p2_le (by omega)
      have hbp : 0 < 2 ^ b.val := Nat.two_pow_pos _
      have hv := nvA_le hA (S := sdf S (sFrom a i)) (by omega)
      refine br_f (by rw [if_pos rfl]; exact nI_ne0 hbp (by omega)) ⟨vI (by omega) (by omega), ?_⟩
      rw [hnd _ hlt, nI_1]
      rintro _ rfl
      refine ih _ ?_
      show _ = nI (if (sFrom a i).testBit b.val = true then min (mn (sFrom a) (aN a) S b.val i) (nvA a (sdf S (sFrom a i)) + 1) else _)
      rw [if_pos htb]
      exact min_i (by omega) (by omega)
theorem s_weigh {a : Abs} {gz ps : Int32} {pt nd : Nat → Int32} {Q : (Nat → Int32) → Prop} (hA : AOk a) (hz : gz = nI (aN a)) (hps : ps = nI (aNp a)) (hpt : ∀ c, c < aN a → pt c = nI (sFrom a c)) (h : ∀ nd, (∀ S, S < 2 ^ aNp a → nd S = nI (nvA a S)) → Q nd) : P_po_weigh gz pt ps nd Q := by
  have hp2 := p2_le hA.2.2.2.2.2.1
  have hp0 := Nat.two_pow_pos (aNp a)
  unfold P_po_weigh
  refine ⟨vI (n := 0) (by omega) (by omega), 2 ^ aNp a - 1 + 1, ?_⟩
  refine cnt (fun n i (s : Nat → Int32) => L_po_weigh_9 gz pt ps Q n s (nI i)) (2 ^ aNp a) (fun i s => 1 ≤ i ∧ ∀ S, S < i → s S = nI (nvA a S)) ?_ ?_ (2 ^ aNp a - 1) 1 _ (by omega) ⟨Nat.le_refl _, fun S hS => ?_⟩
  · intro n s hI
    unfold L_po_weigh_9
    exact s_piall hA hps (br_t (nI_lt (by omega) (by omega)) (h s hI.2))
  · rintro n i s hi ⟨z, hI⟩ ih
    unfold L_po_weigh_9
    rw [nI_1 i]
    refine s_piall hA hps (br_f (nI_nlt (by omega) (by omega)) ?_)
    refine s_needOf hA hz hpt z hi hI ⟨vI (by omega) (by omega), ?_⟩
    rw [cl (n := i) (by omega)]
    refine ih _ ⟨by omega, fun S hS => ?_⟩
    by_cases e : S = i
    · subst e; rw [u_s]
    · rw [u_n e]; exact hI S (by omega)
  · have : S = 0 := by omega
    subst this
    refine u_s.trans ?_
    unfold nvA
    rw [nv_0]
    rfl
theorem s_poSize {a : Abs} {ps : Int32} {nd : Nat → Int32} {Q : Int32 → Prop} (hA : AOk a) (hps : ps = nI (aNp a)) (hnd : ∀ S, S < 2 ^ aNp a → nd S = nI (nvA a S)) (hy : ∀ K, K ≤ 8 → Nd (sFrom a) (aN a) (2 ^ aNp a - 1) K → Q (nI K)) (hn : (∀ k, ¬ Cv (sFrom a) (aN a) 0 k (2 ^ aNp a - 1)) → Q (-9)) : P_po_size ps nd Q := by
  obtain ⟨hn4, -⟩ := aN_le hA
  have hp2 := p2_le hA.2.2.2.2.2.1
  have hp0 := Nat.two_pow_pos (aNp a)
  unfold P_po_size
  refine s_piall hA hps ⟨vI (by omega) (by omega), ?_⟩
  rw [cl (n := 2 ^ aNp a - 1) (by omega), hnd _ (by omega)]
  rintro _ rfl
  rcases nv_spec (f := sFrom a) (N := aN a) (S := 2 ^ aNp a - 1) (by omega) (by omega) with ⟨h1, h2⟩ | ⟨h1, h2⟩
  · exact br_t (nI_le (b := 8) h1 (by omega)) (hy _ h1 h2)
  · unfold nvA
    rw [h1]
    exact br_f (by decide) (hn h2)
theorem s_leastHelper {a : Abs} {gz : Int32} {pt nd : Nat → Int32} {S r : Nat} {Q : Int32 → Prop} (hA : AOk a) (hz : gz = nI (aN a)) (hpt : ∀ c, c < aN a → pt c = nI (sFrom a c)) (hnd : ∀ S, S < 2 ^ aNp a → nd S = nI (nvA a S)) (hS : S < 2 ^ aNp a) (hr : r < 8) (hN : Nd (sFrom a) (aN a) S (r + 1)) (h : ∀ c, c < aN a → Hp (sFrom a) (aN a) S (r + 1) c → (∀ c', c' < c → ¬ Hp (sFrom a) (aN a) S (r + 1) c') → Q (nI c)) : P_po_leastHelper gz pt nd (nI S) Q := by
  obtain ⟨hn4, hn⟩ := aN_le hA
  have hp2 := p2_le hA.2.2.2.2.2.1
  have hnS : nd S = nI (r + 1) := by
    rw [hnd S hS]
    unfold nvA
    rw [nv_y hN]
  unfold P_po_leastHelper
  refine cnt0 (fun n i (_ : Unit) => L_po_leastHelper_2 gz pt nd Q n (nI S) (nI i)) (aN a) (fun i _ => ∀ c', c' < i → ¬ Hp (sFrom a) (aN a) S (r + 1) c') () (fun c' hc' => absurd hc' (Nat.not_lt_zero _)) ?_ ?_
  · intro n _ hI
    obtain ⟨c, h1, h2⟩ := Hp_ex hN
    exact absurd h2 (hI c h1)
  · intro n i _ hi hI ih
    have hle := sdf_le S (sFrom a i)
    have hv := nvA_le hA (S := sdf S (sFrom a i)) (by omega)
    unfold L_po_leastHelper_2 P_gr_size
    rw [nI_1 i]
    refine br_f (by rw [hz]; exact nI_ge hi (by omega)) (s_setAt (by omega) (hpt i hi) ?_)
    rw [sdf_i, cl (n := sdf S (sFrom a i)) (by omega), cl (n := S) (by omega), hnS, hnd _ (by omega), nI_pred, nI_eq (by omega) (by omega)]
    refine ⟨vI (by omega) (by omega), vI (by omega) (by omega), fun e => ?_, fun e => ih () (fun c' hc' => ?_)⟩
    · have := (nv_iff (f := sFrom a) (N := aN a) (S := sdf S (sFrom a i)) (k := r) (by omega) (by omega) (by omega)).mp e
      exact h i hi ⟨r, rfl, this⟩ hI
    · rcases Nat.lt_or_ge c' i with q | q
      · exact hI c' q
      · have : c' = i := by omega
        subst this
        rintro ⟨r', e2, h2⟩
        have : r' = r := by omega
        subst this
        exact e (nv_y h2)
theorem s_poCellOf {a : Abs} {gz ps x : Int32} {pt nd : Nat → Int32} {Q : Int32 → Prop} (hA : AOk a) (hz : gz = nI (aN a)) (hps : ps = nI (aNp a)) (hpt : ∀ c, c < aN a → pt c = nI (sFrom a c)) (hnd : ∀ S, S < 2 ^ aNp a → nd S = nI (nvA a S)) (hno : (∀ k, ¬ Cv (sFrom a) (aN a) 0 k (2 ^ aNp a - 1)) → Q (-9)) (hout : ∀ K, K ≤ 8 → Nd (sFrom a) (aN a) (2 ^ aNp a - 1) K → isC K x = false → Q (-9)) (hin : ∀ K i c, K ≤ 8 → Nd (sFrom a) (aN a) (2 ^ aNp a - 1) K → i < K → x = nI i → Pst (sFrom a) (aN a) (2 ^ aNp a - 1) K i c → Q (nI c)) : P_po_cellOf gz pt ps nd x Q := by
  obtain ⟨hn4, hn⟩ := aN_le hA
  have hp2 := p2_le hA.2.2.2.2.2.1
  have hp0 := Nat.two_pow_pos (aNp a)
  unfold P_po_cellOf
  refine ⟨fun hx => ?_, fun hx => s_poSize hA hps hnd (fun K hK hN => ?_) (fun hn2 => ?_)⟩
  · rcases nv_spec (f := sFrom a) (N := aN a) (S := 2 ^ aNp a - 1) (by omega) (by omega) with ⟨h1, h2⟩ | ⟨h1, h2⟩
    · rw [ltz] at hx
      exact hout _ h1 h2 (decide_eq_false (by omega))
    · exact hno h2
  · rw [ltz] at hx
    rw [ltI, tI (by omega)]
    refine ⟨fun hx2 => s_piall hA hps ?_, fun hx2 => hout K hK hN (decide_eq_false (by omega))⟩
    obtain ⟨i, hi, rfl⟩ := isC_of (n := K) (by omega) (decide_eq_true ⟨by omega, hx2⟩)
    refine cnt0 (fun n j (s : Nat × Int32) => L_po_cellOf_29 gz pt nd Q n (nI i) (nI s.1) s.2 (nI j)) (i + 1) (fun j s => Ps (sFrom a) (aN a) (2 ^ aNp a - 1) K j s.1 ∧ ∀ j', j = j' + 1 → ∃ c, s.2 = nI c ∧ Pst (sFrom a) (aN a) (2 ^ aNp a - 1) K j' c) (2 ^ aNp a - 1, -9) ⟨rfl, fun j' e => by omega⟩ ?_ ?_
    · rintro n ⟨S, fd⟩ ⟨hP, hf⟩
      obtain ⟨c, e, hPs⟩ := hf i rfl
      have e' : fd = nI c := e
      subst e'
      unfold L_po_cellOf_29
      exact br_t (nI_lt (by omega) (by omega)) (hin K i c hK hN hi rfl hPs)
    · rintro n j ⟨S, fd⟩ hj ⟨hP, hf⟩ ih
      have hP : Ps (sFrom a) (aN a) (2 ^ aNp a - 1) K j S := hP
      obtain ⟨p1, p2, p3⟩ := Ps_nd hN hP
      obtain ⟨r, hr⟩ : ∃ r, K - j = r + 1 := ⟨K - j - 1, by omega⟩
      rw [hr] at p2
      unfold L_po_cellOf_29
      rw [nI_1 j]
      refine br_f (nI_nlt (by omega) (by omega)) (s_leastHelper hA hz hpt hnd (by omega) (by omega) p2 (fun c hc hH hl => ?_))
      refine br_f (nI_ne9 (by omega)) (s_setAt (by omega) (hpt c hc) ?_)
      rw [sdf_i]
      rintro _ rfl
      rw [← hr] at hH hl
      exact ih (_, _) ⟨⟨S, c, hP, ⟨hc, hH, hl⟩, rfl⟩, fun j' e => ⟨c, rfl, by
        have : j' = j := by omega
        subst this
        exact ⟨S, hP, hc, hH, hl⟩⟩⟩
  · refine br_f (fun q => ?_) (hno hn2)
    rw [ltz] at hx
    rw [ltI] at q
    have : (-9 : Int32).toInt = -9 := by decide
    omega
