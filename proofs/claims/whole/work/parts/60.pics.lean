/-! counting loops -/
theorem cnt {σ : Type} (L : Nat → Nat → σ → Prop) (N : Nat) (I : Nat → σ → Prop) (he : ∀ n s, I N s → L (n + 1) N s) (hs : ∀ n i s, i < N → I i s → (∀ s', I (i + 1) s' → L n (i + 1) s') → L (n + 1) i s) : ∀ (m i : Nat) (s : σ), i + m = N → I i s → L (m + 1) i s := by
  intro m
  induction m with
  | zero => intro i s hi h; have : i = N := by omega
            subst this; exact he 0 s h
  | succ m ih => intro i s hi h; exact hs (m + 1) i s (by omega) h (fun s' h' => ih (i + 1) s' (by omega) h')
theorem cnt0 {σ : Type} (L : Nat → Nat → σ → Prop) (N : Nat) (I : Nat → σ → Prop) (s : σ) (h0 : I 0 s) (he : ∀ n s, I N s → L (n + 1) N s) (hs : ∀ n i s, i < N → I i s → (∀ s', I (i + 1) s' → L n (i + 1) s') → L (n + 1) i s) : ∃ n, L n 0 s := ⟨N + 1, cnt L N I he hs N 0 s (by omega) h0⟩
/-! sets as numbers -/
theorem nI_tb (x : Nat) : (nI x).toBitVec = BitVec.ofNat 32 x := rfl
theorem nI_or (x y : Nat) : nI x ||| nI y = nI (x ||| y) := by
  apply Int32.toBitVec_inj.mp
  rw [Int32.toBitVec_or, nI_tb, nI_tb, nI_tb]
  apply BitVec.eq_of_getLsbD_eq
  intro i hi
  rw [BitVec.getLsbD_or, BitVec.getLsbD_ofNat, BitVec.getLsbD_ofNat, BitVec.getLsbD_ofNat, Nat.testBit_or]
  simp [hi]
theorem nI_and (x y : Nat) : nI x &&& nI y = nI (x &&& y) := by
  apply Int32.toBitVec_inj.mp
  rw [Int32.toBitVec_and, nI_tb, nI_tb, nI_tb]
  apply BitVec.eq_of_getLsbD_eq
  intro i hi
  rw [BitVec.getLsbD_and, BitVec.getLsbD_ofNat, BitVec.getLsbD_ofNat, BitVec.getLsbD_ofNat, Nat.testBit_and]
  simp [hi]
theorem sh32 : ∀ k, k < 32 → (1 : Int32) <<< (nI k &&& 31) = nI (2 ^ k) := by decide +kernel
def setN (f : Nat → Bool) : Nat → Nat
  | 0 => 0
  | k + 1 => setN f k ||| (if f k then 2 ^ k else 0)
theorem setN_s (f : Nat → Bool) (k : Nat) : setN f (k + 1) = setN f k ||| (if f k then 2 ^ k else 0) := rfl
theorem setN_lt (f : Nat → Bool) : ∀ k, setN f k < 2 ^ k
  | 0 => by unfold setN; decide
  | k + 1 => by
    unfold setN
    have h1 := setN_lt f k
    have h2 : 2 ^ k < 2 ^ (k + 1) := Nat.pow_lt_pow_right (by decide) (by omega)
    apply Nat.or_lt_two_pow (by omega)
    split
    · exact h2
    · exact Nat.two_pow_pos _
theorem setN_tb (f : Nat → Bool) (i : Nat) : ∀ k, (setN f k).testBit i = (decide (i < k) && f i)
  | 0 => by simp [setN]
  | k + 1 => by
    unfold setN
    rw [Nat.testBit_or, setN_tb f i k]
    rcases Nat.lt_trichotomy i k with h | h | h
    · have : ((if f k = true then 2 ^ k else 0) : Nat).testBit i = false := by
        split
        · rw [Nat.testBit_two_pow]; simp; omega
        · simp
      rw [this, Bool.or_false]
      simp [h, Nat.lt_succ_of_lt h]
    · subst h
      cases hf : f i <;> simp
    · have : ((if f k = true then 2 ^ k else 0) : Nat).testBit i = false := by
        split
        · rw [Nat.testBit_two_pow]; simp; omega
        · simp
      rw [this, Bool.or_false]
      have h1 : ¬ i < k := by omega
      have h2 : ¬ i < k + 1 := by omega
      simp [h1, h2]
theorem setN_0 {f : Nat → Bool} : ∀ {k : Nat}, (∀ i, i < k → f i = false) → setN f k = 0
  | 0, _ => rfl
  | k + 1, h => by
    unfold setN
    rw [setN_0 (fun i hi => h i (by omega)), h k (by omega)]
    simp
/-! pictures seen from cells -/
def dz (a : Abs) (p c : Nat) : Int := dX (aPf a p) * (((c % aW a : Nat) : Int) - ((aPc a p % aW a : Nat) : Int)) + dY (aPf a p) * (((c / aW a : Nat) : Int) - ((aPc a p / aW a : Nat) : Int))
noncomputable def sPic (a : Abs) (p c : Nat) : Bool := decide (0 ≤ dz a p c) && sees a c (aPc a p)
noncomputable def sFrom (a : Abs) (c : Nat) : Nat := setN (fun p => sPic a p c) (aNp a)
theorem sees_std {a : Abs} {c q : Nat} (h : sees a c q = true) : std a c = true := by
  unfold sees at h
  by_cases e : c = q
  · rw [if_pos e] at h; exact h
  · rw [if_neg e] at h
    have h1 : flr a c = true := by
      cases hf : flr a c with
      | true => rfl
      | false => rw [hf] at h; simp at h
    unfold flr at h1
    unfold std
    rw [h1]; rfl
theorem sees_std2 {a : Abs} {c q : Nat} (h : sees a c q = true) : std a q = true := by
  by_cases e : c = q
  · subst e; exact sees_std h
  · unfold sees at h
    rw [if_neg e] at h
    have h1 : flr a q = true := by
      cases hf : flr a q with
      | true => rfl
      | false => rw [hf] at h; simp at h
    unfold flr at h1
    unfold std
    rw [h1]; rfl
theorem sFrom_0 {a : Abs} {c : Nat} (h : std a c = false) : sFrom a c = 0 := setN_0 (fun p _ => by
  unfold sPic
  cases hs : sees a c (aPc a p) with
  | false => simp
  | true => rw [sees_std hs] at h; cases h)
theorem sFrom_lt {a : Abs} (hA : AOk a) (c : Nat) : sFrom a c < 2 ^ aNp a := setN_lt _ _
theorem p2_le {n : Nat} (h : n ≤ 8) : 2 ^ n ≤ 256 := Nat.pow_le_pow_right (n := 2) (by decide) h
theorem dz_b {a : Abs} (hA : AOk a) {p c : Nat} (hp : p < aNp a) (hc : c < aN a) : -20 ≤ dz a p c ∧ dz a p c ≤ 20 := by
  have h1 := xy_lt hA hc
  have h2 := xy_lt hA (hA.2.2.2.2.2.2.1 p hp).1
  have hW := hA.1
  have hH := hA.2.1
  have key : ∀ (x y X Y : Int), (x = 1 ∨ x = 0 ∨ x = -1) → (y = 1 ∨ y = 0 ∨ y = -1) → -8 ≤ X → X ≤ 8 → -8 ≤ Y → Y ≤ 8 → -20 ≤ x * X + y * Y ∧ x * X + y * Y ≤ 20 := by
    intro x y X Y hx hy h1 h2 h3 h4
    rcases hx with rfl | rfl | rfl <;> rcases hy with rfl | rfl | rfl <;> omega
  unfold dz
  have d1 := dX_b (aPf a p)
  have d2 := dY_b (aPf a p)
  generalize c % aW a = x1 at *
  generalize c / aW a = x2 at *
  generalize aPc a p % aW a = x3 at *
  generalize aPc a p / aW a = x4 at *
  apply key <;> omega
theorem s_isSeenFrom {a : Abs} {gw gh gz sl sr ps : Int32} {gc gr gk pc pf : Nat → Int32} {fc lc f c2 st : Int64} {p c : Nat} {Q : Int32 → Prop} (hA : AOk a) (hs : IGs a gw gh gz gc gr fc lc) (hk : IGk a gk f c2 st) (hS : IS a sl sr) (hP : IP a pc pf ps) (hp : p < aNp a) (hc : c < aN a) (h : Q (bI (sPic a p c))) : P_pi_isSeenFrom gw gc gr f c2 st pc pf sl sr (nI p) (nI c) Q := by
  have hn := aN_le hA
  have hnp : aNp a ≤ 8 := hA.2.2.2.2.2.1
  obtain ⟨q1, q2⟩ := hA.2.2.2.2.2.2.1 p hp
  have hW := hA.1
  have hH := hA.2.1
  have bd := dz_b hA hp hc
  unfold P_pi_isSeenFrom P_pi_isBehind
  rw [cl (n := p) (by omega), hP.2.1 p hp, hP.2.2 p hp]
  refine s_col (by omega) ⟨vI (by omega) (by omega), s_col (by omega) ?_⟩
  rintro _ rfl
  refine s_row (by omega) ⟨vI (by omega) (by omega), s_row (by omega) ?_⟩
  rintro _ rfl
  refine ⟨vI (by omega) (by omega), ?_⟩
  rintro _ rfl
  refine ⟨vI (by omega) (by omega), vI (by omega) (by omega), ?_⟩
  rw [cl (n := aPf a p) (by omega), mvX_i (by omega), mvY_i (by omega), hs.2.2.2.1 c hc, hs.2.2.2.1 _ q1, hs.2.2.2.2.1 c hc, hs.2.2.2.2.1 _ q1]
  simp only [iI_nat, iI_sub, iI_mul, iI_add]
  rw [show (dX (aPf a p) * (((c % aW a : Nat) : Int) - ((aPc a p % aW a : Nat) : Int)) + dY (aPf a p) * (((c / aW a : Nat) : Int) - ((aPc a p / aW a : Nat) : Int))) = dz a p c from rfl]
  rw [show (0 : Int32) = iI 0 from rfl, iI_le ⟨by omega, by omega⟩ ⟨by omega, by omega⟩]
  unfold sPic at h
  by_cases e : 0 ≤ dz a p c
  · refine br_t e (br_t trivial ⟨vI (by omega) (by omega), ?_⟩)
    rw [← iI_nat, ← iI_nat]
    refine s_reaches hA hs hk hS hc q1 ?_
    rw [decide_eq_true e, Bool.true_and] at h
    exact brB (fun hf => by rw [hf] at h; exact h) (fun ht => by rw [ht] at h; exact h)
  · rw [decide_eq_false e, Bool.false_and] at h
    exact br_f e (br_f (by decide) h)
theorem s_sightsPicture {a : Abs} {mw ml mr : Int32} {mk mpc mf : Nat → Int32} {p c : Nat} {Q : Int32 → Prop} (hA : AOk a) (hm : ∀ c, c < aN a → mk c = nI (aKd a c)) (h1 : mw = nI (aW a)) (h4 : ml = nI (aLw a)) (h5 : mr = nI (aRg a)) (m7 : ∀ p, p < aNp a → mpc p = nI (aPc a p)) (m8 : ∀ p, p < aNp a → mf p = nI (aPf a p)) (hp : p < aNp a) (hc : c < aN a) (h : Q (bI (sPic a p c))) : P_mo_sightsPicture mw mk ml mr mpc mf (nI p) (nI c) Q := by
  have hn := aN_le hA
  have hnp : aNp a ≤ 8 := hA.2.2.2.2.2.1
  obtain ⟨q1, q2⟩ := hA.2.2.2.2.2.2.1 p hp
  have hW := hA.1
  have hH := hA.2.1
  have bd := dz_b hA hp hc
  have hne : ¬ nI (aW a) = 0 := nI_ne0 (by omega) (by omega)
  have x1 := xy_lt hA hc
  have x2 := xy_lt hA q1
  subst h1
  unfold P_mo_sightsPicture
  rw [cl (n := p) (by omega), m7 p hp, m8 p hp]
  refine ⟨hne, vI (by omega) (by omega), hne, ?_⟩
  rintro _ rfl
  refine ⟨hne, vI (by omega) (by omega), hne, ?_⟩
  rintro _ rfl
  refine ⟨vI (by omega) (by omega), ?_⟩
  rintro _ rfl
  rw [pk_rem (by omega) (by omega) (by omega), pk_rem (by omega) (by omega) (by omega), pk_div (by omega) (by omega) (by omega), pk_div (by omega) (by omega) (by omega)]
  have hB : ∀ b : Bool, b = decide (0 ≤ dz a p c) → B_mo_sightsPicture_111 (nI (aW a)) mk ml mr mpc Q (nI p) (nI c) (bI b) := by
    intro b hb
    unfold B_mo_sightsPicture_111
    unfold sPic at h
    rw [← hb] at h
    refine brB (fun hf => ?_) (fun ht => ⟨vI (by omega) (by omega), ?_⟩)
    · rw [hf, Bool.false_and] at h; exact h
    · rw [cl (n := p) (by omega), m7 p hp]
      refine s_isSeen hA hm rfl h4 h5 hc q1 ?_
      rw [ht, Bool.true_and] at h
      exact brB (fun hf => by rw [hf] at h; exact h) (fun ht => by rw [ht] at h; exact h)
  have hT : 0 ≤ dz a p c → B_mo_sightsPicture_111 (nI (aW a)) mk ml mr mpc Q (nI p) (nI c) 1 := fun e => hB true (decide_eq_true e).symm
  have hF : ¬ 0 ≤ dz a p c → B_mo_sightsPicture_111 (nI (aW a)) mk ml mr mpc Q (nI p) (nI c) 0 := fun e => hB false (decide_eq_false e).symm
  have l1 : ∀ x y : Nat, x < 8 → y < 8 → (nI x - nI y < 0 ↔ x < y) := fun x y hx hy => by rw [ltz, pk_sub_toInt (by omega) (by omega)]; omega
  have l2 : ∀ x y : Nat, x < 8 → y < 8 → (0 < nI x - nI y ↔ y < x) := fun x y hx hy => by rw [ltI, pk_sub_toInt (by omega) (by omega)]; show (0 : Int) < _ ↔ _; omega
  rw [l1 _ _ (by omega) (by omega), l1 _ _ (by omega) (by omega), l2 _ _ (by omega) (by omega), l2 _ _ (by omega) (by omega)]
  have z0 : nI (aPf a p) = 0 ↔ aPf a p = 0 := nI_eq (b := 0) (by omega) (by omega)
  have z1 : nI (aPf a p) = 1 ↔ aPf a p = 1 := nI_eq (b := 1) (by omega) (by omega)
  have z2 : nI (aPf a p) = 2 ↔ aPf a p = 2 := nI_eq (b := 2) (by omega) (by omega)
  rw [z0, z1, z2]
  have f0 : aPf a p = 0 → dz a p c = ((c % aW a : Nat) : Int) - ((aPc a p % aW a : Nat) : Int) := fun e => by unfold dz dX dY; simp [e]
  have f1 : aPf a p = 1 → dz a p c = ((c / aW a : Nat) : Int) - ((aPc a p / aW a : Nat) : Int) := fun e => by unfold dz dX dY; simp [e]
  have f2 : aPf a p = 2 → dz a p c = -(((c % aW a : Nat) : Int) - ((aPc a p % aW a : Nat) : Int)) := fun e => by unfold dz dX dY; simp [e]
  have f3 : aPf a p = 3 → dz a p c = -(((c / aW a : Nat) : Int) - ((aPc a p / aW a : Nat) : Int)) := fun e => by unfold dz dX dY; simp [e]
  refine ⟨fun e => ?_, fun e => ⟨fun e1 => ?_, fun e1 => ⟨fun e2 => ?_, fun e2 => ?_⟩⟩⟩
  · have := f0 e; exact ⟨fun g => hF (by omega), fun g => hT (by omega)⟩
  · have := f1 e1; exact ⟨fun g => hF (by omega), fun g => hT (by omega)⟩
  · have := f2 e2; exact ⟨fun g => hF (by omega), fun g => hT (by omega)⟩
  · have := f3 (by omega); exact ⟨fun g => hF (by omega), fun g => hT (by omega)⟩
theorem s_lookFrom {a : Abs} {gw gh gz sl sr ps : Int32} {gc gr gk pc pf : Nat → Int32} {fc lc f c2 st : Int64} {c : Nat} {Q : Int32 → Prop} (hA : AOk a) (hs : IGs a gw gh gz gc gr fc lc) (hk : IGk a gk f c2 st) (hS : IS a sl sr) (hP : IP a pc pf ps) (hc : c < aN a) (h : Q (nI (sFrom a c))) : P_pi_lookFrom gw gc gr f c2 st pc pf ps sl sr (nI c) Q := by
  have hnp : aNp a ≤ 8 := hA.2.2.2.2.2.1
  obtain ⟨hp, -⟩ := id hP
  subst hp
  unfold P_pi_lookFrom
  refine cnt0 (fun n i (s : Int32) => L_pi_lookFrom_4 gw gc gr f c2 st pc pf (nI (aNp a)) sl sr Q n (nI c) s (nI i)) (aNp a) (fun i s => s = nI (setN (fun p => sPic a p c) i)) 0 rfl ?_ ?_
  · rintro n _ rfl
    unfold L_pi_lookFrom_4
    exact br_t (nI_le (Nat.le_refl _) (by omega)) h
  · rintro n i _ hi rfl ih
    unfold L_pi_lookFrom_4
    rw [nI_1 i]
    refine br_f (nI_ge hi (by omega)) (s_isSeenFrom hA hs hk hS hP hi hc (brB (fun hf => ?_) (fun ht => ?_)))
    · rintro _ rfl
      refine ih _ ?_
      rw [setN_s, hf, if_neg (by decide), ← nI_or]
      rfl
    · rintro _ rfl
      refine ih _ ?_
      rw [setN_s, ht, if_pos rfl, ← nI_or, sh32 i (by omega)]
theorem s_sightsFrom {a : Abs} {mw ml mr mp : Int32} {mk mpc mf : Nat → Int32} {c : Nat} {Q : Int32 → Prop} (hA : AOk a) (hm : ∀ c, c < aN a → mk c = nI (aKd a c)) (h1 : mw = nI (aW a)) (h4 : ml = nI (aLw a)) (h5 : mr = nI (aRg a)) (h6 : mp = nI (aNp a)) (m7 : ∀ p, p < aNp a → mpc p = nI (aPc a p)) (m8 : ∀ p, p < aNp a → mf p = nI (aPf a p)) (hc : c < aN a) (h : Q (nI (sFrom a c))) : P_mo_sightsFrom mw mk ml mr mp mpc mf (nI c) Q := by
  have hnp : aNp a ≤ 8 := hA.2.2.2.2.2.1
  subst h6
  unfold P_mo_sightsFrom
  refine cnt0 (fun n i (s : Int32) => L_mo_sightsFrom_4 mw mk ml mr (nI (aNp a)) mpc mf Q n (nI c) s (nI i)) (aNp a) (fun i s => s = nI (setN (fun p => sPic a p c) i)) 0 rfl ?_ ?_
  · rintro n _ rfl
    unfold L_mo_sightsFrom_4
    exact br_t (nI_le (Nat.le_refl _) (by omega)) h
  · rintro n i _ hi rfl ih
    unfold L_mo_sightsFrom_4
    rw [nI_1 i]
    refine br_f (nI_ge hi (by omega)) (s_sightsPicture hA hm h1 h4 h5 m7 m8 hi hc (brB (fun hf => ?_) (fun ht => ?_)))
    · rintro _ rfl
      refine ih _ ?_
      rw [setN_s, hf, if_neg (by decide), ← nI_or]
      rfl
    · rintro _ rfl
      refine ih _ ?_
      rw [setN_s, ht, if_pos rfl, ← nI_or, sh32 i (by omega)]
theorem s_survey {a : Abs} {gw gh gz sl sr ps : Int32} {gc gr gk pc pf pt : Nat → Int32} {fc lc f c2 st : Int64} {Q : (Nat → Int32) → Prop} (hA : AOk a) (hs : IGs a gw gh gz gc gr fc lc) (hk : IGk a gk f c2 st) (hS : IS a sl sr) (hP : IP a pc pf ps) (h : ∀ g, (∀ c, c < aN a → g c = nI (sFrom a c)) → Q g) : P_pi_survey gw gz gc gr f c2 st pc pf pt ps sl sr Q := by
  obtain ⟨-, hn⟩ := aN_le hA
  obtain ⟨-, -, hz, -⟩ := id hs
  subst hz
  unfold P_pi_survey
  refine cnt0 (fun n i (s : Nat → Int32) => L_pi_survey_2 gw (nI (aN a)) gc gr f c2 st pc pf ps sl sr Q n s (nI i)) (aN a) (fun i s => ∀ c, c < i → s c = nI (sFrom a c)) pt (fun c hc => absurd hc (Nat.not_lt_zero _)) ?_ ?_
  · intro n s hI
    unfold L_pi_survey_2 P_gr_size
    exact br_t (nI_le (Nat.le_refl _) (by omega)) (h s hI)
  · intro n i s hi hI ih
    unfold L_pi_survey_2 P_gr_size
    rw [nI_1 i]
    refine br_f (nI_ge hi (by omega)) (s_lookFrom hA hs hk hS hP hi ⟨vI (by omega) (by omega), ?_⟩)
    rw [cl (by omega)]
    refine ih _ (fun c hc => ?_)
    by_cases e : c = i
    · subst e; rw [u_s]
    · rw [u_n e]; exact hI c (by omega)
theorem s_laySights {a : Abs} {mw mt ml mr mp : Int32} {mk mpc mf ms : Nat → Int32} {Q : (Nat → Int32) → Prop} (hA : AOk a) (hm : ∀ c, c < aN a → mk c = nI (aKd a c)) (h1 : mw = nI (aW a)) (h2 : mt = nI (aH a)) (h4 : ml = nI (aLw a)) (h5 : mr = nI (aRg a)) (h6 : mp = nI (aNp a)) (m7 : ∀ p, p < aNp a → mpc p = nI (aPc a p)) (m8 : ∀ p, p < aNp a → mf p = nI (aPf a p)) (h : ∀ g, (∀ c, c < aN a → g c = nI (sFrom a c)) → Q g) : P_mo_laySights mw mt mk ml mr mp mpc mf ms Q := by
  obtain ⟨-, hn⟩ := aN_le hA
  have hN : mw * mt = nI (aN a) := by rw [h1, h2, pk_mul]; rfl
  unfold P_mo_laySights
  refine cnt0 (fun n i (s : Nat → Int32) => L_mo_laySights_2 mw mt mk ml mr mp mpc mf Q n s (nI i)) (aN a) (fun i s => ∀ c, c < i → s c = nI (sFrom a c)) ms (fun c hc => absurd hc (Nat.not_lt_zero _)) ?_ ?_
  · intro n s hI
    unfold L_mo_laySights_2
    rw [hN]
    exact br_t (nI_le (Nat.le_refl _) (by omega)) (h s hI)
  · intro n i s hi hI ih
    unfold L_mo_laySights_2
    rw [nI_1 i]
    rw [hN]
    refine br_f (nI_ge hi (by omega)) (s_mstands hA hm hi (brB (fun hf => ⟨vI (by omega) (by omega), ?_⟩) (fun ht => s_sightsFrom hA hm h1 h4 h5 h6 m7 m8 hi ⟨vI (by omega) (by omega), ?_⟩)))
    all_goals
      rw [cl (by omega)]
      refine ih _ (fun c hc => ?_)
      by_cases e : c = i
      · subst e; rw [u_s]; try rw [sFrom_0 hf]; rfl
      · rw [u_n e]; exact hI c (by omega)
/-! watched -/
noncomputable def wt1 (a : Abs) (k c t : Nat) : Bool := match plc a k t with
  | none => false
  | some x => sees a x c
noncomputable def wtN (a : Abs) (c t : Nat) : Nat → Bool
  | 0 => false
  | k + 1 => wtN a c t k || wt1 a k c t
noncomputable def wtd (a : Abs) (c t : Nat) : Bool := wtN a c t 4
theorem plc_lt {a : Abs} (hA : AOk a) {k t x : Nat} (hk : k < 4) (h : plc a k t = some x) : x < aN a := by
  unfold plc at h
  split at h
  · cases h
  · rename_i z
    cases h
    exact hA.2.2.2.2.2.2.2.2.1 k _ hk (Nat.mod_lt _ (by omega))
theorem wtN_mono {a : Abs} {c t : Nat} : ∀ {k j : Nat}, k ≤ j → wtN a c t k = true → wtN a c t j = true := by
  intro k j hkj h
  induction j with
  | zero => have : k = 0 := by omega
            subst this; exact h
  | succ j ih =>
    rcases Nat.eq_or_lt_of_le hkj with e | e
    · subst e; exact h
    · unfold wtN; rw [ih (by omega)]; rfl
theorem s_isWatched {a : Abs} {mw ml mr : Int32} {mk rm ro sh : Nat → Int32} {c t : Nat} {Q : Int32 → Prop} (hA : AOk a) (hm : ∀ c, c < aN a → mk c = nI (aKd a c)) (h1 : mw = nI (aW a)) (h4 : ml = nI (aLw a)) (h5 : mr = nI (aRg a)) (m9 : ∀ k, k < 4 → rm k = nI (aRl a k)) (m10 : ∀ k i, k < 4 → i < aRl a k → ro (6 * k + i) = nI (aRc a k i)) (m11 : ∀ k, k < 4 → sh k = nI (aRs a k)) (hc : c < aN a) (ht : t ≤ 9999) (h : Q (bI (wtd a c t))) : P_mo_isWatched mw mk ml mr rm ro sh (nI c) (nI t) Q := by
  obtain ⟨-, hn⟩ := aN_le hA
  unfold P_mo_isWatched
  refine cnt0 (fun n i (s : Int32) => L_mo_isWatched_5 mw mk ml mr rm ro sh Q n (nI c) (nI t) s (nI i)) 4 (fun i s => s = bI (wtN a c t i)) 0 rfl ?_ ?_
  · rintro n _ rfl
    unfold L_mo_isWatched_5
    exact br_t (nI_le (a := 4) (b := 4) (Nat.le_refl _) (by omega)) ⟨bI_01 _, h⟩
  · rintro n i _ hi rfl ih
    unfold L_mo_isWatched_5
    rw [nI_1 i]
    refine br_f (nI_ge (b := 4) hi (by omega)) (s_whereAt hA m9 m10 m11 hi ht (brB (fun hf => ?_) (fun htt => ih _ ?_)))
    rotate_left
    · unfold wtN; rw [htt]; rfl
    cases hpl : plc a i t with
    | none =>
      refine br_t rfl (ih _ ?_)
      unfold wtN wt1; rw [hf, hpl]; rfl
    | some x =>
      have hx := plc_lt hA hi hpl
      refine br_f (nI_ne9 (by omega)) (s_mstands hA hm hx (brB (fun g => ih _ ?_) (fun g => s_isSeen hA hm h1 h4 h5 hx hc (brB (fun g2 => ih _ ?_) (fun g2 => ih _ ?_)))))
      · unfold wtN wt1; rw [hf, hpl]
        cases hs : sees a x c with
        | false => simp [hs]; rfl
        | true => rw [sees_std hs] at g; cases g
      · unfold wtN wt1; rw [hf, hpl]; simp [g2]; rfl
      · unfold wtN wt1; rw [hf, hpl]; simp [g2]; rfl
theorem s_watched {a : Abs} {gw gh gz sl sr : Int32} {gc gr gk rc rl rs : Nat → Int32} {fc lc f c2 st : Int64} {c t : Nat} {Q : Int32 → Prop} (hA : AOk a) (hs : IGs a gw gh gz gc gr fc lc) (hk : IGk a gk f c2 st) (hS : IS a sl sr) (hRo : IR a rc rl rs) (hc : c < aN a) (ht : t ≤ 9999) (h : Q (bI (wtd a c t))) : ∃ n, L_wh_watched_25 gw gc gr f c2 st rc rl rs sl sr Q n (nI c) (nI t) 0 := by
  obtain ⟨-, hn⟩ := aN_le hA
  refine cnt0 (fun n i (_ : Unit) => L_wh_watched_25 gw gc gr f c2 st rc rl rs sl sr Q n (nI c) (nI t) (nI i)) 4 (fun i _ => wtN a c t i = false) () rfl ?_ ?_
  · rintro n _ hI
    unfold L_wh_watched_25
    unfold wtd at h
    rw [hI] at h
    exact br_t (nI_le (a := 4) (b := 4) (Nat.le_refl _) (by omega)) h
  · rintro n i _ hi hI ih
    unfold L_wh_watched_25
    rw [nI_1 i]
    refine br_f (nI_ge (b := 4) hi (by omega)) (s_placeAt hA hRo hi ht ?_)
    cases hpl : plc a i t with
    | none =>
      refine br_t rfl (ih () ?_)
      unfold wtN wt1; rw [hI, hpl]; rfl
    | some x =>
      have hx := plc_lt hA hi hpl
      refine br_f (nI_ne9 (by omega)) (s_reaches hA hs hk hS hx hc (brB (fun g2 => ih () ?_) (fun g2 => ?_)))
      · unfold wtN wt1; rw [hI, hpl]; simp [g2]
      · have : wtN a c t (i + 1) = true := by unfold wtN wt1; rw [hI, hpl]; simp [g2]
        have := wtN_mono (j := 4) hi this
        unfold wtd at h
        rw [this] at h
        exact h
theorem op_sees {gr_width : Int32} {gr_height : Int32} {gr_size : Int32} {gr_kinds : Nat → Int32} {gr_columns : Nat → Int32} {gr_rows : Nat → Int32} {gr_floorCells : Int64} {gr_clearCells : Int64} {gr_standCells : Int64} {gr_firstColumn : Int64} {gr_lastColumn : Int64} {pi_cells : Nat → Int32} {pi_facings : Nat → Int32} {pi_size : Int32} {ro_cells : Nat → Int32} {ro_lengths : Nat → Int32} {ro_shifts : Nat → Int32} {si_sightLaw : Int32} {si_sightRange : Int32} {mo_wide : Int32} {mo_tall : Int32} {mo_kind : Nat → Int32} {mo_law : Int32} {mo_range : Int32} {mo_pictures : Int32} {mo_pictureCell : Nat → Int32} {mo_facing : Nat → Int32} {mo_roundMany : Nat → Int32} {mo_round : Nat → Int32} {mo_shift : Nat → Int32} (hR : Rel gr_width gr_height gr_size gr_columns gr_rows gr_firstColumn gr_lastColumn gr_kinds gr_floorCells gr_clearCells gr_standCells pi_cells pi_facings pi_size ro_cells ro_lengths ro_shifts si_sightLaw si_sightRange mo_wide mo_tall mo_kind mo_law mo_range mo_pictures mo_pictureCell mo_facing mo_roundMany mo_round mo_shift) (a1 a2 : Int32) : P_wh_sees gr_width gr_size gr_columns gr_rows gr_floorCells gr_clearCells gr_standCells si_sightLaw si_sightRange a1 a2 (fun r1 => P_mo_sees mo_wide mo_tall mo_kind mo_law mo_range a1 a2 (fun r2 => r1 = r2 ∧ Rel gr_width gr_height gr_size gr_columns gr_rows gr_firstColumn gr_lastColumn gr_kinds gr_floorCells gr_clearCells gr_standCells pi_cells pi_facings pi_size ro_cells ro_lengths ro_shifts si_sightLaw si_sightRange mo_wide mo_tall mo_kind mo_law mo_range mo_pictures mo_pictureCell mo_facing mo_roundMany mo_round mo_shift)) := by
  obtain ⟨a, hA, hGs, hGk, hPi, hRo, hSi, hM⟩ := id hR
  obtain ⟨m1, m2, m3, m4, m5, m6, m7, m8, m9, m10, m11⟩ := id hM
  obtain ⟨hn4, hn⟩ := aN_le hA
  have hnw : aW a * aH a < 1073741824 := by unfold aN at hn; omega
  have hnp : aNp a ≤ 8 := hA.2.2.2.2.2.1
  unfold P_wh_sees
  refine s_gc hGs.2.2.1 (by omega) (brB (fun hf => ?_) (fun ht => ?_))
  · unfold P_mo_sees
    exact s_mc m1 m2 hnw (brF hf ⟨rfl, hR⟩)
  · refine s_gc hGs.2.2.1 (by omega) (brB (fun hf2 => ?_) (fun ht2 => ?_))
    · unfold P_mo_sees
      exact s_mc m1 m2 hnw (brT ht (s_mc m1 m2 hnw (brF hf2 ⟨rfl, hR⟩)))
    · obtain ⟨p, hp, rfl⟩ := isC_of (by omega) ht
      obtain ⟨q, hq, rfl⟩ := isC_of (by omega) ht2
      refine s_reaches hA hGs hGk hSi hp hq (s_yesNo ?_)
      unfold P_mo_sees
      exact s_mc m1 m2 hnw (brT ht (s_mc m1 m2 hnw (brT ht2 (s_isSeen hA m3 m1 m4 m5 hp hq (brB (fun g => ⟨by rw [g]; rfl, hR⟩) (fun g => ⟨by rw [g]; rfl, hR⟩))))))
theorem op_watched {gr_width : Int32} {gr_height : Int32} {gr_size : Int32} {gr_kinds : Nat → Int32} {gr_columns : Nat → Int32} {gr_rows : Nat → Int32} {gr_floorCells : Int64} {gr_clearCells : Int64} {gr_standCells : Int64} {gr_firstColumn : Int64} {gr_lastColumn : Int64} {pi_cells : Nat → Int32} {pi_facings : Nat → Int32} {pi_size : Int32} {ro_cells : Nat → Int32} {ro_lengths : Nat → Int32} {ro_shifts : Nat → Int32} {si_sightLaw : Int32} {si_sightRange : Int32} {mo_wide : Int32} {mo_tall : Int32} {mo_kind : Nat → Int32} {mo_law : Int32} {mo_range : Int32} {mo_pictures : Int32} {mo_pictureCell : Nat → Int32} {mo_facing : Nat → Int32} {mo_roundMany : Nat → Int32} {mo_round : Nat → Int32} {mo_shift : Nat → Int32} (hR : Rel gr_width gr_height gr_size gr_columns gr_rows gr_firstColumn gr_lastColumn gr_kinds gr_floorCells gr_clearCells gr_standCells pi_cells pi_facings pi_size ro_cells ro_lengths ro_shifts si_sightLaw si_sightRange mo_wide mo_tall mo_kind mo_law mo_range mo_pictures mo_pictureCell mo_facing mo_roundMany mo_round mo_shift) (a1 a2 : Int32) : P_wh_watched gr_width gr_size gr_columns gr_rows gr_floorCells gr_clearCells gr_standCells ro_cells ro_lengths ro_shifts si_sightLaw si_sightRange a1 a2 (fun r1 => P_mo_watched mo_wide mo_tall mo_kind mo_law mo_range mo_roundMany mo_round mo_shift a1 a2 (fun r2 => r1 = r2 ∧ Rel gr_width gr_height gr_size gr_columns gr_rows gr_firstColumn gr_lastColumn gr_kinds gr_floorCells gr_clearCells gr_standCells pi_cells pi_facings pi_size ro_cells ro_lengths ro_shifts si_sightLaw si_sightRange mo_wide mo_tall mo_kind mo_law mo_range mo_pictures mo_pictureCell mo_facing mo_roundMany mo_round mo_shift)) := by
  obtain ⟨a, hA, hGs, hGk, hPi, hRo, hSi, hM⟩ := id hR
  obtain ⟨m1, m2, m3, m4, m5, m6, m7, m8, m9, m10, m11⟩ := id hM
  obtain ⟨hn4, hn⟩ := aN_le hA
  have hnw : aW a * aH a < 1073741824 := by unfold aN at hn; omega
  have hnp : aNp a ≤ 8 := hA.2.2.2.2.2.1
  unfold P_wh_watched
  refine s_gc hGs.2.2.1 (by omega) (brB (fun hf => ?_) (fun ht => ?_))
  · unfold P_mo_watched
    exact s_mc m1 m2 hnw (brF hf ⟨rfl, hR⟩)
  · refine s_isTime (brB (fun hf2 => ?_) (fun ht2 => ?_))
    · unfold P_mo_watched
      exact s_mc m1 m2 hnw (brT ht (s_in rfl rfl (brF hf2 ⟨rfl, hR⟩)))
    · obtain ⟨p, hp, rfl⟩ := isC_of (by omega) ht
      obtain ⟨t, htm, rfl⟩ := isR_of (h := 9999) ht2 (by decide)
      refine s_watched hA hGs hGk hSi hRo hp htm ?_
      unfold P_mo_watched
      exact s_mc m1 m2 hnw (brT ht (s_in rfl rfl (brT ht2 (s_isWatched hA m3 m1 m4 m5 m9 m10 m11 hp htm (brB (fun g => ⟨by rw [g]; rfl, hR⟩) (fun g => ⟨by rw [g]; rfl, hR⟩))))))
theorem op_seen {gr_width : Int32} {gr_height : Int32} {gr_size : Int32} {gr_kinds : Nat → Int32} {gr_columns : Nat → Int32} {gr_rows : Nat → Int32} {gr_floorCells : Int64} {gr_clearCells : Int64} {gr_standCells : Int64} {gr_firstColumn : Int64} {gr_lastColumn : Int64} {pi_cells : Nat → Int32} {pi_facings : Nat → Int32} {pi_size : Int32} {ro_cells : Nat → Int32} {ro_lengths : Nat → Int32} {ro_shifts : Nat → Int32} {si_sightLaw : Int32} {si_sightRange : Int32} {mo_wide : Int32} {mo_tall : Int32} {mo_kind : Nat → Int32} {mo_law : Int32} {mo_range : Int32} {mo_pictures : Int32} {mo_pictureCell : Nat → Int32} {mo_facing : Nat → Int32} {mo_roundMany : Nat → Int32} {mo_round : Nat → Int32} {mo_shift : Nat → Int32} (hR : Rel gr_width gr_height gr_size gr_columns gr_rows gr_firstColumn gr_lastColumn gr_kinds gr_floorCells gr_clearCells gr_standCells pi_cells pi_facings pi_size ro_cells ro_lengths ro_shifts si_sightLaw si_sightRange mo_wide mo_tall mo_kind mo_law mo_range mo_pictures mo_pictureCell mo_facing mo_roundMany mo_round mo_shift) (a1 a2 : Int32) : P_wh_seen gr_width gr_size gr_columns gr_rows gr_floorCells gr_clearCells gr_standCells pi_cells pi_facings pi_size si_sightLaw si_sightRange a1 a2 (fun r1 => P_mo_seen mo_wide mo_tall mo_kind mo_law mo_range mo_pictures mo_pictureCell mo_facing a1 a2 (fun r2 => r1 = r2 ∧ Rel gr_width gr_height gr_size gr_columns gr_rows gr_firstColumn gr_lastColumn gr_kinds gr_floorCells gr_clearCells gr_standCells pi_cells pi_facings pi_size ro_cells ro_lengths ro_shifts si_sightLaw si_sightRange mo_wide mo_tall mo_kind mo_law mo_range mo_pictures mo_pictureCell mo_facing mo_roundMany mo_round mo_shift)) := by
  obtain ⟨a, hA, hGs, hGk, hPi, hRo, hSi, hM⟩ := id hR
  obtain ⟨m1, m2, m3, m4, m5, m6, m7, m8, m9, m10, m11⟩ := id hM
  obtain ⟨hn4, hn⟩ := aN_le hA
  have hnw : aW a * aH a < 1073741824 := by unfold aN at hn; omega
  have hnp : aNp a ≤ 8 := hA.2.2.2.2.2.1
  unfold P_wh_seen
  refine s_pi hPi.1 (by omega) (brB (fun hf => ?_) (fun ht => ?_))
  · unfold P_mo_seen
    exact s_mp m6 (by omega) (brF hf ⟨rfl, hR⟩)
  · refine s_gc hGs.2.2.1 (by omega) (brB (fun hf2 => ?_) (fun ht2 => ?_))
    · unfold P_mo_seen
      exact s_mp m6 (by omega) (brT ht (s_mc m1 m2 hnw (brF hf2 ⟨rfl, hR⟩)))
    · obtain ⟨p, hp, rfl⟩ := isC_of (by omega) ht
      obtain ⟨c, hc, rfl⟩ := isC_of (by omega) ht2
      refine s_isSeenFrom hA hGs hGk hSi hPi hp hc (s_yesNo ?_)
      unfold P_mo_seen
      exact s_mp m6 (by omega) (brT ht (s_mc m1 m2 hnw (brT ht2 (s_sightsPicture hA m3 m1 m4 m5 m7 m8 hp hc (brB (fun g => ⟨by rw [g]; rfl, hR⟩) (fun g => ⟨by rw [g]; rfl, hR⟩))))))
theorem op_from {gr_width : Int32} {gr_height : Int32} {gr_size : Int32} {gr_kinds : Nat → Int32} {gr_columns : Nat → Int32} {gr_rows : Nat → Int32} {gr_floorCells : Int64} {gr_clearCells : Int64} {gr_standCells : Int64} {gr_firstColumn : Int64} {gr_lastColumn : Int64} {pi_cells : Nat → Int32} {pi_facings : Nat → Int32} {pi_size : Int32} {ro_cells : Nat → Int32} {ro_lengths : Nat → Int32} {ro_shifts : Nat → Int32} {si_sightLaw : Int32} {si_sightRange : Int32} {mo_wide : Int32} {mo_tall : Int32} {mo_kind : Nat → Int32} {mo_law : Int32} {mo_range : Int32} {mo_pictures : Int32} {mo_pictureCell : Nat → Int32} {mo_facing : Nat → Int32} {mo_roundMany : Nat → Int32} {mo_round : Nat → Int32} {mo_shift : Nat → Int32} (hR : Rel gr_width gr_height gr_size gr_columns gr_rows gr_firstColumn gr_lastColumn gr_kinds gr_floorCells gr_clearCells gr_standCells pi_cells pi_facings pi_size ro_cells ro_lengths ro_shifts si_sightLaw si_sightRange mo_wide mo_tall mo_kind mo_law mo_range mo_pictures mo_pictureCell mo_facing mo_roundMany mo_round mo_shift) (a1 : Int32) : P_wh_from gr_width gr_size gr_columns gr_rows gr_floorCells gr_clearCells gr_standCells pi_cells pi_facings pi_size si_sightLaw si_sightRange a1 (fun r1 => P_mo_from mo_wide mo_tall mo_kind mo_law mo_range mo_pictures mo_pictureCell mo_facing a1 (fun r2 => r1 = r2 ∧ Rel gr_width gr_height gr_size gr_columns gr_rows gr_firstColumn gr_lastColumn gr_kinds gr_floorCells gr_clearCells gr_standCells pi_cells pi_facings pi_size ro_cells ro_lengths ro_shifts si_sightLaw si_sightRange mo_wide mo_tall mo_kind mo_law mo_range mo_pictures mo_pictureCell mo_facing mo_roundMany mo_round mo_shift)) := by
  obtain ⟨a, hA, hGs, hGk, hPi, hRo, hSi, hM⟩ := id hR
  obtain ⟨m1, m2, m3, m4, m5, m6, m7, m8, m9, m10, m11⟩ := id hM
  obtain ⟨hn4, hn⟩ := aN_le hA
  have hnw : aW a * aH a < 1073741824 := by unfold aN at hn; omega
  have hnp : aNp a ≤ 8 := hA.2.2.2.2.2.1
  unfold P_wh_from
  refine s_gc hGs.2.2.1 (by omega) (brB (fun hf => ?_) (fun ht => ?_))
  · unfold P_mo_from
    exact s_mc m1 m2 hnw (brF hf ⟨rfl, hR⟩)
  · obtain ⟨c, hc, rfl⟩ := isC_of (by omega) ht
    refine s_lookFrom hA hGs hGk hSi hPi hc ?_
    unfold P_mo_from
    exact s_mc m1 m2 hnw (brT ht (s_sightsFrom hA m3 m1 m4 m5 m6 m7 m8 hc ⟨rfl, hR⟩))
