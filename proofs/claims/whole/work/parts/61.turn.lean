/-! halls turned and mirrored: places and their way back -/
def Plc (N : Nat) (T U : Nat → Nat) : Prop := (∀ c, c < N → T c < N ∧ U (T c) = c) ∧ ∀ c, c < N → U c < N ∧ T (U c) = c
def tP (w h c : Nat) : Nat := c % w * h + (h - 1 - c / w)
def tU (w h c : Nat) : Nat := (h - 1 - c % h) * w + c / h
def mP (w c : Nat) : Nat := c / w * w + (w - 1 - c % w)
theorem row_lt {w h x y : Nat} (hx : x < w) (hy : y < h) : y * w + x < w * h := by
  have : (y + 1) * w ≤ h * w := Nat.mul_le_mul_right w hy
  rw [Nat.mul_comm w h]
  rw [Nat.succ_mul] at this
  omega
theorem rv_lt {h y : Nat} (hy : y < h) : h - 1 - y < h := by omega
theorem rv_rv {h y : Nat} (hy : y < h) : h - 1 - (h - 1 - y) = y := by omega
theorem div_lt2 {w h c : Nat} (hc : c < w * h) : c / w < h := Nat.div_lt_of_lt_mul hc
theorem Plc_t {w h : Nat} (hw : 0 < w) (hh : 0 < h) : Plc (w * h) (tP w h) (tU w h) := by
  refine ⟨fun c hc => ?_, fun c hc => ?_⟩
  · have hx := Nat.mod_lt c hw
    have hy := div_lt2 hc
    have e := Nat.div_add_mod c w
    unfold tP tU
    have q1 := row_lt (w := h) (h := w) (x := h - 1 - c / w) (y := c % w) (rv_lt hy) hx
    have q2 := md (y := c % w) (w := h) (x := h - 1 - c / w) (rv_lt hy)
    refine ⟨by rw [Nat.mul_comm w h]; exact q1, ?_⟩
    rw [q2.1, q2.2, rv_rv hy, Nat.mul_comm (c / w) w]
    exact e
  · rw [Nat.mul_comm w h] at hc
    have hx := Nat.mod_lt c hh
    have hy := div_lt2 hc
    have e := Nat.div_add_mod c h
    unfold tP tU
    have q1 := row_lt (w := w) (h := h) (x := c / h) (y := h - 1 - c % h) hy (by omega)
    have q2 := md (y := h - 1 - c % h) (w := w) (x := c / h) hy
    refine ⟨q1, ?_⟩
    rw [q2.1, q2.2, rv_rv hx, Nat.mul_comm (c / h) h]
    exact e
theorem Plc_m {w h : Nat} (hw : 0 < w) : Plc (w * h) (mP w) (mP w) := by
  have : ∀ c, c < w * h → mP w c < w * h ∧ mP w (mP w c) = c := by
    intro c hc
    have hx := Nat.mod_lt c hw
    have hy := div_lt2 hc
    have e := Nat.div_add_mod c w
    unfold mP
    have q1 := row_lt (w := w) (h := h) (x := w - 1 - c % w) (y := c / w) (by omega) hy
    have q2 := md (y := c / w) (w := w) (x := w - 1 - c % w) (by omega)
    refine ⟨q1, ?_⟩
    rw [q2.1, q2.2, rv_rv hx, Nat.mul_comm (c / w) w]
    exact e
  exact ⟨this, this⟩
theorem tP_i {x h y : Nat} (hy : y < h) : nI x * nI h + nI h - 1 - nI y = nI (x * h + (h - 1 - y)) := by
  rw [pk_mul, nI_add, show (1 : Int32) = nI 1 from rfl, pk_sub (by omega), pk_sub (by omega)]
  exact congrArg nI (by omega)
def cntN (f : Nat → Bool) : Nat → Nat
  | 0 => 0
  | k + 1 => cntN f k + (if f k then 1 else 0)
theorem cntN_s (f : Nat → Bool) (k : Nat) : cntN f (k + 1) = cntN f k + (if f k then 1 else 0) := rfl
theorem cntN_le (f : Nat → Bool) : ∀ k, cntN f k ≤ k
  | 0 => Nat.le_refl _
  | k + 1 => by rw [cntN_s]; have := cntN_le f k; split <;> omega
theorem s_piRel {a : Abs} {pc pl : Nat → Int32} {ps : Int32} {T : Nat → Nat} {Q : (Nat → Int32) → Prop} (hA : AOk a) (hps : ps = nI (aNp a)) (hpc : ∀ p, p < aNp a → pc p = nI (aPc a p)) (hpl : ∀ c, c < aN a → pl c = nI (T c)) (h : ∀ g, (∀ p, p < aNp a → g p = nI (T (aPc a p))) → Q g) : P_pi_relocate pc ps pl Q := by
  obtain ⟨-, hn⟩ := aN_le hA
  have hnp : aNp a ≤ 8 := hA.2.2.2.2.2.1
  subst hps
  unfold P_pi_relocate
  refine cnt0 (fun n i (s : Nat → Int32) => L_pi_relocate_2 (nI (aNp a)) pl Q n s (nI i)) (aNp a) (fun i s => (∀ p, p < i → s p = nI (T (aPc a p))) ∧ ∀ p, i ≤ p → p < aNp a → s p = nI (aPc a p)) pc ⟨fun p hp => absurd hp (Nat.not_lt_zero _), fun p _ hp => hpc p hp⟩ ?_ ?_
  · intro n s hI
    unfold L_pi_relocate_2
    exact br_t (nI_le (Nat.le_refl _) (by omega)) (h s hI.1)
  · intro n i s hi hI ih
    have q := (hA.2.2.2.2.2.2.1 i hi).1
    unfold L_pi_relocate_2
    rw [nI_1 i, cl (n := i) (by omega), hI.2 i (Nat.le_refl _) hi, cl (n := aPc a i) (by omega), hpl _ q]
    refine br_f (nI_ge hi (by omega)) ⟨vI (by omega) (by omega), vI (by omega) (by omega), vI (by omega) (by omega), ih _ ⟨fun p hp => ?_, fun p hp hp2 => ?_⟩⟩
    · by_cases e : p = i
      · subst e; rw [u_s]
      · rw [u_n e]; exact hI.1 p (by omega)
    · rw [u_n (by omega)]; exact hI.2 p (by omega) hp2
theorem s_roRel {a : Abs} {rc rl pl : Nat → Int32} {T : Nat → Nat} {Q : (Nat → Int32) → Prop} (hA : AOk a) (hrl : ∀ k, k < 4 → rl k = nI (aRl a k)) (hrc : ∀ k i, k < 4 → i < aRl a k → rc (6 * k + i) = nI (aRc a k i)) (hpl : ∀ c, c < aN a → pl c = nI (T c)) (h : ∀ g, (∀ k i, k < 4 → i < aRl a k → g (6 * k + i) = nI (T (aRc a k i))) → Q g) : P_ro_relocate rc rl pl Q := by
  obtain ⟨-, hn⟩ := aN_le hA
  have h6 : ∀ k, k < 4 → aRl a k ≤ 6 := hA.2.2.2.2.2.2.2.1
  have hlt : ∀ k i, k < 4 → i < aRl a k → aRc a k i < aN a := hA.2.2.2.2.2.2.2.2.1
  unfold P_ro_relocate
  refine cnt0 (fun n i (s : Nat → Int32) => L_ro_relocate_2 rl pl Q n s (nI i)) 4 (fun j s => ∀ k i, k < 4 → i < aRl a k → s (6 * k + i) = if k < j then nI (T (aRc a k i)) else nI (aRc a k i)) rc (fun k i hk hi => by rw [if_neg (by omega)]; exact hrc k i hk hi) ?_ ?_
  · intro n s hI
    unfold L_ro_relocate_2
    refine br_t (nI_le (a := 4) (b := 4) (Nat.le_refl _) (by omega)) (h s (fun k i hk hi => ?_))
    rw [hI k i hk hi, if_pos hk]
  · intro n j s hj hI ih
    have hj6 := h6 j hj
    unfold L_ro_relocate_2
    refine br_f (nI_ge (b := 4) hj (by omega)) ?_
    refine cnt0 (fun n' i (s : Nat → Int32) => L_ro_relocate_9 rl pl Q (L_ro_relocate_2 rl pl Q n) n' s (nI j) (nI i)) (aRl a j) (fun z s => ∀ k i, k < 4 → i < aRl a k → s (6 * k + i) = if k < j ∨ k = j ∧ i < z then nI (T (aRc a k i)) else nI (aRc a k i)) s (fun k i hk hi => ?_) ?_ ?_
    · rw [hI k i hk hi]
      by_cases e : k < j
      · rw [if_pos e, if_pos (Or.inl e)]
      · rw [if_neg e, if_neg (by omega)]
    · intro n' s' hI'
      unfold L_ro_relocate_9
      rw [cl (by omega), hrl j hj, nI_1 j]
      refine ⟨vI hj (by omega), br_t (nI_le (Nat.le_refl _) (by omega)) (ih s' (fun k i hk hi => ?_))⟩
      rw [hI' k i hk hi]
      by_cases e : k < j + 1
      · rw [if_pos e, if_pos (by rcases Nat.lt_or_ge k j with q | q
                                 · exact Or.inl q
                                 · have : k = j := by omega
                                   subst this; exact Or.inr ⟨rfl, hi⟩)]
      · rw [if_neg e, if_neg (by omega)]
    · intro n' z s' hz hI' ih'
      have hq := hlt j z hj hz
      unfold L_ro_relocate_9
      rw [cl (n := j) (by omega), hrl j hj, nI_1 z, show (6 : Int32) = nI 6 from rfl, pk_mul, nI_add, Nat.mul_comm j 6, cl (n := 6 * j + z) (by omega)]
      have hs := hI' j z hj hz
      rw [if_neg (by omega)] at hs
      rw [hs, cl (n := aRc a j z) (by omega), hpl _ hq]
      refine ⟨vI hj (by omega), br_f (nI_ge hz (by omega)) ⟨vI (by omega) (by omega), vI (by omega) (by omega), vI (by omega) (by omega), ih' _ (fun k i hk hi => ?_)⟩⟩
      have hk6 := h6 k hk
      by_cases e : k = j ∧ i = z
      · obtain ⟨rfl, rfl⟩ := e
        rw [u_s, if_pos (by omega)]
      · rw [u_n (by omega), hI' k i hk hi]
        by_cases e2 : k < j ∨ k = j ∧ i < z
        · rw [if_pos e2, if_pos (by omega)]
        · rw [if_neg e2, if_neg (by omega)]
theorem s_grRel {a a2 : Abs} {gw gh gz x2 x3 : Int32} {gk gb gc gr pl : Nat → Int32} {f c2 st fc lc : Int64} {T U : Nat → Nat} {Q : Int32 → Int32 → Int32 → Int32 → (Nat → Int32) → (Nat → Int32) → (Nat → Int32) → (Nat → Int32) → Int64 → Int64 → Int64 → Int64 → Int64 → Prop} (hA : AOk a) (hA2 : AOk a2) (hN : aN a2 = aN a) (hk2 : ∀ c, c < aN a → aKd a2 c = aKd a (U c)) (hgz : gz = nI (aN a)) (hk : IGk a gk f c2 st) (hpl : ∀ c, c < aN a → pl c = nI (T c)) (hT : Plc (aN a) T U) (hx2 : x2 = nI (aW a2)) (hx3 : x3 = nI (aH a2)) (h : ∀ gk' gb' gc' gr' f' c' s' fc' lc', IGs a2 (nI (aW a2)) (nI (aH a2)) (nI (aN a2)) gc' gr' fc' lc' → IGk a2 gk' f' c' s' → Q (nI (cntN (fun c => aKd a (U c) != aKd a c) (aN a))) (nI (aW a2)) (nI (aH a2)) (nI (aN a2)) gk' gb' gc' gr' f' c' s' fc' lc') : P_gr_relocate gw gh gz gk gb gc gr f c2 st fc lc pl x2 x3 Q := by
  obtain ⟨-, hn⟩ := aN_le hA
  subst hgz hx2 hx3
  unfold P_gr_relocate
  rw [cl (n := aN a) (by omega)]
  refine ⟨nI_pos (by omega), by show 0 + aN a ≤ 64; omega, by show 0 + aN a ≤ 64; omega, ?_⟩
  have hb : ∀ c, c < aN a → va_cpy gk gb (0 : Int32).toNatClampNeg (0 : Int32).toNatClampNeg (aN a) c = nI (aKd a c) := by
    intro c hc
    have := pk_cpy_in (f := gk) (g := gb) (sp := 0) (dp := 0) (n := aN a) (j := c) (by omega) (by omega)
    refine this.trans ?_
    rw [show 0 + (c - 0) = c by omega]
    exact hk.1 c hc
  generalize va_cpy gk gb (0 : Int32).toNatClampNeg (0 : Int32).toNatClampNeg (aN a) = gb2 at *
  refine cnt0 (fun n i (s : Nat → Int32) => L_gr_relocate_20 pl Q n gw gh (nI (aN a)) s gb2 gc gr f c2 st fc lc (nI (aW a2)) (nI (aH a2)) (nI i)) (aN a) (fun i s => ∀ c, c < i → s (T c) = nI (aKd a c)) gk (fun c hc => absurd hc (Nat.not_lt_zero _)) ?_ ?_
  · intro n s hI
    have hs : ∀ c, c < aN a → s c = nI (aKd a (U c)) := fun c hc => by
      have := hI (U c) (hT.2 c hc).1
      rw [(hT.2 c hc).2] at this
      exact this
    have h3 : ∀ c, c < aN a2 → aKd a2 c ≤ 3 := hA2.2.2.1
    unfold L_gr_relocate_20 B_gr_relocate_51
    refine br_t (nI_le (Nat.le_refl _) (by omega)) (s_changeSides hA2.1 hA2.2.1 (fun gc' gr' fc' lc' w1 w2 w3 => ?_))
    refine s_sortKinds (a := a2) rfl (by omega) (fun c hc => by rw [hk2 c (by omega)]; exact hs c (by omega)) h3 (fun f' c' s' hG => ?_)
    refine cnt0 (fun n i (r : Int32) => L_gr_relocate_67 Q n (nI (aW a2)) (nI (aH a2)) (nI (aN a2)) s gb2 gc' gr' f' c' s' fc' lc' r (nI i)) (aN a2) (fun i r => r = nI (cntN (fun c => aKd a (U c) != aKd a c) i)) 0 rfl ?_ ?_
    · rintro n2 _ rfl
      unfold L_gr_relocate_67
      refine br_t (nI_le (Nat.le_refl _) (by omega)) ?_
      rw [hN]
      rw [← hN]
      have := h s gb2 gc' gr' f' c' s' fc' lc' ⟨rfl, rfl, rfl, fun c hc => (w1 c hc).1, fun c hc => (w1 c hc).2, w2, w3⟩ hG
      rw [← hN] at this
      exact this
    · rintro n2 i _ hi rfl ih
      unfold L_gr_relocate_67
      have hUi := hT.2 i (by omega)
      have hi64 : i < 64 := by omega
      rw [nI_1 i, cl (n := i) (by omega), hs i (by omega), hb i (by omega), nI_eq (by have := hA.2.2.1 (U i) hUi.1; omega) (by have := hA.2.2.1 i (by omega); omega)]
      refine br_f (nI_ge hi (by omega)) ⟨vI hi64 (by omega), vI hi64 (by omega), fun e => ?_, fun e => ?_⟩
      · refine ih _ ?_
        rw [cntN_s, e]
        simp
      · refine ih _ ?_
        rw [cntN_s, nI_1]
        simp [e]
  · intro n i s hi hI ih
    have hTi := hT.1 i hi
    unfold L_gr_relocate_20
    rw [nI_1 i, cl (n := i) (by omega), hpl i hi, cl (n := T i) (by omega), hb i hi]
    refine br_f (nI_ge hi (by omega)) ⟨vI (by omega) (by omega), vI (by omega) (by omega), vI (by omega) (by omega), ih _ (fun c hc => ?_)⟩
    by_cases e : c = i
    · subst e; rw [u_s]
    · rw [u_n]
      · exact hI c (by omega)
      · intro q
        have := (hT.1 c (by omega)).2
        rw [q, hTi.2] at this
        exact e this.symm
theorem s_turnF {a : Abs} {pf : Nat → Int32} {ps : Int32} {Q : (Nat → Int32) → Prop} (hA : AOk a) (hps : ps = nI (aNp a)) (hpf : ∀ p, p < aNp a → pf p = nI (aPf a p)) (h : ∀ g, (∀ p, p < aNp a → g p = nI ((aPf a p + 1) % 4)) → Q g) : P_pi_turnFacings pf ps Q := by
  have hnp : aNp a ≤ 8 := hA.2.2.2.2.2.1
  subst hps
  unfold P_pi_turnFacings
  refine cnt0 (fun n i (s : Nat → Int32) => L_pi_turnFacings_2 (nI (aNp a)) Q n s (nI i)) (aNp a) (fun i s => (∀ p, p < i → s p = nI ((aPf a p + 1) % 4)) ∧ ∀ p, i ≤ p → p < aNp a → s p = nI (aPf a p)) pf ⟨fun p hp => absurd hp (Nat.not_lt_zero _), fun p _ hp => hpf p hp⟩ ?_ ?_
  · intro n s hI
    unfold L_pi_turnFacings_2
    exact br_t (nI_le (Nat.le_refl _) (by omega)) (h s hI.1)
  · intro n i s hi hI ih
    have q := (hA.2.2.2.2.2.2.1 i hi).2
    unfold L_pi_turnFacings_2
    rw [nI_1 i, cl (n := i) (by omega), hI.2 i (Nat.le_refl _) hi, nI_1]
    have z3 : nI (aPf a i) = 3 ↔ aPf a i = 3 := nI_eq (b := 3) (by omega) (by omega)
    rw [z3]
    refine br_f (nI_ge hi (by omega)) ⟨vI (by omega) (by omega), fun e => ⟨vI (by omega) (by omega), ih _ ⟨fun p hp => ?_, fun p hp hp2 => ?_⟩⟩, fun e => ⟨vI (by omega) (by omega), vI (by omega) (by omega), ih _ ⟨fun p hp => ?_, fun p hp hp2 => ?_⟩⟩⟩
    · by_cases e2 : p = i
      · subst e2; rw [u_s, e]; rfl
      · rw [u_n e2]; exact hI.1 p (by omega)
    · rw [u_n (by omega)]; exact hI.2 p (by omega) hp2
    · by_cases e2 : p = i
      · subst e2; rw [u_s]; exact congrArg nI (by omega)
      · rw [u_n e2]; exact hI.1 p (by omega)
    · rw [u_n (by omega)]; exact hI.2 p (by omega) hp2
def mF (f : Nat) : Nat := if f = 0 then 2 else if f = 2 then 0 else f
theorem s_mirrorF {a : Abs} {pf : Nat → Int32} {ps : Int32} {Q : (Nat → Int32) → Prop} (hA : AOk a) (hps : ps = nI (aNp a)) (hpf : ∀ p, p < aNp a → pf p = nI (aPf a p)) (h : ∀ g, (∀ p, p < aNp a → g p = nI (mF (aPf a p))) → Q g) : P_pi_mirrorFacings pf ps Q := by
  have hnp : aNp a ≤ 8 := hA.2.2.2.2.2.1
  subst hps
  unfold P_pi_mirrorFacings
  refine cnt0 (fun n i (s : Nat → Int32) => L_pi_mirrorFacings_2 (nI (aNp a)) Q n s (nI i)) (aNp a) (fun i s => (∀ p, p < i → s p = nI (mF (aPf a p))) ∧ ∀ p, i ≤ p → p < aNp a → s p = nI (aPf a p)) pf ⟨fun p hp => absurd hp (Nat.not_lt_zero _), fun p _ hp => hpf p hp⟩ ?_ ?_
  · intro n s hI
    unfold L_pi_mirrorFacings_2
    exact br_t (nI_le (Nat.le_refl _) (by omega)) (h s hI.1)
  · intro n i s hi hI ih
    have q := (hA.2.2.2.2.2.2.1 i hi).2
    have hsi := hI.2 i (Nat.le_refl _) hi
    unfold L_pi_mirrorFacings_2
    rw [nI_1 i, cl (n := i) (by omega), hsi, cl (n := aPf a i) (by omega)]
    refine br_f (nI_ge hi (by omega)) ⟨vI (by omega) (by omega), vI (by omega) (by omega), fun e => ih _ ⟨fun p hp => ?_, fun p hp hp2 => ?_⟩, fun e => ⟨vI (by omega) (by omega), vI (by omega) (by omega), ih _ ⟨fun p hp => ?_, fun p hp hp2 => ?_⟩⟩⟩
    · by_cases e2 : p = i
      · subst e2
        rw [hsi]
        unfold mF
        have h0 : ¬ aPf a p = 0 := fun q => by rw [q] at e; exact absurd e (by decide)
        have h2 : ¬ aPf a p = 2 := fun q => by rw [q] at e; exact absurd e (by decide)
        rw [if_neg h0, if_neg h2]
      · exact hI.1 p (by omega)
    · exact hI.2 p (by omega) hp2
    · by_cases e2 : p = i
      · subst e2
        rw [u_s]
        unfold mF
        have : aPf a p = 0 ∨ aPf a p = 1 ∨ aPf a p = 2 ∨ aPf a p = 3 := by omega
        rcases this with z | z | z | z
        · rw [z]; rfl
        · rw [z] at e; exact absurd rfl e
        · rw [z]; rfl
        · rw [z] at e; exact absurd rfl e
      · rw [u_n e2]; exact hI.1 p (by omega)
    · rw [u_n (by omega)]; exact hI.2 p (by omega) hp2
def aTurn (a : Abs) : Abs := (aH a, aW a, (fun c => aKd a (tU (aW a) (aH a) c)), aLw a, aRg a, aNp a, (fun p => tP (aW a) (aH a) (aPc a p)), (fun p => (aPf a p + 1) % 4), aRl a, (fun k i => tP (aW a) (aH a) (aRc a k i)), aRs a)
def aMir (a : Abs) : Abs := (aW a, aH a, (fun c => aKd a (mP (aW a) c)), aLw a, aRg a, aNp a, (fun p => mP (aW a) (aPc a p)), (fun p => mF (aPf a p)), aRl a, (fun k i => mP (aW a) (aRc a k i)), aRs a)
theorem aN_t (a : Abs) : aN (aTurn a) = aN a := Nat.mul_comm _ _
theorem aOk_t {a : Abs} (hA : AOk a) : AOk (aTurn a) := by
  have hT := Plc_t (w := aW a) (h := aH a) (by have := hA.1; omega) (by have := hA.2.1; omega)
  obtain ⟨b1, b2, b3, b4, b5, b6, b7, b8, b9, b10⟩ := hA
  refine ⟨b2, b1, fun c hc => ?_, b4, b5, b6, fun p hp => ⟨?_, Nat.mod_lt _ (by decide)⟩, b8, fun k i hk hi => ?_, b10⟩
  · rw [aN_t] at hc; exact b3 _ (hT.2 c hc).1
  · rw [aN_t]; exact (hT.1 _ (b7 p hp).1).1
  · rw [aN_t]; exact (hT.1 _ (b9 k i hk hi)).1
theorem aOk_m {a : Abs} (hA : AOk a) : AOk (aMir a) := by
  have hT := Plc_m (w := aW a) (h := aH a) (by have := hA.1; omega)
  obtain ⟨b1, b2, b3, b4, b5, b6, b7, b8, b9, b10⟩ := hA
  refine ⟨b1, b2, fun c hc => b3 _ (hT.2 c hc).1, b4, b5, b6, fun p hp => ⟨(hT.1 _ (b7 p hp).1).1, ?_⟩, b8, fun k i hk hi => (hT.1 _ (b9 k i hk hi)).1, b10⟩
  show mF (aPf a p) < 4
  have := (b7 p hp).2
  unfold mF
  split
  · omega
  · split <;> omega
theorem s_mturned {w h c : Nat} {Q : Int32 → Prop} (hw : 0 < w) (hh : 0 < h) (hc : c < w * h) (hb : w * h ≤ 64) (hw8 : w ≤ 8) (hQ : Q (nI (tP w h c))) : P_mo_turned (nI w) (nI h) (nI c) Q := by
  have hne : ¬ nI w = 0 := nI_ne0 hw (by omega)
  unfold P_mo_turned
  rw [pk_rem (by omega) hw (by omega), pk_div (by omega) hw (by omega), tP_i (div_lt2 hc)]
  exact ⟨hne, hne, hQ⟩
theorem s_mmirrored {w h c : Nat} {Q : Int32 → Prop} (hw : 0 < w) (hc : c < w * h) (hb : w * h ≤ 64) (hw8 : w ≤ 8) (hQ : Q (nI (mP w c))) : P_mo_mirrored (nI w) (nI c) Q := by
  have hne : ¬ nI w = 0 := nI_ne0 hw (by omega)
  unfold P_mo_mirrored
  rw [pk_rem (by omega) hw (by omega), pk_div (by omega) hw (by omega), tP_i (Nat.mod_lt c hw)]
  exact ⟨hne, hne, hQ⟩
