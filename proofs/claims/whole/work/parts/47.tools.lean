def bI (b : Bool) : Int32 := if b then 1 else 0
theorem bI_t : bI true = 1 := rfl
theorem bI_f : bI false = 0 := rfl
theorem aN_le {a : Abs} (h : AOk a) : 4 ≤ aN a ∧ aN a ≤ 64 := by
  obtain ⟨⟨h1, h2⟩, ⟨h3, h4⟩, -⟩ := h
  unfold aN
  constructor
  · exact Nat.mul_le_mul h1 h3
  · exact Nat.mul_le_mul h2 h4
theorem lg_lt (x y : Int64) : lg_cmp x y < 0 ↔ x.toInt < y.toInt := by
  rw [← Int64.lt_iff_toInt_lt]
  unfold lg_cmp
  by_cases h1 : y < x
  · rw [if_pos h1]
    have h2 := Int64.lt_iff_toInt_lt.mp h1
    have h3 : ¬ x < y := fun q => by have := Int64.lt_iff_toInt_lt.mp q; omega
    exact ⟨fun q => absurd q (by decide), fun q => absurd q h3⟩
  · rw [if_neg h1]
    by_cases h2 : x = y
    · rw [if_pos h2]
      subst h2
      exact ⟨fun q => absurd q (by decide), fun q => absurd q h1⟩
    · rw [if_neg h2]
      refine ⟨fun _ => ?_, fun _ => by decide⟩
      rw [Int64.lt_iff_toInt_lt] at h1 ⊢
      have : x.toInt ≠ y.toInt := fun q => h2 (Int64.toInt_inj.mp q)
      omega
theorem lg_gt (x y : Int64) : 0 < lg_cmp x y ↔ y.toInt < x.toInt := by
  rw [← Int64.lt_iff_toInt_lt]
  unfold lg_cmp
  by_cases h1 : y < x
  · rw [if_pos h1]
    exact ⟨fun _ => h1, fun _ => by decide⟩
  · rw [if_neg h1]
    by_cases h2 : x = y
    · rw [if_pos h2]
      exact ⟨fun q => absurd q (by decide), fun q => absurd q h1⟩
    · rw [if_neg h2]
      exact ⟨fun q => absurd q (by decide), fun q => absurd q h1⟩
theorem lg_eq (x y : Int64) : lg_cmp x y = 0 ↔ x = y := by
  unfold lg_cmp
  by_cases h1 : y < x
  · rw [if_pos h1]
    refine ⟨fun q => absurd q (by decide), fun q => ?_⟩
    subst q
    have := Int64.lt_iff_toInt_lt.mp h1
    omega
  · rw [if_neg h1]
    by_cases h2 : x = y
    · rw [if_pos h2]; exact ⟨fun _ => h2, fun _ => rfl⟩
    · rw [if_neg h2]; exact ⟨fun q => absurd q (by decide), fun q => absurd q h2⟩
theorem inY {x0 x2 x4 : Int64} {Q : Int32 → Prop} (h1 : x2.toInt ≤ x0.toInt) (h2 : x0.toInt ≤ x4.toInt) (h : Q 1) : P_mo_in x0 x2 x4 Q := by
  unfold P_mo_in
  exact br_f (by rw [lg_lt]; omega) (br_f (by rw [lg_gt]; omega) h)
theorem inN {x0 x2 x4 : Int64} {Q : Int32 → Prop} (h1 : x0.toInt < x2.toInt ∨ x4.toInt < x0.toInt) (h : Q 0) : P_mo_in x0 x2 x4 Q := by
  unfold P_mo_in
  refine ⟨fun _ => h, fun q => ?_⟩
  rw [lg_lt] at q
  exact br_t (by rw [lg_gt]; omega) h
theorem w64 (x : Int32) : (Int32.toInt64 x).toInt = x.toInt := Int32.toInt_toInt64 x
theorem tI {n : Nat} (h : n < 2147483648) : (nI n).toInt = (n : Int) := nI_toInt h
theorem ltz {x : Int32} : x < 0 ↔ x.toInt < 0 := Int32.lt_iff_toInt_lt
theorem leI {x y : Int32} : x ≤ y ↔ x.toInt ≤ y.toInt := Int32.le_iff_toInt_le
theorem ltI {x y : Int32} : x < y ↔ x.toInt < y.toInt := Int32.lt_iff_toInt_lt
/-- an int, among n or not -/
theorem ixc (x : Int32) {n : Nat} (hn : n < 2147483648) : (x.toInt < 0 ∨ (n : Int) ≤ x.toInt) ∨ ∃ j : Nat, j < n ∧ x = nI j := by
  rcases pk_ix x hn with h | h | h
  · exact Or.inl (Or.inl (ltz.mp h))
  · rw [leI, tI hn] at h
    exact Or.inl (Or.inr h)
  · exact Or.inr h
theorem gcN {n : Nat} {x : Int32} {Q : Int32 → Prop} (hn : n < 2147483648) (hx : x.toInt < 0 ∨ (n : Int) ≤ x.toInt) (h : Q 0) : P_gr_isCell (nI n) x Q := by
  unfold P_gr_isCell
  refine ⟨fun _ => h, fun q => br_t ?_ h⟩
  rw [ltz] at q
  rw [leI, tI hn]
  omega
theorem gcY {n j : Nat} {Q : Int32 → Prop} (hn : n < 2147483648) (hj : j < n) (h : Q 1) : P_gr_isCell (nI n) (nI j) Q := by
  unfold P_gr_isCell
  exact br_f (by rw [ltz, tI (by omega)]; omega) (br_f (by rw [leI, tI hn, tI (by omega)]; omega) h)
theorem piN {n : Nat} {x : Int32} {Q : Int32 → Prop} (hn : n < 2147483648) (hx : x.toInt < 0 ∨ (n : Int) ≤ x.toInt) (h : Q 0) : P_pi_isPicture (nI n) x Q := gcN hn hx h
theorem piY {n j : Nat} {Q : Int32 → Prop} (hn : n < 2147483648) (hj : j < n) (h : Q 1) : P_pi_isPicture (nI n) (nI j) Q := gcY hn hj h
theorem m1T {n : Nat} (hn : n < 1073741824) : (nI n - 1).toInt = (n : Int) - 1 := pk_sub_toInt (b := 1) (by omega) (by omega)
theorem mcN {w h : Nat} {x : Int32} {Q : Int32 → Prop} (hn : w * h < 1073741824) (hx : x.toInt < 0 ∨ ((w * h : Nat) : Int) ≤ x.toInt) (hQ : Q 0) : P_mo_isCell (nI w) (nI h) x Q := by
  unfold P_mo_isCell
  refine inN ?_ ⟨Or.inl rfl, hQ⟩
  rw [w64, w64, pk_mul, m1T hn]
  show x.toInt < 0 ∨ _
  omega
theorem mcY {w h j : Nat} {Q : Int32 → Prop} (hn : w * h < 1073741824) (hj : j < w * h) (hQ : Q 1) : P_mo_isCell (nI w) (nI h) (nI j) Q := by
  unfold P_mo_isCell
  refine inY ?_ ?_ ⟨Or.inr rfl, hQ⟩
  · rw [w64, tI (by omega)]; show (0 : Int) ≤ _; omega
  · rw [w64, w64, pk_mul, m1T hn, tI (by omega)]; omega
theorem mpN {n : Nat} {x : Int32} {Q : Int32 → Prop} (hn : n < 1073741824) (hx : x.toInt < 0 ∨ (n : Int) ≤ x.toInt) (hQ : Q 0) : P_mo_isPicture (nI n) x Q := by
  unfold P_mo_isPicture
  refine inN ?_ ⟨Or.inl rfl, hQ⟩
  rw [w64, w64, m1T hn]
  show x.toInt < 0 ∨ _
  omega
theorem mpY {n j : Nat} {Q : Int32 → Prop} (hn : n < 1073741824) (hj : j < n) (hQ : Q 1) : P_mo_isPicture (nI n) (nI j) Q := by
  unfold P_mo_isPicture
  refine inY ?_ ?_ ⟨Or.inr rfl, hQ⟩
  · rw [w64, tI (by omega)]; show (0 : Int) ≤ _; omega
  · rw [w64, w64, m1T hn, tI (by omega)]; omega
theorem vI {n N : Nat} (h : n < N) (hN : N < 2147483648) : vp_in (nI n) N := vp_in_nI h hN
theorem cl {n : Nat} (h : n < 2147483648) : (nI n).toNatClampNeg = n := nI_clamp h
theorem one_ne : ¬ (1 : Int32) = 0 := by decide
/-! yes or no -/
theorem brB {b : Bool} {A B : Prop} (hf : b = false → A) (ht : b = true → B) : (bI b = 0 → A) ∧ (¬ bI b = 0 → B) := by
  cases b
  · exact ⟨fun _ => hf rfl, fun q => absurd rfl q⟩
  · exact ⟨fun q => absurd q (by decide), fun _ => ht rfl⟩
theorem brF {b : Bool} {A B : Prop} (h : b = false) (hA : A) : (bI b = 0 → A) ∧ (¬ bI b = 0 → B) := by subst h; exact ⟨fun _ => hA, fun q => absurd rfl q⟩
theorem brT {b : Bool} {A B : Prop} (h : b = true) (hB : B) : (bI b = 0 → A) ∧ (¬ bI b = 0 → B) := by subst h; exact ⟨fun q => absurd q (by decide), fun _ => hB⟩
theorem bI_01 (b : Bool) : bI b = 0 ∨ bI b = 1 := by cases b <;> decide
def isC (n : Nat) (x : Int32) : Bool := decide (0 ≤ x.toInt ∧ x.toInt < n)
def isR (lo hi : Int) (x : Int32) : Bool := decide (lo ≤ x.toInt ∧ x.toInt ≤ hi)
theorem isC_of {n : Nat} {x : Int32} (hn : n < 2147483648) (h : isC n x = true) : ∃ j : Nat, j < n ∧ x = nI j := by
  have h1 := of_decide_eq_true h
  rcases ixc x hn with q | q
  · omega
  · exact q
theorem isC_n {n j : Nat} (hj : j < n) (hn : n < 2147483648) : isC n (nI j) = true := by
  unfold isC
  rw [tI (by omega)]
  exact decide_eq_true (by omega)
theorem isC_no {n : Nat} {x : Int32} (h : isC n x = false) : x.toInt < 0 ∨ (n : Int) ≤ x.toInt := by
  have := of_decide_eq_false h
  omega
theorem s_gc {n : Nat} {g x : Int32} {Q : Int32 → Prop} (hg : g = nI n) (hn : n < 2147483648) (h : Q (bI (isC n x))) : P_gr_isCell g x Q := by
  subst hg
  cases hb : isC n x with
  | false => rw [hb] at h; exact gcN hn (isC_no hb) h
  | true => rw [hb] at h; obtain ⟨j, hj, rfl⟩ := isC_of hn hb; exact gcY hn hj h
theorem s_pi {n : Nat} {g x : Int32} {Q : Int32 → Prop} (hg : g = nI n) (hn : n < 2147483648) (h : Q (bI (isC n x))) : P_pi_isPicture g x Q := s_gc hg hn h
theorem s_mc {w h : Nat} {g g' x : Int32} {Q : Int32 → Prop} (hg : g = nI w) (hg' : g' = nI h) (hn : w * h < 1073741824) (hQ : Q (bI (isC (w * h) x))) : P_mo_isCell g g' x Q := by
  subst hg hg'
  cases hb : isC (w * h) x with
  | false => rw [hb] at hQ; exact mcN hn (isC_no hb) hQ
  | true => rw [hb] at hQ; obtain ⟨j, hj, rfl⟩ := isC_of (by omega) hb; exact mcY hn hj hQ
theorem s_mp {n : Nat} {g x : Int32} {Q : Int32 → Prop} (hg : g = nI n) (hn : n < 1073741824) (hQ : Q (bI (isC n x))) : P_mo_isPicture g x Q := by
  subst hg
  cases hb : isC n x with
  | false => rw [hb] at hQ; exact mpN hn (isC_no hb) hQ
  | true => rw [hb] at hQ; obtain ⟨j, hj, rfl⟩ := isC_of (by omega) hb; exact mpY hn hj hQ
theorem s_in {x : Int32} {lo hi : Int64} {l h : Int} {Q : Int32 → Prop} (hl : lo.toInt = l) (hh : hi.toInt = h) (hQ : Q (bI (isR l h x))) : P_mo_in (Int32.toInt64 x) lo hi Q := by
  cases hb : isR l h x with
  | false =>
    rw [hb] at hQ
    have := of_decide_eq_false hb
    exact inN (by rw [w64, hl, hh]; omega) hQ
  | true =>
    rw [hb] at hQ
    have := of_decide_eq_true hb
    exact inY (by rw [w64, hl]; omega) (by rw [w64, hh]; omega) hQ
/-- the class's way to look at a range -/
theorem chk {x lo hi : Int32} {l h : Int} {A B : Prop} (hl : lo.toInt = l) (hh : hi.toInt = h) (hf : isR l h x = false → B) (ht : isR l h x = true → A) : (x < lo → B) ∧ (¬ x < lo → ((x ≤ hi → A) ∧ (¬ x ≤ hi → B))) := by
  rw [ltI, leI, hl, hh]
  refine ⟨fun q => hf (decide_eq_false (by omega)), fun q => ⟨fun q2 => ht (decide_eq_true (by omega)), fun q2 => hf (decide_eq_false (by omega))⟩⟩
theorem chk2 {x lo hi : Int32} {l h : Int} {A B : Prop} (hl : lo.toInt = l) (hh : hi.toInt = h) (hf : isR l h x = false → B) (ht : isR l h x = true → A) : (x < lo → B) ∧ (¬ x < lo → ((hi < x → B) ∧ (¬ hi < x → A))) := by
  rw [ltI, ltI, hl, hh]
  refine ⟨fun q => hf (decide_eq_false (by omega)), fun q => ⟨fun q2 => hf (decide_eq_false (by omega)), fun q2 => ht (decide_eq_true (by omega))⟩⟩
theorem isR_of {h : Nat} {x : Int32} (hb : isR 0 h x = true) (hn : h < 2147483647) : ∃ j : Nat, j ≤ h ∧ x = nI j := by
  have h1 := of_decide_eq_true hb
  rcases ixc x (n := h + 1) (by omega) with q | ⟨j, hj, q⟩
  · omega
  · exact ⟨j, by omega, q⟩
theorem isR_of2 {l h : Nat} {x : Int32} (hb : isR l h x = true) (hn : h < 2147483647) : ∃ j : Nat, l ≤ j ∧ j ≤ h ∧ x = nI j := by
  have h1 := of_decide_eq_true hb
  rcases ixc x (n := h + 1) (by omega) with q | ⟨j, hj, q⟩
  · omega
  · refine ⟨j, ?_, by omega, q⟩
    rw [q, tI (by omega)] at h1
    omega
theorem isR_n {l h j : Nat} (h1 : l ≤ j) (h2 : j ≤ h) (hn : h < 2147483647) : isR l h (nI j) = true := by
  unfold isR
  rw [tI (by omega)]
  exact decide_eq_true (by omega)
/-- an entry of an array of ints -/
theorem u_s {f : Nat → Int32} {k : Nat} {x : Int32} : upd f k x k = x := by simp [upd]
theorem u_n {f : Nat → Int32} {k j : Nat} {x : Int32} (h : j ≠ k) : upd f k x j = f j := by simp [upd, h]
/-! bits of a long -/
theorem bt_or (x y : Int64) (i : Nat) : bt (x ||| y) i = (bt x i || bt y i) := by unfold bt; rw [Int64.toBitVec_or, BitVec.getLsbD_or]
theorem bt_and (x y : Int64) (i : Nat) : bt (x &&& y) i = (bt x i && bt y i) := by unfold bt; rw [Int64.toBitVec_and, BitVec.getLsbD_and]
theorem bt_0 (i : Nat) : bt 0 i = false := by unfold bt; show (0#64).getLsbD i = false; simp
theorem bt_big (x : Int64) {i : Nat} (h : 64 ≤ i) : bt x i = false := by unfold bt; exact BitVec.getLsbD_of_ge _ _ h
theorem bt_not (x : Int64) {i : Nat} (h : i < 64) : bt (x ^^^ (-1)) i = !bt x i := by
  unfold bt
  rw [Int64.toBitVec_xor, BitVec.getLsbD_xor]
  have : (-1 : Int64).toBitVec = BitVec.allOnes 64 := by decide
  rw [this, BitVec.getLsbD_allOnes]
  simp [h]
theorem bt_ext {x y : Int64} (h : ∀ i, i < 64 → bt x i = bt y i) : x = y := by
  apply Int64.toBitVec_inj.mp
  apply BitVec.eq_of_getLsbD_eq
  intro i hi
  exact h i hi
theorem sh_c : ∀ k, k < 64 → ((nI k).toInt64 &&& 63) = lN k := by decide +kernel
theorem sh_u : ∀ k, k < 64 → ((nI k).toInt64.toUInt64 &&& Int64.toUInt64 63) = UInt64.ofNat k := by decide +kernel
theorem sh_m : ∀ k, k < 64 → ((lN k).toBitVec.smod 64).toNat = k := by decide +kernel
theorem bt_shl (x : Int64) {k : Nat} (hk : k < 64) {i : Nat} (hi : i < 64) : bt (x <<< (Int32.toInt64 (nI k) &&& 63)) i = (decide (k ≤ i) && bt x (i - k)) := by
  unfold bt
  rw [sh_c k hk, Int64.toBitVec_shiftLeft]
  show (x.toBitVec <<< ((lN k).toBitVec.smod 64).toNat).getLsbD i = _
  rw [sh_m k hk, BitVec.getLsbD_shiftLeft]
  rcases Nat.lt_or_ge i k with h | h
  · simp [h, Nat.not_le.mpr h]
  · simp [hi, h, Nat.not_lt.mpr h]
theorem bt_1 (i : Nat) : bt 1 i = decide (i = 0) := by
  unfold bt
  show (1#64).getLsbD i = _
  simp
theorem bt_one {k i : Nat} (hk : k < 64) (hi : i < 64) : bt ((1 : Int64) <<< (Int32.toInt64 (nI k) &&& 63)) i = decide (i = k) := by
  rw [bt_shl _ hk hi, bt_1]
  rcases Nat.lt_trichotomy i k with h | h | h
  · simp [Nat.not_le.mpr h, Nat.ne_of_lt h]
  · subst h; simp
  · have h2 : ¬ i - k = 0 := by omega
    have h3 : ¬ i = k := by omega
    simp [h2, h3]
theorem sh_t : ∀ k, k < 64 → (UInt64.ofNat k).toNat = k := by decide +kernel
theorem bt_ushr (x : Int64) {k : Nat} (hk : k < 64) (i : Nat) : bt ((Int64.toUInt64 x >>> ((Int32.toInt64 (nI k)).toUInt64 &&& Int64.toUInt64 63)).toInt64) i = bt x (k + i) := by
  rw [sh_u k hk]
  have e : ((x.toUInt64 >>> UInt64.ofNat k).toInt64).toBitVec = x.toBitVec >>> k := by
    apply BitVec.eq_of_toNat_eq
    show (x.toUInt64 >>> UInt64.ofNat k).toNat = _
    rw [UInt64.toNat_shiftRight, sh_t k hk, Nat.mod_eq_of_lt hk, BitVec.toNat_ushiftRight]
    rfl
  unfold bt
  rw [e, BitVec.getLsbD_ushiftRight]
theorem bt_and1 (y : Int64) : (y &&& 1) = 0 ↔ bt y 0 = false := by
  constructor
  · intro h
    have h1 : bt (y &&& 1) 0 = false := by rw [h]; exact bt_0 0
    rw [bt_and, bt_1] at h1
    simpa using h1
  · intro h
    apply bt_ext
    intro i hi
    rw [bt_and, bt_1, bt_0]
    by_cases hz : i = 0
    · subst hz; simp [h]
    · simp [hz]
theorem holds_bt (x : Int64) {c : Nat} (hc : c < 64) : (lg_cmp (((Int64.toUInt64 x >>> ((Int32.toInt64 (nI c)).toUInt64 &&& Int64.toUInt64 63)).toInt64) &&& (1 : Int64)) (0 : Int64)) = 0 ↔ bt x c = false := by
  rw [lg_eq, bt_and1, bt_ushr x hc, Nat.add_zero]
theorem s_holds {x : Int64} {c : Nat} {Q : Int32 → Prop} (hc : c < 64) (h : Q (bI (bt x c))) : P_wh_holds x (nI c) Q := by
  unfold P_wh_holds
  cases hb : bt x c with
  | false => rw [hb] at h; exact br_t ((holds_bt x hc).mpr hb) h
  | true => rw [hb] at h; exact br_f (fun q => by rw [(holds_bt x hc).mp q] at hb; cases hb) h
theorem s_isFloor {a : Abs} {gk : Nat → Int32} {f c2 st : Int64} {c : Nat} {Q : Int32 → Prop} (hG : IGk a gk f c2 st) (hn : aN a ≤ 64) (hc : c < aN a) (h : Q (bI (flr a c))) : P_gr_isFloor f (nI c) Q := by
  unfold P_gr_isFloor
  refine s_holds (by omega) ⟨bI_01 _, ?_⟩
  rw [hG.2.1 c (by omega), decide_eq_true hc, Bool.true_and]
  exact h
theorem s_mayStand {a : Abs} {gk : Nat → Int32} {f c2 st : Int64} {c : Nat} {Q : Int32 → Prop} (hG : IGk a gk f c2 st) (hn : aN a ≤ 64) (hc : c < aN a) (h : Q (bI (std a c))) : P_gr_mayStand st (nI c) Q := by
  unfold P_gr_mayStand
  refine s_holds (by omega) ⟨bI_01 _, ?_⟩
  rw [hG.2.2.2 c (by omega), decide_eq_true hc, Bool.true_and]
  exact h
theorem s_isClear {a : Abs} {gk : Nat → Int32} {gw : Int32} {f c2 st : Int64} {x y : Nat} {Q : Int32 → Prop} (hG : IGk a gk f c2 st) (hw : gw = nI (aW a)) (hn : aN a ≤ 64) (hc : y * aW a + x < aN a) (h : Q (bI (clr a (y * aW a + x)))) : P_gr_isClear gw c2 (nI x) (nI y) Q := by
  subst hw
  unfold P_gr_isClear
  rw [pk_mul, nI_add]
  have hb := hG.2.2.1 (y * aW a + x) (by omega)
  rw [decide_eq_true hc, Bool.true_and] at hb
  rw [← hb] at h
  cases hq : bt c2 (y * aW a + x) with
  | false => rw [hq] at h; exact br_t ((holds_bt c2 (by omega)).mpr hq) h
  | true => rw [hq] at h; exact br_f (fun q => by rw [(holds_bt c2 (by omega)).mp q] at hq; cases hq) h
theorem s_col {f : Nat → Int32} {c : Nat} {Q : Int32 → Prop} (hc : c < 64) (h : Q (f c)) : P_gr_columnOf f (nI c) Q := by
  unfold P_gr_columnOf
  exact ⟨vI hc (by omega), by rw [cl (by omega)]; exact h⟩
theorem s_row {f : Nat → Int32} {c : Nat} {Q : Int32 → Prop} (hc : c < 64) (h : Q (f c)) : P_gr_rowOf f (nI c) Q := by
  unfold P_gr_rowOf
  exact ⟨vI hc (by omega), by rw [cl (by omega)]; exact h⟩
theorem kd0 {a : Abs} {c k : Nat} (h : aKd a c ≤ 3) (hk : k ≤ 3) : nI (aKd a c) = nI k ↔ aKd a c = k := nI_eq (by omega) (by omega)
theorem s_mstands {a : Abs} {mk : Nat → Int32} {c : Nat} {Q : Int32 → Prop} (hA : AOk a) (hm : ∀ c, c < aN a → mk c = nI (aKd a c)) (hc : c < aN a) (h : Q (bI (std a c))) : P_mo_stands mk (nI c) Q := by
  have hn := aN_le hA
  have h3 := hA.2.2.1 c hc
  unfold P_mo_stands
  rw [cl (by omega), hm c hc]
  refine ⟨vI (by omega) (by omega), fun q => ?_, fun q => ⟨vI (by omega) (by omega), fun q2 => ?_, fun q2 => ?_⟩⟩
  · have e : aKd a c = 0 := (kd0 h3 (by omega)).mp q
    have : std a c = true := by unfold std; rw [e]; rfl
    rw [this] at h; exact h
  · have e : aKd a c = 3 := (kd0 h3 (by omega)).mp q2
    have : std a c = true := by unfold std; rw [e]; rfl
    rw [this] at h; exact h
  · have e0 : ¬ aKd a c = 0 := fun e => q ((kd0 h3 (k := 0) (by omega)).mpr e)
    have e3 : ¬ aKd a c = 3 := fun e => q2 ((kd0 h3 (k := 3) (by omega)).mpr e)
    have : std a c = false := by unfold std; simp [e0, e3]
    rw [this] at h; exact h
theorem s_mclear {a : Abs} {mk : Nat → Int32} {mw : Int32} {x y : Nat} {Q : Int32 → Prop} (hA : AOk a) (hm : ∀ c, c < aN a → mk c = nI (aKd a c)) (hw : mw = nI (aW a)) (hc : y * aW a + x < aN a) (h : Q (bI (clr a (y * aW a + x)))) : P_mo_isClear mw mk (nI x) (nI y) Q := by
  have hn := aN_le hA
  have h3 := hA.2.2.1 _ hc
  subst hw
  unfold P_mo_isClear
  rw [pk_mul, nI_add, cl (by omega), hm _ hc]
  refine ⟨vI (by omega) (by omega), ?_⟩
  rintro _ rfl
  refine ⟨fun q => ?_, fun q => ⟨fun q2 => ?_, fun q2 => ?_⟩⟩
  · have e : aKd a (y * aW a + x) = 0 := (kd0 h3 (by omega)).mp q
    have : clr a (y * aW a + x) = true := by unfold clr; rw [e]; rfl
    rw [this] at h; exact h
  · have e : aKd a (y * aW a + x) = 2 := (kd0 h3 (by omega)).mp q2
    have : clr a (y * aW a + x) = true := by unfold clr; rw [e]; rfl
    rw [this] at h; exact h
  · have e0 : ¬ aKd a (y * aW a + x) = 0 := fun e => q ((kd0 h3 (k := 0) (by omega)).mpr e)
    have e3 : ¬ aKd a (y * aW a + x) = 2 := fun e => q2 ((kd0 h3 (k := 2) (by omega)).mpr e)
    have : clr a (y * aW a + x) = false := by unfold clr; simp [e0, e3]
    rw [this] at h; exact h
