/-! steps from cell to cell -/
def dX (d : Nat) : Int := if d = 0 then 1 else if d = 2 then -1 else 0
def dY (d : Nat) : Int := if d = 1 then 1 else if d = 3 then -1 else 0
theorem dX_b (d : Nat) : -1 ≤ dX d ∧ dX d ≤ 1 := by unfold dX; split <;> (try split) <;> omega
theorem dY_b (d : Nat) : -1 ≤ dY d ∧ dY d ≤ 1 := by unfold dY; split <;> (try split) <;> omega
theorem mvX_i {d : Nat} (h : d < 5) : mvX d = iI (dX d) := by
  rcases (show d = 0 ∨ d = 1 ∨ d = 2 ∨ d = 3 ∨ d = 4 by omega) with rfl | rfl | rfl | rfl | rfl <;> decide
theorem mvY_i {d : Nat} (h : d < 5) : mvY d = iI (dY d) := by
  rcases (show d = 0 ∨ d = 1 ∨ d = 2 ∨ d = 3 ∨ d = 4 by omega) with rfl | rfl | rfl | rfl | rfl <;> decide
def oI (e : Int32) : Option Nat → Int32
  | none => e
  | some n => nI n
/-- in column X, row Y of the hall -/
def inH (a : Abs) (X Y : Int) : Prop := 0 ≤ X ∧ X < (aW a : Int) ∧ 0 ≤ Y ∧ Y < (aH a : Int)
def at_ (a : Abs) (X Y : Int) : Nat := Y.toNat * aW a + X.toNat
def stp (a : Abs) (c d : Nat) : Option Nat :=
  if 0 ≤ (c % aW a : Nat) + dX d ∧ ((c % aW a : Nat) : Int) + dX d < (aW a : Int) ∧ 0 ≤ ((c / aW a : Nat) : Int) + dY d ∧ ((c / aW a : Nat) : Int) + dY d < (aH a : Int) ∧ std a (at_ a (((c % aW a : Nat) : Int) + dX d) (((c / aW a : Nat) : Int) + dY d)) = true then some (at_ a (((c % aW a : Nat) : Int) + dX d) (((c / aW a : Nat) : Int) + dY d)) else none
theorem at_lt {a : Abs} {X Y : Int} (h1 : 0 ≤ X) (h2 : X < (aW a : Int)) (h3 : 0 ≤ Y) (h4 : Y < (aH a : Int)) : at_ a X Y < aN a := by
  unfold at_ aN
  have h5 : (Y.toNat + 1) * aW a ≤ aH a * aW a := Nat.mul_le_mul_right _ (by omega)
  rw [Nat.add_mul, Nat.one_mul, Nat.mul_comm (aH a)] at h5
  omega
theorem at_xy {a : Abs} {X Y : Int} (h1 : 0 ≤ X) (h2 : X < (aW a : Int)) (h3 : 0 ≤ Y) : ((at_ a X Y % aW a : Nat) : Int) = X ∧ ((at_ a X Y / aW a : Nat) : Int) = Y := by
  unfold at_
  rw [(md (show X.toNat < aW a by omega)).1, (md (show X.toNat < aW a by omega)).2]
  omega
theorem at_self {a : Abs} (hA : AOk a) (c : Nat) : at_ a ((c % aW a : Nat) : Int) ((c / aW a : Nat) : Int) = c := by
  unfold at_
  rw [Int.toNat_natCast, Int.toNat_natCast, Nat.mul_comm]
  exact Nat.div_add_mod c (aW a)
theorem iI_at {a : Abs} {X Y : Int} (h1 : 0 ≤ X) (h3 : 0 ≤ Y) : iI Y * nI (aW a) + iI X = nI (at_ a X Y) := by
  rw [iI_nat, iI_mul, iI_add, iI_nat]
  unfold at_
  congr 1
  rw [Int.natCast_add, Int.natCast_mul, Int.toNat_of_nonneg h3, Int.toNat_of_nonneg h1]
theorem xy_lt {a : Abs} (hA : AOk a) {c : Nat} (hc : c < aN a) : c % aW a < aW a ∧ c / aW a < aH a := by
  have hw : 0 < aW a := by have := hA.1.1; omega
  refine ⟨Nat.mod_lt _ hw, ?_⟩
  rw [Nat.div_lt_iff_lt_mul hw, Nat.mul_comm]
  exact hc
theorem stp_some {a : Abs} {c d y : Nat} (h : stp a c d = some y) : y < aN a ∧ std a y = true ∧ ((y % aW a : Nat) : Int) = ((c % aW a : Nat) : Int) + dX d ∧ ((y / aW a : Nat) : Int) = ((c / aW a : Nat) : Int) + dY d := by
  unfold stp at h
  split at h
  · rename_i hq
    obtain ⟨h1, h2, h3, h4, h5⟩ := hq
    cases h
    have h6 := at_xy (a := a) h1 h2 h3
    exact ⟨at_lt h1 h2 h3 h4, h5, h6.1, h6.2⟩
  · cases h
theorem s_placeAfter {a : Abs} {gw gh gz : Int32} {gc gr gk : Nat → Int32} {fc lc f c2 st : Int64} {c d : Nat} {Q : Int32 → Prop} (hA : AOk a) (hs : IGs a gw gh gz gc gr fc lc) (hk : IGk a gk f c2 st) (hc : c < aN a) (hd : d < 5) (h : Q (oI (-1) (stp a c d))) : P_gr_placeAfter gw gh gc gr st (nI c) (nI d) Q := by
  have hn := aN_le hA
  have hW := hA.1
  have hH := hA.2.1
  have hxy := xy_lt hA hc
  obtain ⟨e1, e2, -, e4, e5, -⟩ := hs
  unfold P_gr_placeAfter
  rw [cl (by omega), cl (by omega), e4 c hc, e5 c hc, mvX_i hd, mvY_i hd, e1, e2]
  refine ⟨vI (by omega) (by omega), vI hd (by omega), ?_⟩
  rintro _ rfl
  refine ⟨vI (by omega) (by omega), vI hd (by omega), ?_⟩
  rintro _ rfl
  rw [iI_nat (c % aW a), iI_nat (c / aW a), iI_add, iI_add]
  have hX := dX_b d
  have hY := dY_b d
  have hy0 : (0 : Int) ≤ ((c / aW a : Nat) : Int) := Int.natCast_nonneg _
  have bX : iB (((c % aW a : Nat) : Int) + dX d) := ⟨by omega, by omega⟩
  have bY : iB (((c / aW a : Nat) : Int) + dY d) := ⟨by omega, by omega⟩
  have bw : iB ((aW a : Nat) : Int) := ⟨by omega, by omega⟩
  have bh : iB ((aH a : Nat) : Int) := ⟨by omega, by omega⟩
  have z0 : (0 : Int32) = iI 0 := rfl
  generalize hXe : ((c % aW a : Nat) : Int) + dX d = X at *
  generalize hYe : ((c / aW a : Nat) : Int) + dY d = Y at *
  have hst : stp a c d = if 0 ≤ X ∧ X < (aW a : Int) ∧ 0 ≤ Y ∧ Y < (aH a : Int) ∧ std a (at_ a X Y) = true then some (at_ a X Y) else none := by unfold stp; rw [hXe, hYe]
  have no : ¬ (0 ≤ X ∧ X < (aW a : Int) ∧ 0 ≤ Y ∧ Y < (aH a : Int) ∧ std a (at_ a X Y) = true) → Q (-1) := fun q => by rw [hst, if_neg q] at h; exact h
  rw [z0, iI_lt bX ⟨by omega, by omega⟩, iI_lt bY ⟨by omega, by omega⟩, iI_nat (aW a), iI_nat (aH a), iI_le bw bX, iI_lt bY bh]
  refine ⟨fun q => no (by omega), fun q => ⟨fun q2 => no (by omega), fun q2 => ⟨fun q3 => no (by omega), fun q3 => ⟨fun q4 => ?_, fun q4 => no (by omega)⟩⟩⟩⟩
  rintro _ rfl
  rw [← iI_nat (aW a), iI_at (by omega) (by omega)]
  have hl := at_lt (a := a) (X := X) (Y := Y) (by omega) (by omega) (by omega) (by omega)
  refine s_mayStand hk hn.2 hl (brB (fun hf => no (fun q5 => by rw [q5.2.2.2.2] at hf; cases hf)) (fun ht => ?_))
  rw [hst, if_pos ⟨by omega, by omega, by omega, by omega, ht⟩] at h
  exact h
theorem s_b51 {a : Abs} {mw mt : Int32} {mk : Nat → Int32} {c : Nat} {X Y : Int} {x3 y0 y1 : Int32} {Q : Int32 → Prop} (hA : AOk a) (hm : ∀ c, c < aN a → mk c = nI (aKd a c)) (h1 : mw = nI (aW a)) (h2 : mt = nI (aH a)) (hc : c < aN a) (bX : -1 ≤ X ∧ X ≤ 8) (bY : -1 ≤ Y ∧ Y ≤ 8) (h3 : x3 = iI X) (h4 : y0 + y1 = iI Y)
    (hy : 0 ≤ X → X < (aW a : Int) → 0 ≤ Y → Y < (aH a : Int) → std a (at_ a X Y) = true → std a c = true → Q (nI (at_ a X Y))) (hno : ¬ (0 ≤ X ∧ X < (aW a : Int) ∧ 0 ≤ Y ∧ Y < (aH a : Int) ∧ std a (at_ a X Y) = true ∧ std a c = true) → Q (-9)) : B_mo_beside_51 mw mt mk Q (nI c) x3 y0 y1 := by
  have hn := aN_le hA
  have hW := hA.1
  have hH := hA.2.1
  subst h1 h2 h3
  unfold B_mo_beside_51
  rw [h4]
  rintro _ rfl
  have no : ∀ (q : ¬ (0 ≤ X ∧ X < (aW a : Int) ∧ 0 ≤ Y ∧ Y < (aH a : Int) ∧ std a (at_ a X Y) = true ∧ std a c = true)), B_mo_beside_116 (nI (aW a)) Q (iI X) (iI Y) 0 := fun q => by
    unfold B_mo_beside_116
    exact br_t rfl (hno q)
  have tX : (iI X).toInt = X := iI_toInt (by omega) (by omega)
  have tY : (iI Y).toInt = Y := iI_toInt (by omega) (by omega)
  refine s_in (l := 0) (h := (aW a : Int) - 1) rfl (by rw [w64]; exact m1T (by omega)) (brB (fun hf => no (fun q => ?_)) (fun ht => ?_))
  · have := of_decide_eq_false hf
    rw [tX] at this
    omega
  · have g1 := of_decide_eq_true ht
    rw [tX] at g1
    refine s_in (l := 0) (h := (aH a : Int) - 1) rfl (by rw [w64]; exact m1T (by omega)) (brB (fun hf => no (fun q => ?_)) (fun ht2 => ?_))
    · have := of_decide_eq_false hf
      rw [tY] at this
      omega
    · have g2 := of_decide_eq_true ht2
      rw [tY] at g2
      rw [iI_at (by omega) (by omega)]
      have hl := at_lt (a := a) (X := X) (Y := Y) (by omega) (by omega) (by omega) (by omega)
      refine s_mstands hA hm hl (brB (fun hf => no (fun q => by rw [q.2.2.2.2.1] at hf; cases hf)) (fun ht3 => ?_))
      refine s_mstands hA hm hc (brB (fun hf => no (fun q => by rw [q.2.2.2.2.2] at hf; cases hf)) (fun ht4 => ?_))
      unfold B_mo_beside_116
      refine br_f (by decide) ?_
      rw [iI_at (by omega) (by omega)]
      exact hy (by omega) (by omega) (by omega) (by omega) ht3 ht4
def bsd (a : Abs) (c d : Nat) : Option Nat := if std a c = true then stp a c d else none
theorem s_beside {a : Abs} {mw mt : Int32} {mk : Nat → Int32} {c d : Nat} {Q : Int32 → Prop} (hA : AOk a) (hm : ∀ c, c < aN a → mk c = nI (aKd a c)) (h1 : mw = nI (aW a)) (h2 : mt = nI (aH a)) (hc : c < aN a) (hd : d < 4) (h : Q (oI (-9) (bsd a c d))) : P_mo_beside mw mt mk (nI c) (nI d) Q := by
  have hn := aN_le hA
  have hW := hA.1
  have hH := hA.2.1
  have hxy := xy_lt hA hc
  have hne : ¬ nI (aW a) = 0 := nI_ne0 (by omega) (by omega)
  have key : ∀ (x3 y1 : Int32), x3 = iI (((c % aW a : Nat) : Int) + dX d) → y1 = iI (dY d) → B_mo_beside_51 (nI (aW a)) (nI (aH a)) mk Q (nI c) x3 (nI (c / aW a)) y1 := by
    intro x3 y1 e1 e2
    have hX := dX_b d
    have hY := dY_b d
    have hy0 : (0 : Int) ≤ ((c / aW a : Nat) : Int) := Int.natCast_nonneg _
    refine s_b51 (X := ((c % aW a : Nat) : Int) + dX d) (Y := ((c / aW a : Nat) : Int) + dY d) hA hm rfl rfl hc ⟨by omega, by omega⟩ ⟨by omega, by omega⟩ e1 (by rw [e2, iI_nat, iI_add]) (fun q1 q2 q3 q4 q5 q6 => ?_) (fun q => ?_)
    · unfold bsd stp at h
      rw [if_pos q6, if_pos ⟨q1, q2, q3, q4, q5⟩] at h
      exact h
    · unfold bsd stp at h
      by_cases q6 : std a c = true
      · rw [if_pos q6, if_neg (fun z => q ⟨z.1, z.2.1, z.2.2.1, z.2.2.2.1, z.2.2.2.2, q6⟩)] at h
        exact h
      · rw [if_neg q6] at h
        exact h
  subst h1 h2
  unfold P_mo_beside
  refine ⟨hne, ?_⟩
  rw [pk_rem (by omega) (by omega) (by omega)]
  have b24 : ∀ (y1 : Int32), y1 = iI (dX d) → B_mo_beside_24 (nI (aW a)) (nI (aH a)) mk Q (nI c) (nI d) (nI (c % aW a)) y1 := by
    intro y1 e1
    unfold B_mo_beside_24
    rintro _ rfl
    refine ⟨hne, ?_⟩
    rw [pk_div (by omega) (by omega) (by omega)]
    have e3 : nI (c % aW a) + y1 = iI (((c % aW a : Nat) : Int) + dX d) := by rw [e1, iI_nat, iI_add]
    rcases (show d = 0 ∨ d = 1 ∨ d = 2 ∨ d = 3 by omega) with rfl | rfl | rfl | rfl
    · exact br_f (by decide) (br_f (by decide) (key _ _ e3 rfl))
    · exact br_t rfl (key _ _ e3 rfl)
    · exact br_f (by decide) (br_f (by decide) (key _ _ e3 rfl))
    · exact br_f (by decide) (br_t rfl (key _ _ e3 rfl))
  rcases (show d = 0 ∨ d = 1 ∨ d = 2 ∨ d = 3 by omega) with rfl | rfl | rfl | rfl
  · exact br_t rfl (b24 _ rfl)
  · exact br_f (by decide) (br_f (by decide) (b24 _ rfl))
  · exact br_f (by decide) (br_t rfl (b24 _ rfl))
  · exact br_f (by decide) (br_f (by decide) (b24 _ rfl))
/-- two cells beside one another -/
def nbr (a : Abs) (x y : Nat) : Bool := decide ((((x % aW a : Nat) : Int) - ((y % aW a : Nat) : Int)).natAbs + (((x / aW a : Nat) : Int) - ((y / aW a : Nat) : Int)).natAbs = 1) && std a x && std a y
theorem nbr_iff {a : Abs} (hA : AOk a) {x y : Nat} (hx : x < aN a) (hy : y < aN a) : nbr a x y = true ↔ ∃ d, d < 4 ∧ bsd a x d = some y := by
  have hxy := xy_lt hA hx
  have hyy := xy_lt hA hy
  have e := at_self hA y
  constructor
  · intro h
    unfold nbr at h
    simp only [Bool.and_eq_true, decide_eq_true_eq] at h
    obtain ⟨⟨h1, h2⟩, h3⟩ := h
    have hcase : ∃ d, d < 4 ∧ ((y % aW a : Nat) : Int) = ((x % aW a : Nat) : Int) + dX d ∧ ((y / aW a : Nat) : Int) = ((x / aW a : Nat) : Int) + dY d := by
      generalize ((x % aW a : Nat) : Int) = p at *
      generalize ((y % aW a : Nat) : Int) = q at *
      generalize ((x / aW a : Nat) : Int) = r at *
      generalize ((y / aW a : Nat) : Int) = t at *
      rcases (show (q = p + 1 ∧ t = r) ∨ (q = p ∧ t = r + 1) ∨ (q = p + (-1) ∧ t = r) ∨ (q = p ∧ t = r + (-1)) by omega) with ⟨z1, z2⟩ | ⟨z1, z2⟩ | ⟨z1, z2⟩ | ⟨z1, z2⟩
      · exact ⟨0, by omega, z1, by rw [z2]; exact (Int.add_zero r).symm⟩
      · exact ⟨1, by omega, by rw [z1]; exact (Int.add_zero p).symm, z2⟩
      · exact ⟨2, by omega, z1, by rw [z2]; exact (Int.add_zero r).symm⟩
      · exact ⟨3, by omega, by rw [z1]; exact (Int.add_zero p).symm, z2⟩
    obtain ⟨d, hd, e1, e2⟩ := hcase
    refine ⟨d, hd, ?_⟩
    unfold bsd stp
    have n1 : (0 : Int) ≤ ((y % aW a : Nat) : Int) := Int.natCast_nonneg _
    have n2 : (0 : Int) ≤ ((y / aW a : Nat) : Int) := Int.natCast_nonneg _
    have n3 : ((y % aW a : Nat) : Int) < (aW a : Int) := Int.ofNat_lt.mpr hyy.1
    have n4 : ((y / aW a : Nat) : Int) < (aH a : Int) := Int.ofNat_lt.mpr hyy.2
    rw [if_pos h2, ← e1, ← e2, e, if_pos ⟨n1, n3, n2, n4, h3⟩]
  · rintro ⟨d, hd, h⟩
    unfold bsd at h
    split at h
    · rename_i hs
      obtain ⟨g1, g2, g3, g4⟩ := stp_some h
      unfold nbr
      simp only [Bool.and_eq_true, decide_eq_true_eq]
      refine ⟨⟨?_, hs⟩, g2⟩
      rw [g3, g4]
      rcases (show d = 0 ∨ d = 1 ∨ d = 2 ∨ d = 3 by omega) with rfl | rfl | rfl | rfl
      · have e1 : dX 0 = 1 := rfl
        have e2 : dY 0 = 0 := rfl
        omega
      · have e1 : dX 1 = 0 := rfl
        have e2 : dY 1 = 1 := rfl
        omega
      · have e1 : dX 2 = -1 := rfl
        have e2 : dY 2 = 0 := rfl
        omega
      · have e1 : dX 3 = 0 := rfl
        have e2 : dY 3 = -1 := rfl
        omega
    · cases h
theorem nI_ne9 {n : Nat} (h : n < 2147483648) : ¬ nI n = -9 := fun e => by
  have := congrArg Int32.toInt e
  rw [tI h] at this
  have h2 : (-9 : Int32).toInt = -9 := by decide
  rw [h2] at this
  omega
theorem nI_ne1 {n : Nat} (h : n < 2147483648) : ¬ nI n = -1 := fun e => by
  have := congrArg Int32.toInt e
  rw [tI h] at this
  have h2 : (-1 : Int32).toInt = -1 := by decide
  rw [h2] at this
  omega
def near (a : Abs) (x y : Nat) : Bool := decide (x = y) || nbr a x y
theorem s_areNear {a : Abs} {mw mt : Int32} {mk : Nat → Int32} {x y : Nat} {Q : Int32 → Prop} (hA : AOk a) (hm : ∀ c, c < aN a → mk c = nI (aKd a c)) (h1 : mw = nI (aW a)) (h2 : mt = nI (aH a)) (hx : x < aN a) (hy : y < aN a) (h : Q (bI (near a x y))) : P_mo_areNear mw mt mk (nI x) (nI y) Q := by
  have hn := aN_le hA
  have key : ∀ (n i : Nat) (b : Bool), i ≤ 4 → 4 - i < n → (b = true ↔ x = y ∨ ∃ d, d < i ∧ bsd a x d = some y) → L_mo_areNear_14 mw mt mk Q n (nI x) (nI y) (bI b) (nI i) := by
    intro n
    induction n with
    | zero => intro i b q1 q2; omega
    | succ n ih =>
      intro i b hi hmm hb
      unfold L_mo_areNear_14
      rcases Nat.lt_or_ge i 4 with q | q
      · refine br_f (nI_ge (b := 4) q (by omega)) (brB (fun hf => ?_) (fun ht => ?_))
        · refine s_beside hA hm h1 h2 hx q ?_
          have step : ∀ b2 : Bool, (b2 = true ↔ bsd a x i = some y) → L_mo_areNear_14 mw mt mk Q n (nI x) (nI y) (bI b2) (nI i + 1) := by
            intro b2 hb2
            rw [nI_1]
            refine ih (i + 1) b2 (by omega) (by omega) ⟨fun z => Or.inr ⟨i, by omega, hb2.mp z⟩, fun z => ?_⟩
            rcases z with z | ⟨d, hd, z⟩
            · rw [hb.mpr (Or.inl z)] at hf; cases hf
            · rcases Nat.lt_or_ge d i with z2 | z2
              · rw [hb.mpr (Or.inr ⟨d, z2, z⟩)] at hf; cases hf
              · have : d = i := by omega
                subst this
                exact hb2.mpr z
          cases hbs : bsd a x i with
          | none =>
            refine br_f (fun e => nI_ne9 (by omega) e.symm) ?_
            exact step false ⟨fun z => (by cases z), fun z => (by rw [hbs] at z; cases z)⟩
          | some t =>
            have htn : t < aN a := by
              unfold bsd at hbs
              split at hbs
              · exact (stp_some hbs).1
              · cases hbs
            show (nI t = nI y → _) ∧ (¬ nI t = nI y → _)
            rw [nI_eq (by omega) (by omega)]
            refine ⟨fun e => step true ⟨fun _ => by rw [hbs, e], fun _ => rfl⟩, fun e => step false ⟨fun z => (by cases z), fun z => ?_⟩⟩
            rw [hbs] at z
            exact absurd (Option.some.inj z) e
        · have := ih (i + 1) true (by omega) (by omega) ⟨fun _ => ?_, fun _ => rfl⟩
          · rw [← nI_1] at this
            exact this
          · rcases hb.mp ht with z | ⟨d, hd, z⟩
            · exact Or.inl z
            · exact Or.inr ⟨d, by omega, z⟩
      · have e : i = 4 := by omega
        subst e
        refine br_t (nI_le (a := 4) (by omega) (by omega)) ⟨bI_01 b, ?_⟩
        have : b = near a x y := by
          have hb2 : b = true ↔ near a x y = true := by
            rw [hb, ← nbr_iff hA hx hy]
            unfold near
            simp only [Bool.or_eq_true, decide_eq_true_eq]
          cases b <;> cases hnn : near a x y <;> simp_all
        rw [this]; exact h
  unfold P_mo_areNear
  refine ⟨fun e => ⟨5, key 5 0 true (by omega) (by omega) ⟨fun _ => Or.inl ((nI_eq (by omega) (by omega)).mp e), fun _ => rfl⟩⟩, fun e => ⟨5, key 5 0 false (by omega) (by omega) ⟨fun z => (by cases z), fun z => ?_⟩⟩⟩
  rcases z with z | ⟨d, hd, -⟩
  · exact absurd (by rw [z]) e
  · omega
theorem abs_i {p : Int} (h : iB p) (h2 : iB (-p)) : (if 0 ≤ iI p then iI p else 0 - iI p) = iI (p.natAbs : Int) := by
  have z0 : (0 : Int32) = iI 0 := rfl
  have hle : (0 : Int32) ≤ iI p ↔ 0 ≤ p := by rw [z0]; exact iI_le ⟨by omega, by omega⟩ h
  by_cases q : 0 ≤ p
  · rw [if_pos (hle.mpr q)]; congr 1; omega
  · rw [if_neg (fun z => q (hle.mp z)), z0, iI_sub]; congr 1; omega
theorem s_areNb {a : Abs} {gw gh gz : Int32} {gc gr gk : Nat → Int32} {fc lc f c2 st : Int64} {x y : Nat} {Q : Int32 → Prop} (hA : AOk a) (hs : IGs a gw gh gz gc gr fc lc) (hk : IGk a gk f c2 st) (hx : x < aN a) (hy : y < aN a) (h : Q (bI (nbr a x y))) : P_gr_areNeighbours gc gr st (nI x) (nI y) Q := by
  have hn := aN_le hA
  have hW := hA.1
  have hH := hA.2.1
  have hxx := xy_lt hA hx
  have hyy := xy_lt hA hy
  obtain ⟨-, -, -, e4, e5, -⟩ := hs
  unfold P_gr_areNeighbours
  rw [cl (by omega), cl (by omega), e4 x hx, e5 x hx, e4 y hy, e5 y hy]
  refine ⟨vI (by omega) (by omega), vI (by omega) (by omega), vI (by omega) (by omega), vI (by omega) (by omega), ?_⟩
  rw [iI_nat (x % aW a), iI_nat (y % aW a), iI_nat (x / aW a), iI_nat (y / aW a), iI_sub, iI_sub]
  have n1 : (0 : Int) ≤ ((x % aW a : Nat) : Int) := Int.natCast_nonneg _
  have n2 : (0 : Int) ≤ ((y % aW a : Nat) : Int) := Int.natCast_nonneg _
  have n3 : (0 : Int) ≤ ((x / aW a : Nat) : Int) := Int.natCast_nonneg _
  have n4 : (0 : Int) ≤ ((y / aW a : Nat) : Int) := Int.natCast_nonneg _
  have n5 : ((x % aW a : Nat) : Int) < (aW a : Int) := Int.ofNat_lt.mpr hxx.1
  have n6 : ((y % aW a : Nat) : Int) < (aW a : Int) := Int.ofNat_lt.mpr hyy.1
  have n7 : ((x / aW a : Nat) : Int) < (aH a : Int) := Int.ofNat_lt.mpr hxx.2
  have n8 : ((y / aW a : Nat) : Int) < (aH a : Int) := Int.ofNat_lt.mpr hyy.2
  unfold nbr at h
  generalize ((x % aW a : Nat) : Int) = p at *
  generalize ((y % aW a : Nat) : Int) = q at *
  generalize ((x / aW a : Nat) : Int) = r at *
  generalize ((y / aW a : Nat) : Int) = t at *
  rw [abs_i ⟨by omega, by omega⟩ ⟨by omega, by omega⟩, abs_i ⟨by omega, by omega⟩ ⟨by omega, by omega⟩, iI_add]
  rintro _ rfl
  have z1 : (1 : Int32) = iI 1 := rfl
  rw [z1, iI_eq ⟨by omega, by omega⟩ ⟨by omega, by omega⟩]
  refine ⟨fun g => ?_, fun g => ?_⟩
  · rw [decide_eq_true (show (p - q).natAbs + (r - t).natAbs = 1 by omega), Bool.true_and] at h
    refine s_mayStand hk hn.2 hx (brB (fun hf => ?_) (fun ht => ?_))
    · rw [hf, Bool.false_and] at h; exact h
    · rw [ht, Bool.true_and] at h
      refine s_mayStand hk hn.2 hy (brB (fun hf => ?_) (fun ht2 => ?_))
      · rw [hf] at h; exact h
      · rw [ht2] at h; exact h
  · rw [decide_eq_false (show ¬ (p - q).natAbs + (r - t).natAbs = 1 by omega), Bool.false_and, Bool.false_and] at h
    exact h
