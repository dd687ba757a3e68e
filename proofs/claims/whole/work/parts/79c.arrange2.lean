theorem s_chSh {f : Nat → Int32} {k : Nat} {x : Int32} {Q : (Nat → Int32) → Prop} (hk : k < 4) (h : Q (upd f k x)) : P_ro_changeShift f (nI k) x Q := by
  unfold P_ro_changeShift
  rw [cl (by omega)]
  exact ⟨vI hk (by omega), h⟩
def shI (rs : Nat → Int32) (sh : Nat → Nat) : Prop := ∀ k, k < 4 → rs k = nI (sh k)
theorem sgd_0 {a : Abs} (k : Nat) : sgd a 0 k = 0 := by unfold sgd; rw [Nat.zero_div, Nat.zero_mod]
theorem dq {a : Abs} (n i : Nat) : n / qq a (i + 1) = n / qq a i / rl1 a (3 - i) := by rw [qq_s, Nat.mul_comm, Nat.div_div_eq_div_mul]
theorem dq_up {a : Abs} {n n' i : Nat} (h : n' / qq a i = n / qq a i) : ∀ {j : Nat}, i ≤ j → n' / qq a j = n / qq a j := by
  intro j
  induction j with
  | zero => intro hj; have : i = 0 := by omega
            subst this; exact h
  | succ j ih =>
    intro hj
    rcases Nat.eq_or_lt_of_le hj with e | e
    · subst e; exact h
    · rw [dq, dq, ih (by omega)]
theorem s_shiftOn {a : Abs} {rc rl rs0 rs : Nat → Int32} {L n : Nat} {Q : (Nat → Int32) → Prop} (hA : AOk a) (hrl : ∀ k, k < 4 → rl k = nI (aRl a k)) (hL : L ≤ 4) (hn : n + 1 < qq a (3 - L)) (hrs : shI rs (sgd a n)) (h : ∀ rs, shI rs (sgd a (n + 1)) → Q rs) : P_ga_shiftOn rl rs (nI L) Q := by
  have hL3 : L < 4 := by
    rcases Nat.lt_or_ge L 4 with q | q
    · exact q
    · have : L = 4 := by omega
      subst this
      have : n + 1 < 1 := hn
      omega
  have loop : ∀ (w : Nat) (rs : Nat → Int32), w < 4 → L ≤ w → (n + 1) / qq a (3 - w) = n / qq a (3 - w) + 1 → (∀ v, v < 4 → rs v = nI (if w < v then sgd a (n + 1) v else sgd a n v)) → L_ga_shiftOn_2 rl Q (w + 1) rs (nI L) (nI w) := by
    intro w
    induction w with
    | zero =>
      intro rs _ hLw hc _
      exfalso
      have : L = 0 := by omega
      subst this
      rw [Nat.div_eq_of_lt hn] at hc
      exact absurd hc.symm (Nat.succ_ne_zero _)
    | succ w ih =>
      intro rs hw hLw hc hI
      unfold L_ga_shiftOn_2
      rcases Nat.lt_or_ge L (w + 1) with g | g
      · have hd := sgd_lt (code := n) hA hw
        have l6 := hA.2.2.2.2.2.2.2.1 (w + 1) hw
        have hr1 := rl1_b hA hw
        have hsw : rs (w + 1) = nI (sgd a n (w + 1)) := by
          rw [hI (w + 1) hw, if_neg (by omega)]
        have hdn : sgd a n (w + 1) = n / qq a (3 - (w + 1)) % rl1 a (w + 1) := rfl
        have hdn1 : sgd a (n + 1) (w + 1) = (n / qq a (3 - (w + 1)) + 1) % rl1 a (w + 1) := by unfold sgd; rw [hc]
        have e1 : 3 - w = 3 - (w + 1) + 1 := by omega
        have e2 : 3 - (3 - (w + 1)) = w + 1 := by omega
        have hq1 : (n + 1) / qq a (3 - w) = (n / qq a (3 - (w + 1)) + 1) / rl1 a (w + 1) := by rw [e1, dq, e2, hc]
        have hq0 : n / qq a (3 - w) = n / qq a (3 - (w + 1)) / rl1 a (w + 1) := by rw [e1, dq, e2]
        generalize hX : n / qq a (3 - (w + 1)) = X at *
        refine br_f (nI_ge g (by omega)) (s_shOf hw hsw (s_lenOf hw (hrl _ hw) ?_))
        rw [nI_1, nI_leI (by omega) (by omega)]
        refine ⟨fun q => s_chSh hw ?_, fun q => ?_⟩
        · have hfull : sgd a n (w + 1) + 1 = rl1 a (w + 1) := by
            unfold rl1 at hd ⊢
            split at hd
            · rw [if_pos (by assumption)]; omega
            · rw [if_neg (by assumption)]; omega
          have hm0 : (X + 1) % rl1 a (w + 1) = 0 := by
            rw [Nat.add_mod, ← hdn]
            rcases Nat.eq_or_lt_of_le hr1.1 with z | z
            · rw [← z, Nat.mod_one]
            · rw [Nat.mod_eq_of_lt (show 1 < rl1 a (w + 1) from z), hfull, Nat.mod_self]
          rw [pk_m1]
          refine ih _ (by omega) (by omega) ?_ (fun v hv => ?_)
          · rw [hq1, hq0]
            have d1 := Nat.div_add_mod (X + 1) (rl1 a (w + 1))
            have d2 := Nat.div_add_mod X (rl1 a (w + 1))
            rw [hm0] at d1
            rw [← hdn] at d2
            generalize hY : (X + 1) / rl1 a (w + 1) = Y at *
            generalize hZ : X / rl1 a (w + 1) = Z at *
            have hmul : rl1 a (w + 1) * Y = rl1 a (w + 1) * (Z + 1) := by
              rw [Nat.mul_succ]; omega
            exact Nat.eq_of_mul_eq_mul_left (by omega) hmul
          · by_cases e : v = w + 1
            · subst e
              rw [u_s, if_pos (by omega), hdn1, hm0]; rfl
            · rw [u_n e, hI v hv]
              by_cases e3 : w + 1 < v
              · rw [if_pos e3, if_pos (by omega)]
              · rw [if_neg e3, if_neg (by omega)]
        · have hrp : rl1 a (w + 1) = aRl a (w + 1) := by
            unfold rl1
            rw [if_neg (by omega)]
          have hlt : sgd a n (w + 1) + 1 < rl1 a (w + 1) := by omega
          have hnew : sgd a (n + 1) (w + 1) = sgd a n (w + 1) + 1 := by
            rw [hdn1, Nat.add_mod, ← hdn, Nat.mod_eq_of_lt (show 1 < rl1 a (w + 1) by omega), Nat.mod_eq_of_lt hlt]
          have hsame : (n + 1) / qq a (3 - w) = n / qq a (3 - w) := by
            rw [hq1, hq0]
            have d1 := Nat.div_add_mod (X + 1) (rl1 a (w + 1))
            have d2 := Nat.div_add_mod X (rl1 a (w + 1))
            rw [← hdn1, hnew] at d1
            rw [← hdn] at d2
            exact Nat.eq_of_mul_eq_mul_left (show 0 < rl1 a (w + 1) by omega) (by omega)
          unfold B_ga_shiftOn_28
          refine s_shOf hw hsw (s_chSh hw (h _ (fun v hv => ?_)))
          by_cases e : v = w + 1
          · subst e
            rw [u_s, nI_1, hnew]
          · rw [u_n e, hI v hv]
            by_cases e3 : w + 1 < v
            · rw [if_pos e3]
            · rw [if_neg e3]
              unfold sgd
              rw [dq_up hsame (j := 3 - v) (by omega)]
      · exfalso
        have : L = w + 1 := by omega
        subst this
        rw [Nat.div_eq_of_lt hn] at hc
        exact absurd hc.symm (Nat.succ_ne_zero _)
  unfold P_ga_shiftOn
  refine ⟨4, loop 3 rs (by omega) (by omega) (by show (n + 1) / 1 = n / 1 + 1; rw [Nat.div_one, Nat.div_one]) (fun v hv => ?_)⟩
  rw [if_neg (by omega)]
  exact hrs v hv
theorem s_first {a : Abs} {rl : Nat → Int32} {Q : Int32 → Prop} (hA : AOk a) (hrl : ∀ k, k < 4 → rl k = nI (aRl a k)) (h : ∀ L, L ≤ 4 → (∀ w, w < L → aRl a w = 0) → (L < 4 → 0 < aRl a L) → Q (nI L)) : P_ga_firstWithRound rl Q := by
  unfold P_ga_firstWithRound
  refine cnt0 (fun n i (_ : Unit) => L_ga_firstWithRound_2 rl Q n (nI i)) 4 (fun i _ => ∀ w, w < i → aRl a w = 0) () (fun w hw => absurd hw (Nat.not_lt_zero _)) ?_ ?_
  · intro n _ hI
    unfold L_ga_firstWithRound_2
    exact br_t (nI_le (a := 4) (b := 4) (Nat.le_refl _) (by omega)) (h 4 (Nat.le_refl _) hI (fun q => by omega))
  · intro n i _ hi hI ih
    have l6 := hA.2.2.2.2.2.2.2.1 i hi
    unfold L_ga_firstWithRound_2
    rw [nI_1 i]
    refine br_f (nI_ge (b := 4) hi (by omega)) (s_lenOf hi (hrl i hi) ?_)
    rw [show (nI (aRl a i) ≤ 0 ↔ aRl a i ≤ 0) from nI_leI (b := 0) (by omega) (by omega)]
    refine ⟨fun q => ih () (fun w hw => ?_), fun q => h i (by omega) hI (fun _ => by omega)⟩
    rcases Nat.lt_or_ge w i with z | z
    · exact hI w z
    · have : w = i := by omega
      subst this
      omega
theorem s_keep {rs bs : Nat → Int32} {sh : Nat → Nat} {Q : (Nat → Int32) → Prop} (hrs : shI rs sh) (h : ∀ bs, shI bs sh → Q bs) : P_ga_keepShifts bs rs Q := by
  unfold P_ga_keepShifts
  refine cnt0 (fun n i (bs : Nat → Int32) => L_ga_keepShifts_2 rs Q n bs (nI i)) 4 (fun i bs => ∀ k, k < i → bs k = nI (sh k)) bs (fun k hk => absurd hk (Nat.not_lt_zero _)) ?_ ?_
  · intro n bs hI
    unfold L_ga_keepShifts_2
    exact br_t (nI_le (a := 4) (b := 4) (Nat.le_refl _) (by omega)) (h bs hI)
  · intro n i bs hi hI ih
    unfold L_ga_keepShifts_2
    rw [nI_1 i]
    refine br_f (nI_ge (b := 4) hi (by omega)) (s_shOf hi (hrs i hi) ⟨vI hi (by omega), ?_⟩)
    rw [cl (by omega)]
    refine ih _ (fun k hk => ?_)
    by_cases e : k = i
    · subst e; rw [u_s]
    · rw [u_n e]; exact hI k (by omega)
theorem vA_some {a : Abs} (hA : AOk a) (h0 : ¬ wO (aSh a (sgd a 0)) = none) (n : Nat) : wO (aSh a (sgd a n)) = some (vA a n) ∧ vA a n < 60 := by
  unfold vA
  cases h : wO (aSh a (sgd a n)) with
  | none => exact absurd (wO_no (sh' := sgd a 0) (aOk_sg hA n) h) h0
  | some v => exact ⟨rfl, wN_lt (aOk_sg hA n) h⟩
theorem s_setBest {a : Abs} {sg : Nat → Int64} {al : Int64} {ps : Int32} {rc rl rs bs : Nat → Int32} {Q : Int32 → (Nat → Int32) → (Nat → Int32) → Prop} (hA : AOk a) (hsg : SG a sg) (hal : AllT a al) (hps : ps = nI (aNp a)) (hRo : IR a rc rl rs) (hno : wO (aSh a (sgd a 0)) = none → ∀ bs rs, shI rs (sgd a 0) → Q (-9) bs rs) (hyes : ¬ wO (aSh a (sgd a 0)) = none → ∀ bs rs, shI rs (sgd a (am a (qq a 4)).2) → Q (nI (am a (qq a 4)).1) bs rs) : P_ga_setBestShifts sg bs (nI (per a)) al ps rl rs Q := by
  have hnp : aNp a ≤ 8 := hA.2.2.2.2.2.1
  have hrl := hRo.1
  have hIR : ∀ rs' sh, shI rs' sh → IR (aSh a sh) rc rl rs' := fun rs' sh h => ⟨hRo.1, h, hRo.2.2⟩
  unfold P_ga_setBestShifts
  refine cnt0 (fun n i (z : (Nat → Int32) × (Nat → Int32)) => L_ga_setBestShifts_2 sg (nI (per a)) al ps rl Q n z.1 z.2 (nI i)) 4 (fun i z => ∀ k, k < i → z.1 k = 0 ∧ z.2 k = 0) (bs, rs) (fun k hk => absurd hk (Nat.not_lt_zero _)) ?_ ?_
  · rintro n ⟨bs1, rs1⟩ hI
    have hr0 : shI rs1 (sgd a 0) := fun k hk => by rw [sgd_0]; exact (hI k hk).2
    have hb0 : shI bs1 (sgd a 0) := fun k hk => by rw [sgd_0]; exact (hI k hk).1
    unfold L_ga_setBestShifts_2 B_ga_setBestShifts_29
    refine br_t (nI_le (a := 4) (b := 4) (Nat.le_refl _) (by omega)) (s_worst (a := aSh a (sgd a 0)) (aOk_sg hA 0) (SG_sh hsg _) (AllT_sh hal _) hps (hIR rs1 _ hr0) ?_)
    by_cases hw0 : wO (aSh a (sgd a 0)) = none
    · rw [hw0]
      exact br_t rfl (hno hw0 _ _ hr0)
    · have hv0 := vA_some hA hw0 0
      rw [hv0.1]
      refine br_f (nI_ne9 (by omega)) (s_first hA hrl (fun L hL hL0 hL1 => ?_))
      rw [show oI (-9) (some (vA a 0)) = nI (vA a 0) from rfl, nI_1 L]
      have hqb := qq_le hA (i := 3 - L) (by omega)
      -- the end: the best shifts are laid
      have fin : ∀ (n : Nat) (bs2 rs2 : Nat → Int32), n ≤ qq a (3 - L) → am a (qq a (3 - L)) = am a n → shI bs2 (sgd a (am a n).2) → ∃ n', L_ga_setBestShifts_129 Q n' bs2 rs2 (nI (am a n).1) 0 := by
        intro m bs2 rs2 hm heq hb2
        refine cnt0 (fun n i (r : Nat → Int32) => L_ga_setBestShifts_129 Q n bs2 r (nI (am a m).1) (nI i)) 4 (fun i r => ∀ k, k < i → r k = nI (sgd a (am a m).2 k)) rs2 (fun k hk => absurd hk (Nat.not_lt_zero _)) ?_ ?_
        · intro n r hI
          unfold L_ga_setBestShifts_129
          have := hyes hw0 bs2 r
          rw [lead1 hA hL hL0 hL1, heq] at this
          exact br_t (nI_le (a := 4) (b := 4) (Nat.le_refl _) (by omega)) (this hI)
        · intro n i r hi hI ih
          unfold L_ga_setBestShifts_129
          rw [nI_1 i, cl (n := i) (by omega), hb2 i hi]
          refine br_f (nI_ge (b := 4) hi (by omega)) ⟨vI hi (by omega), s_chSh hi (ih _ (fun k hk => ?_))⟩
          by_cases e : k = i
          · subst e; rw [u_s]
          · rw [u_n e]; exact hI k (by omega)
      have main : ∃ n', L_ga_setBestShifts_86 sg (nI (per a)) al ps rl Q n' bs1 rs1 (nI (vA a 0)) (nI L) (nI (qq a (3 - L))) 1 := by
        have lp : ∀ (m n : Nat) (bs2 rs2 : Nat → Int32), n + 1 + m = qq a (3 - L) → shI rs2 (sgd a n) → shI bs2 (sgd a (am a (n + 1)).2) → L_ga_setBestShifts_86 sg (nI (per a)) al ps rl Q (m + 1) bs2 rs2 (nI (am a (n + 1)).1) (nI L) (nI (qq a (3 - L))) (nI (n + 1)) := by
          intro m
          induction m with
          | zero =>
            intro n bs2 rs2 hn hr2 hb2
            unfold L_ga_setBestShifts_86
            exact br_t (nI_le (by omega) (by omega)) (fin (n + 1) bs2 rs2 (by omega) (by rw [show qq a (3 - L) = n + 1 by omega]) hb2)
          | succ m ih =>
            intro n bs2 rs2 hn hr2 hb2
            have hb1 := am_bd hA (n + 1)
            have hvn := vA_some hA hw0 (n + 1)
            unfold L_ga_setBestShifts_86
            rw [show (nI (am a (n + 1)).1 ≤ 0 ↔ (am a (n + 1)).1 ≤ 0) from nI_leI (b := 0) (by omega) (by omega)]
            refine br_f (nI_ge (by omega) (by omega)) ⟨fun q => fin (n + 1) bs2 rs2 (by omega) (am_0 (by omega) (by omega)) hb2, fun q => s_shiftOn (rc := rc) (rs0 := rs) hA hrl hL (by omega) hr2 (fun rs3 hr3 => ?_)⟩
            refine s_worst (a := aSh a (sgd a (n + 1))) (aOk_sg hA _) (SG_sh hsg _) (AllT_sh hal _) hps (hIR rs3 _ hr3) ?_
            rw [hvn.1, show oI (-9) (some (vA a (n + 1))) = nI (vA a (n + 1)) from rfl, nI_1 (n + 1), nI_leI (by omega) (by omega)]
            refine ⟨fun q2 => ?_, fun q2 => s_keep hr3 (fun bs3 hb3 => ?_)⟩
            · have e : am a (n + 1 + 1) = am a (n + 1) := by rw [am_s, if_pos q2]
              have := ih (n + 1) bs2 rs3 (by omega) hr3 (by rw [e]; exact hb2)
              rw [e] at this
              exact this
            · have e : am a (n + 1 + 1) = (vA a (n + 1), n + 1) := by rw [am_s, if_neg q2]
              have := ih (n + 1) bs3 rs3 (by omega) hr3 (by rw [e]; exact hb3)
              rw [e] at this
              exact this
        have := lp (qq a (3 - L) - 1) 0 bs1 rs1 (by omega) hr0 (by rw [am_1 hA]; exact hb0)
        rw [am_1 hA] at this
        exact ⟨_, this⟩
      -- how many shifts there are
      have cntl : ∀ (m w x : Nat), w + m = 4 → L < w → x * qq a (4 - w) = qq a (3 - L) → L_ga_setBestShifts_55 sg (nI (per a)) al ps rl Q (m + 1) bs1 rs1 (nI (vA a 0)) (nI L) (nI x) (nI w) := by
        intro m
        induction m with
        | zero =>
          intro w x hw hLw hx
          have : w = 4 := by omega
          subst this
          have hx' : x * 1 = qq a (3 - L) := hx
          rw [Nat.mul_one] at hx'
          subst hx'
          unfold L_ga_setBestShifts_55
          exact br_t (nI_le (a := 4) (b := 4) (Nat.le_refl _) (by omega)) main
        | succ m ih =>
          intro w x hw hLw hx
          have hw4 : w < 4 := by omega
          have l6 := hA.2.2.2.2.2.2.2.1 w hw4
          unfold L_ga_setBestShifts_55
          rw [nI_1 w]
          refine br_f (nI_ge (b := 4) hw4 (by omega)) (s_lenOf hw4 (hrl w hw4) ?_)
          have e1 : (if (1 : Int32) < nI (aRl a w) then nI (aRl a w) else 1) = nI (rl1 a w) := by
            unfold rl1
            rcases Nat.lt_or_ge 1 (aRl a w) with q | q
            · rw [if_pos (show (1 : Int32) < nI (aRl a w) from nI_lt (a := 1) q (by omega)), if_neg (by omega)]
            · rw [if_neg (show ¬ (1 : Int32) < nI (aRl a w) from nI_nlt (b := aRl a w) (a := 1) q (by omega))]
              by_cases z : aRl a w = 0
              · rw [if_pos z]; rfl
              · rw [if_neg z, show aRl a w = 1 by omega]; rfl
          rw [e1, pk_mul]
          rintro _ rfl
          refine ih (w + 1) (x * rl1 a w) (by omega) (by omega) ?_
          rw [← hx, show 4 - w = (4 - (w + 1)) + 1 by omega, qq_s, show 3 - (4 - (w + 1)) = w by omega, Nat.mul_assoc]
      rcases Nat.lt_or_ge L 4 with g | g
      · exact ⟨_, cntl (3 - L) (L + 1) 1 (by omega) (by omega) (by rw [Nat.one_mul, show 4 - (L + 1) = 3 - L by omega])⟩
      · have : L = 4 := by omega
        subst this
        refine ⟨1, ?_⟩
        unfold L_ga_setBestShifts_55
        exact br_t (by decide) main
  · rintro n i ⟨bs1, rs1⟩ hi hI ih
    unfold L_ga_setBestShifts_2
    simp only
    rw [nI_1 i]
    refine br_f (nI_ge (b := 4) hi (by omega)) (s_chSh hi ⟨vI hi (by omega), ?_⟩)
    rw [cl (n := i) (by omega)]
    refine ih (_, _) (fun k hk => ?_)
    by_cases e : k = i
    · subst e; exact ⟨u_s, u_s⟩
    · have := hI k (by omega)
      exact ⟨(u_n e).trans this.1, (u_n e).trans this.2⟩
theorem s_layShifts {a : Abs} {rm sh : Nat → Int32} {code : Nat} {Q : (Nat → Int32) → Prop} (hA : AOk a) (m9 : ∀ k, k < 4 → rm k = nI (aRl a k)) (hc : code < 2000) (h : ∀ sh, shI sh (sgd a code) → Q sh) : P_mo_layShifts rm sh (nI code) Q := by
  have loop : ∀ (m : Nat) (s : Nat → Int32), m ≤ 4 → (∀ k, m ≤ k → k < 4 → s k = nI (sgd a code k)) → L_mo_layShifts_4 rm Q (m + 1) s (nI (code / qq a (4 - m))) (nI m + (-1)) := by
    intro m
    induction m with
    | zero =>
      intro s _ hI
      unfold L_mo_layShifts_4
      exact br_t (by decide) (h s (fun k hk => hI k (Nat.zero_le _) hk))
    | succ m ih =>
      intro s hm hI
      have hm4 : m < 4 := by omega
      have l6 := hA.2.2.2.2.2.2.2.1 m hm4
      have hr1 := rl1_b hA hm4
      have hX : code / qq a (4 - (m + 1)) ≤ code := Nat.div_le_self _ _
      have e1 : 4 - m = 4 - (m + 1) + 1 := by omega
      have e2 : 3 - (4 - (m + 1)) = m := by omega
      have e3 : 3 - m = 4 - (m + 1) := by omega
      unfold L_mo_layShifts_4
      rw [pk_m1, cl (n := m) (by omega), m9 m hm4]
      have fin : B_mo_layShifts_27 rm Q (L_mo_layShifts_4 rm Q (m + 1)) s (nI (code / qq a (4 - (m + 1)))) (nI m) (nI (rl1 a m)) := by
        unfold B_mo_layShifts_27
        rw [cl (n := m) (by omega), pk_rem (by omega) (by omega) (by omega), pk_div (by omega) (by omega) (by omega)]
        refine ⟨nI_ne0 (by omega) (by omega), vI hm4 (by omega), nI_ne0 (by omega) (by omega), ?_⟩
        rintro _ rfl
        have := ih (upd s m (nI (code / qq a (4 - (m + 1)) % rl1 a m))) (by omega) (fun k hk hk4 => by
          by_cases e : k = m
          · subst e
            rw [u_s]
            unfold sgd
            rw [e3]
          · rw [u_n e]; exact hI k (by omega) hk4)
        rw [e1, dq, e2] at this
        exact this
      have z0 : nI (aRl a m) = 0 ↔ aRl a m = 0 := nI_eq (b := 0) (by omega) (by omega)
      rw [z0]
      refine br_f (nI_pos (by omega)) ⟨vI hm4 (by omega), fun e => ?_, fun e => ⟨vI hm4 (by omega), ?_⟩⟩
      · have : rl1 a m = 1 := by unfold rl1; rw [if_pos e]
        rw [this] at fin
        exact fin
      · have : rl1 a m = aRl a m := by unfold rl1; rw [if_neg e]
        rw [this] at fin
        exact fin
  unfold P_mo_layShifts
  have := loop 4 sh (Nat.le_refl _) (fun k hk hk4 => by omega)
  have e0 : code / qq a (4 - 4) = code := Nat.div_one _
  rw [e0] at this
  exact ⟨5, this⟩
theorem s_marrange {a : Abs} {mw ml mr mp : Int32} {mk mpc mf rm ro sh : Nat → Int32} {Q : Int32 → (Nat → Int32) → Prop} (hA : AOk a) (hm : ∀ c, c < aN a → mk c = nI (aKd a c)) (h1 : mw = nI (aW a)) (h4 : ml = nI (aLw a)) (h5 : mr = nI (aRg a)) (h6 : mp = nI (aNp a)) (m7 : ∀ p, p < aNp a → mpc p = nI (aPc a p)) (m8 : ∀ p, p < aNp a → mf p = nI (aPf a p)) (m9 : ∀ k, k < 4 → rm k = nI (aRl a k)) (m10 : ∀ k i, k < 4 → i < aRl a k → ro (6 * k + i) = nI (aRc a k i)) (h : ∀ sh, shI sh (sgd a (am a (qq a 4)).2) → ((am a (qq a 4)).1 = 1000000 → Q (-9) sh) ∧ (¬ (am a (qq a 4)).1 = 1000000 → Q (nI (am a (qq a 4)).1) sh)) : P_mo_arrange mw mk ml mr mp mpc mf rm ro sh Q := by
  have hqb := qq_le hA (i := 4) (Nat.le_refl _)
  have main : ∀ (sh : Nat → Int32), ∃ n, L_mo_arrange_49 mw mk ml mr mp mpc mf rm ro Q n sh (nI 1000001) (nI 0) (nI (qq a 4)) 0 := by
    intro sh0
    refine cnt0 (fun n k (z : (Nat → Int32)) => L_mo_arrange_49 mw mk ml mr mp mpc mf rm ro Q n z (nI (am a k).1) (nI (am a k).2) (nI (qq a 4)) (nI k)) (qq a 4) (fun _ _ => True) sh0 trivial ?_ ?_
    · intro n z _
      have hcd := am_cd (a := a) (qq a 4)
      have hbd := am_bd hA (qq a 4)
      unfold L_mo_arrange_49 B_mo_arrange_85
      refine br_t (nI_le (Nat.le_refl _) (by omega)) (s_layShifts hA m9 (by omega) (fun sh2 hs2 => ?_))
      rw [show (nI (am a (qq a 4)).1 = (1000000 : Int32) ↔ (am a (qq a 4)).1 = 1000000) from nI_eq (b := 1000000) (by omega) (by omega)]
      exact h sh2 hs2
    · intro n k z hk _ ih
      have hbd := am_bd hA k
      have hv := vA_le hA k
      unfold L_mo_arrange_49
      rw [nI_1 k]
      refine br_f (nI_ge hk (by omega)) (s_layShifts hA m9 (by omega) (fun sh2 hs2 => s_mworst (a := aSh a (sgd a k)) (aOk_sg hA k) hm h1 h4 h5 h6 m7 m8 m9 m10 hs2 ?_))
      have ev : oI (nI 1000000) (wO (aSh a (sgd a k))) = nI (vA a k) := by
        unfold vA
        cases wO (aSh a (sgd a k)) <;> rfl
      rw [ev, nI_leI (by omega) (by omega)]
      have := ih sh2 trivial
      rw [am_s] at this
      refine ⟨fun q => ?_, fun q => ?_⟩
      · rw [if_pos q] at this; exact this
      · rw [if_neg q] at this; exact this
  unfold P_mo_arrange
  have cntl : ∀ (m w x : Nat), w + m = 4 → x * qq a (4 - w) = qq a 4 → L_mo_arrange_10 mw mk ml mr mp mpc mf rm ro Q (m + 1) sh (nI 1000001) (nI 0) (nI x) (nI w) := by
    intro m
    induction m with
    | zero =>
      intro w x hw hx
      have : w = 4 := by omega
      subst this
      have hx' : x * 1 = qq a 4 := hx
      rw [Nat.mul_one] at hx'
      subst hx'
      unfold L_mo_arrange_10
      exact br_t (nI_le (a := 4) (b := 4) (Nat.le_refl _) (by omega)) (main sh)
    | succ m ih =>
      intro w x hw hx
      have hw4 : w < 4 := by omega
      have l6 := hA.2.2.2.2.2.2.2.1 w hw4
      have nx := ih (w + 1) (x * rl1 a w) (by omega) (by rw [← hx, show 4 - w = (4 - (w + 1)) + 1 by omega, qq_s, show 3 - (4 - (w + 1)) = w by omega, Nat.mul_assoc])
      unfold L_mo_arrange_10
      rw [nI_1 w, cl (n := w) (by omega), m9 w hw4]
      have z0 : nI (aRl a w) = 0 ↔ aRl a w = 0 := nI_eq (b := 0) (by omega) (by omega)
      rw [z0]
      refine br_f (nI_ge (b := 4) hw4 (by omega)) ⟨vI hw4 (by omega), fun e => ?_, fun e => ⟨vI hw4 (by omega), ?_⟩⟩
      · rintro _ rfl
        have : rl1 a w = 1 := by unfold rl1; rw [if_pos e]
        rw [this] at nx
        rw [show (1 : Int32) = nI 1 from rfl, pk_mul]
        exact nx
      · rintro _ rfl
        have : rl1 a w = aRl a w := by unfold rl1; rw [if_neg e]
        rw [this] at nx
        rw [pk_mul]
        exact nx
  exact ⟨5, cntl 4 0 1 (by omega) (by rw [Nat.one_mul])⟩
theorem op_arrange {ga_sightings : Nat → Int64} {ga_bestShifts : Nat → Int32} {ga_commonLength : Int32} {ga_allTimes : Int64} {gr_width : Int32} {gr_height : Int32} {gr_size : Int32} {gr_kinds : Nat → Int32} {gr_columns : Nat → Int32} {gr_rows : Nat → Int32} {gr_floorCells : Int64} {gr_clearCells : Int64} {gr_standCells : Int64} {gr_firstColumn : Int64} {gr_lastColumn : Int64} {pi_cells : Nat → Int32} {pi_facings : Nat → Int32} {pi_size : Int32} {ro_cells : Nat → Int32} {ro_lengths : Nat → Int32} {ro_shifts : Nat → Int32} {si_sightLaw : Int32} {si_sightRange : Int32} {mo_wide : Int32} {mo_tall : Int32} {mo_kind : Nat → Int32} {mo_law : Int32} {mo_range : Int32} {mo_pictures : Int32} {mo_pictureCell : Nat → Int32} {mo_facing : Nat → Int32} {mo_roundMany : Nat → Int32} {mo_round : Nat → Int32} {mo_shift : Nat → Int32} (hR : Rel gr_width gr_height gr_size gr_columns gr_rows gr_firstColumn gr_lastColumn gr_kinds gr_floorCells gr_clearCells gr_standCells pi_cells pi_facings pi_size ro_cells ro_lengths ro_shifts si_sightLaw si_sightRange mo_wide mo_tall mo_kind mo_law mo_range mo_pictures mo_pictureCell mo_facing mo_roundMany mo_round mo_shift)  : P_wh_arrange ga_sightings ga_bestShifts ga_commonLength ga_allTimes gr_width gr_columns gr_rows gr_floorCells gr_clearCells gr_standCells pi_cells pi_facings pi_size ro_cells ro_lengths ro_shifts si_sightLaw si_sightRange (fun r1 ga_sightings' ga_bestShifts' ga_commonLength' ga_allTimes' ro_shifts' => P_mo_arrange mo_wide mo_kind mo_law mo_range mo_pictures mo_pictureCell mo_facing mo_roundMany mo_round mo_shift (fun r2 mo_shift' => r1 = r2 ∧ Rel gr_width gr_height gr_size gr_columns gr_rows gr_firstColumn gr_lastColumn gr_kinds gr_floorCells gr_clearCells gr_standCells pi_cells pi_facings pi_size ro_cells ro_lengths ro_shifts' si_sightLaw si_sightRange mo_wide mo_tall mo_kind mo_law mo_range mo_pictures mo_pictureCell mo_facing mo_roundMany mo_round mo_shift')) := by
  obtain ⟨a, hA, hGs, hGk, hPi, hRo, hSi, hM⟩ := id hR
  obtain ⟨m1, m2, m3, m4, m5, m6, m7, m8, m9, m10, m11⟩ := id hM
  obtain ⟨hn4, hn⟩ := aN_le hA
  have hnw : aW a * aH a < 1073741824 := by unfold aN at hn; omega
  have hnp : aNp a ≤ 8 := hA.2.2.2.2.2.1
  unfold P_wh_arrange
  refine s_gaSurvey hA hGs hGk hSi hPi hRo (fun sg al hsg hal => s_setBest hA hsg hal hPi.1 hRo (fun hno bs rs hrs => ?_) (fun hyes bs rs hrs => ?_))
  · have hv : ∀ j, vA a j = 1000000 := fun j => by unfold vA; rw [wO_no (sh' := sgd a j) (aOk_sg hA 0) hno]
    have ham : am a (qq a 4) = (1000000, 0) := by
      have := am_ext (a := a) (k := 1) (k' := qq a 4) (qq_le hA (Nat.le_refl _)).1 (fun j _ => ⟨0, by omega, by rw [hv, hv]; exact Nat.le_refl _⟩)
      rw [this, am_1 hA, hv]
    refine s_marrange hA m3 m1 m4 m5 m6 m7 m8 m9 m10 (fun sh hsh => ?_)
    rw [ham] at hsh ⊢
    exact ⟨fun _ => ⟨rfl, aSh a (sgd a 0), aOk_sg hA 0, hGs, hGk, hPi, ⟨hRo.1, hrs, hRo.2.2⟩, hSi, m1, m2, m3, m4, m5, m6, m7, m8, m9, m10, hsh⟩, fun q => absurd rfl q⟩
  · refine s_marrange hA m3 m1 m4 m5 m6 m7 m8 m9 m10 (fun sh hsh => ⟨fun e => ?_, fun _ => ⟨rfl, aSh a (sgd a (am a (qq a 4)).2), aOk_sg hA _, hGs, hGk, hPi, ⟨hRo.1, hrs, hRo.2.2⟩, hSi, m1, m2, m3, m4, m5, m6, m7, m8, m9, m10, hsh⟩⟩)
    have h0 := am_le (a := a) (k := qq a 4) (j := 0) (qq_le hA (Nat.le_refl _)).1
    have h1 := (vA_some hA hyes 0).2
    omega
