/-! the reference's search from behind -/
theorem nar0 : vp_nar .boolean (0 : Int32) = 0 := by decide
theorem nar1 : vp_nar .boolean (1 : Int32) = 1 := by decide
theorem s_layDanger {a : Abs} {mw mt ml mr : Int32} {mk rm ro sh md : Nat → Int32} {Q : (Nat → Int32) → Prop} (hA : AOk a) (hm : ∀ c, c < aN a → mk c = nI (aKd a c)) (h1 : mw = nI (aW a)) (h2 : mt = nI (aH a)) (h4 : ml = nI (aLw a)) (h5 : mr = nI (aRg a)) (m9 : ∀ k, k < 4 → rm k = nI (aRl a k)) (m10 : ∀ k i, k < 4 → i < aRl a k → ro (6 * k + i) = nI (aRc a k i)) (m11 : ∀ k, k < 4 → sh k = nI (aRs a k)) (h : ∀ g, (∀ t c, t < per a → c < aN a → g (64 * t + c) = bI (wtd a c t)) → Q g) : P_mo_layDanger mw mt mk ml mr rm ro sh md (nI (per a)) Q := by
  obtain ⟨-, hn⟩ := aN_le hA
  have hP := per_le hA
  have hN : mw * mt = nI (aN a) := by rw [h1, h2, pk_mul]; rfl
  unfold P_mo_layDanger
  refine cnt0 (fun n i (s : Nat → Int32) => L_mo_layDanger_2 mw mt mk ml mr rm ro sh Q n s (nI (per a)) (nI i)) (64 * per a) (fun i s => ∀ t c, t < per a → c < aN a → 64 * t + c < i → s (64 * t + c) = bI (wtd a c t)) md (fun t c _ _ hc => absurd hc (Nat.not_lt_zero _)) ?_ ?_
  · intro n s hI
    unfold L_mo_layDanger_2
    rw [show (64 : Int32) = nI 64 from rfl, pk_mul]
    exact br_t (nI_le (Nat.le_refl _) (by omega)) (h s (fun t c ht hc => hI t c ht hc (by omega)))
  · intro n i s hi hI ih
    have ne : ¬ nI 64 = 0 := by decide
    unfold L_mo_layDanger_2
    rw [hN, nI_1 i, show (64 : Int32) = nI 64 from rfl, pk_mul, pk_rem (by omega) (by omega) (by omega), pk_div (by omega) (by omega) (by omega), cl (n := i) (by omega), nar0, nar1]
    have v : vp_in (nI i) 4096 := vI (by omega) (by omega)
    have fin : ∀ x : Int32, (i % 64 < aN a → x = bI (wtd a (i % 64) (i / 64))) → L_mo_layDanger_2 mw mt mk ml mr rm ro sh Q n (upd s i x) (nI (per a)) (nI (i + 1)) := by
      intro x hx
      refine ih _ (fun t c ht hc hlt => ?_)
      by_cases e : 64 * t + c = i
      · have e1 : i % 64 = c := by omega
        have e2 : i / 64 = t := by omega
        rw [e, u_s, hx (by omega), e1, e2]
      · rw [u_n e]; exact hI t c ht hc (by omega)
    refine br_f (nI_ge hi (by omega)) ⟨ne, fun g => ⟨v, fin _ (fun q => ?_)⟩, fun g => ⟨ne, ne, ?_⟩⟩
    · exact absurd g (nI_ge q (by omega))
    · have hlt : i % 64 < aN a := by
        rcases Nat.lt_or_ge (i % 64) (aN a) with q | q
        · exact q
        · exact absurd (nI_le q (by omega)) g
      refine s_isWatched hA hm h1 h4 h5 m9 m10 m11 hlt (by omega) (brB (fun q => ⟨v, fin _ (fun _ => by rw [q]; rfl)⟩) (fun q => ⟨v, fin _ (fun _ => by rw [q]; rfl)⟩))
theorem s_put {mv : Nat → Nat → Option Nat} {goal : Nat → Prop} {K : Nat} {q D : Nat → Int32} {many mark C b s : Nat} {Done : Nat → Prop} {may : Bool} {Q : Int32 → (Nat → Int32) → (Nat → Int32) → Prop} (hK : K ≤ 8192) (B : BI mv goal K q D many mark C b Done) (hs : may = true → s < K ∧ Gd mv goal (b + 1) s) (h : ∀ q' D' many', BI mv goal K q' D' many' mark C b (fun x => Done x ∨ (may = true ∧ x = s)) → Q (nI many') q' D') : P_mo_put q D (nI s) (bI may) (nI C) (nI many) Q := by
  obtain ⟨k1, k2, k3, k4, k5, k6, k7⟩ := BI_at B
  unfold P_mo_put
  refine brB (fun hf => h _ _ _ (BI_sub B (fun x hx => ?_))) (fun ht => ?_)
  · rcases hx with hx | hx
    · exact hx
    · rw [hf] at hx; cases hx.1
  · obtain ⟨w1, w2⟩ := hs ht
    rw [cl (n := s) (by omega), cl (n := C) (by omega), k2, nI_1 b, nI_1 many]
    refine ⟨vI (by omega) (by omega), fun e => ?_, fun e => h _ _ _ (BI_sub (BI_old B w1 e) (fun x hx => ?_))⟩
    · obtain ⟨z1, z2⟩ := BI_new B (by omega) w1 e w2
      rw [cl (n := many) (by omega)]
      refine ⟨vI (by omega) (by omega), vI (by omega) (by omega), vI (by omega) (by omega), h _ _ _ (BI_sub z2 (fun x hx => ?_))⟩
      rcases hx with hx | hx
      · exact Or.inl hx
      · exact Or.inr hx.2
    · rcases hx with hx | hx
      · exact Or.inl hx
      · exact Or.inr hx.2
/-- who may have come before -/
def prd (a : Abs) (c d : Nat) : Option Nat := if d = 4 then some c else bsd a c d
theorem prd_fwd {a : Abs} (hA : AOk a) {c d o : Nat} (hd : d < 5) (hc : c < aN a) (hsc : std a c = true) (h : prd a c d = some o) : o < aN a ∧ std a o = true ∧ ∃ d2, d2 < 5 ∧ stp a o d2 = some c := by
  unfold prd at h
  by_cases e : d = 4
  · rw [if_pos e] at h
    cases h
    exact ⟨hc, hsc, 4, by omega, by rw [stp4 hA hc, if_pos hsc]⟩
  · rw [if_neg e] at h
    have ho := bsd_std h
    have hn := (nbr_iff hA hc ho.2.1).mpr ⟨d, by omega, h⟩
    obtain ⟨d2, e1, e2⟩ := (nbr_iff hA ho.2.1 hc).mp (nbr_sym hn)
    unfold bsd at e2
    rw [if_pos ho.2.2] at e2
    exact ⟨ho.2.1, ho.2.2, d2, by omega, e2⟩
theorem prd_bwd {a : Abs} (hA : AOk a) {o c d : Nat} (hd : d < 5) (ho : o < aN a) (hso : std a o = true) (h : stp a o d = some c) : ∃ d', d' < 5 ∧ prd a c d' = some o := by
  have hc := stp_some h
  by_cases e : d = 4
  · subst e
    rw [stp4 hA ho, if_pos hso] at h
    cases h
    exact ⟨4, by omega, by unfold prd; rw [if_pos rfl]⟩
  · have hb : bsd a o d = some c := by unfold bsd; rw [if_pos hso]; exact h
    have hn := (nbr_iff hA ho hc.1).mpr ⟨d, by omega, hb⟩
    obtain ⟨d2, e1, e2⟩ := (nbr_iff hA hc.1 ho).mp (nbr_sym hn)
    exact ⟨d2, by omega, by unfold prd; rw [if_neg (by omega)]; exact e2⟩
theorem hGd {a : Abs} (hA : AOk a) {tg dr : Nat} : ∀ {k S : Nat}, Gd (hmv a tg) (hgoal a dr) k S → hV a S
  | 0, _, h => ⟨h.1, h.2.1⟩
  | _ + 1, _, h => by
    obtain ⟨d, t, -, h1, -⟩ := h
    exact (hmv_some hA h1).1
theorem bef_lt {P t : Nat} (hP : 0 < P) (ht : t < P) : ((t + P - 1) % P + 1) % P = t := by
  rcases Nat.eq_zero_or_pos t with z | z
  · subst z
    rw [Nat.zero_add, Nat.mod_eq_of_lt (show P - 1 < P by omega), show P - 1 + 1 = P by omega, Nat.mod_self]
  · rw [show t + P - 1 = (t - 1) + P by omega, Nat.add_mod_right, Nat.mod_eq_of_lt (show t - 1 < P by omega), show t - 1 + 1 = t by omega, Nat.mod_eq_of_lt ht]
theorem bef_un {P t b : Nat} (hP : 0 < P) (hb : b < P) (h : (b + 1) % P = t) : (t + P - 1) % P = b := by
  subst h
  rcases Nat.lt_or_ge (b + 1) P with g | g
  · rw [Nat.mod_eq_of_lt g, show b + 1 + P - 1 = b + P by omega, Nat.add_mod_right, Nat.mod_eq_of_lt hb]
  · have : b + 1 = P := by omega
    rw [this, Nat.mod_self, Nat.zero_add, Nat.mod_eq_of_lt (by omega)]
    omega
theorem s_layTheft {a : Abs} {mw mt ml mr : Int32} {mk mq mpc rm ro sh mth mdg : Nat → Int32} {p dr : Nat} {Q : (Nat → Int32) → (Nat → Int32) → (Nat → Int32) → Prop} (hA : AOk a) (hm : ∀ c, c < aN a → mk c = nI (aKd a c)) (h1 : mw = nI (aW a)) (h2 : mt = nI (aH a)) (h4 : ml = nI (aLw a)) (h5 : mr = nI (aRg a)) (m7 : ∀ p, p < aNp a → mpc p = nI (aPc a p)) (m9 : ∀ k, k < 4 → rm k = nI (aRl a k)) (m10 : ∀ k i, k < 4 → i < aRl a k → ro (6 * k + i) = nI (aRc a k i)) (m11 : ∀ k, k < 4 → sh k = nI (aRs a k)) (hp : p < aNp a) (hdr : dr < aN a)
    (h : ∀ q D g, (∀ t c, t < per a → c < aN a → g (64 * t + c) = bI (wtd a c t)) → DT (hmv a (aPc a p)) (hgoal a dr) (128 * per a) D → Q q D g) : P_mo_layTheft mw mt mk ml mr mq mpc rm ro sh mth mdg (nI p) (nI dr) Q := by
  obtain ⟨-, hn⟩ := aN_le hA
  have hP := per_le hA
  have hP1 := per_pos hA
  have hnp : aNp a ≤ 8 := hA.2.2.2.2.2.1
  have htg := (hA.2.2.2.2.2.2.1 p hp).1
  unfold P_mo_layTheft
  refine s_periodNow hA m9 (s_layDanger hA hm h1 h2 h4 h5 m9 m10 m11 (fun g hg => ?_))
  have outer : ∀ (n mark many : Nat) (q D : Nat → Int32), 128 * per a - mark < n → mark ≤ many → (∃ st dp, BQ (hmv a (aPc a p)) (hgoal a dr) (128 * per a) q D st dp many mark) → L_mo_layTheft_122 mw mt mk mpc Q n q D g (nI p) (nI (per a)) (nI many) (nI mark) := by
    intro n
    induction n with
    | zero => intro mark many q D hx; omega
    | succ n ih =>
      rintro mark many q D hx hml ⟨st, dp, B⟩
      have hle := BQ_le B
      unfold L_mo_layTheft_122
      rcases Nat.lt_or_ge mark many with hmk | hmk
      · refine br_f (nI_ge hmk (by omega)) ?_
        obtain ⟨C, b, BI0⟩ := BI_start B hmk
        obtain ⟨k1, k2, k3, k4, k5, k6, k7⟩ := BI_at BI0
        obtain ⟨v1, v2⟩ := hGd hA k5
        have hsf := sf_iff.mp v2
        have ne1 : ¬ (128 : Int32) = 0 := by decide
        have ne2 : ¬ (2 : Int32) = 0 := by decide
        have vm : vp_in (nI mark) 65536 := vI (by omega) (by omega)
        rw [cl (n := mark) (by omega), k1]
        refine ⟨vm, ne1, ?_⟩
        rintro _ rfl
        refine ⟨vm, ne1, ne2, ?_⟩
        rintro _ rfl
        refine ⟨vm, ne2, ?_⟩
        rw [show (128 : Int32) = nI 128 from rfl, show (2 : Int32) = nI 2 from rfl, pk_rem (d := 128) (by omega) (by omega) (by omega), pk_div (d := 128) (by omega) (by omega) (by omega), pk_rem (d := 2) (by omega) (by omega) (by omega), pk_div (a := C % 128) (d := 2) (by omega) (by omega) (by omega)]
        have z1 : nI (C % 2) = 1 ↔ C % 2 = 1 := nI_eq (b := 1) (by omega) (by omega)
        rw [z1]
        have hbef : (C / 128 + per a - 1) % per a < per a := Nat.mod_lt _ hP1
        have e175 : ∀ hs : Bool, hs = decide (C % 2 = 1) → B_mo_layTheft_175 mw mt mk mpc Q (L_mo_layTheft_122 mw mt mk mpc Q n) q D g (nI p) (nI (per a)) (nI many) (nI mark) (nI (C / 128)) (nI (C % 128 / 2)) (bI hs) := by
          rintro _ rfl
          unfold B_mo_layTheft_175
          refine ⟨nI_ne0 hP1 (by omega), ?_⟩
          rintro _ rfl
          rw [nI_add, show (1 : Int32) = nI 1 from rfl, pk_sub (by omega), pk_rem (by omega) hP1 (by omega)]
          refine cnt0 (fun n' d (s : (Nat → Int32) × (Nat → Int32) × Nat) => L_mo_layTheft_190 mw mt mk mpc Q (L_mo_layTheft_122 mw mt mk mpc Q n) n' s.1 s.2.1 g (nI p) (nI (per a)) (nI s.2.2) (nI mark) (nI (C % 128 / 2)) (bI (decide (C % 2 = 1))) (nI ((C / 128 + per a - 1) % per a)) (nI d)) 5 (fun d s => BI (hmv a (aPc a p)) (hgoal a dr) (128 * per a) s.1 s.2.1 s.2.2 mark C b (fun x => ∃ d' o h', d' < d ∧ prd a (C % 128 / 2) d' = some o ∧ sf a ((C / 128 + per a - 1) % per a) o = true ∧ h' < 2 ∧ C % 2 = (if h' = 1 ∨ C % 128 / 2 = aPc a p then 1 else 0) ∧ x = 128 * ((C / 128 + per a - 1) % per a) + (2 * o + h'))) (q, D, many) (BI_sub BI0 (fun x hx => by obtain ⟨d', o, h', hd, -⟩ := hx; omega)) ?_ ?_
          · rintro n' ⟨q', D', many'⟩ hB
            unfold L_mo_layTheft_190
            refine br_t (nI_le (a := 5) (b := 5) (Nat.le_refl _) (by omega)) ?_
            rw [nI_1 mark]
            have hc := BI_at hB
            have hc7 : mark < many' := hc.2.2.2.2.2.2
            refine ih (mark + 1) many' q' D' (by omega) (by omega) (BI_end hB (fun d s hd hmv2 => ?_))
            obtain ⟨⟨y1, y2⟩, y3, o, y4, y5, y6, y7, y8, y9, y10, y11⟩ := hmv_some hA hmv2
            have ysf := sf_iff.mp y2
            rw [← y10] at y4
            obtain ⟨d', w1, w2⟩ := prd_bwd hA y3 ysf.1 ysf.2.1 y4
            have eb := bef_un hP1 y1 y9.symm
            rw [← y10] at y11
            exact ⟨d', s % 128 / 2, s % 2, w1, w2, by rw [eb]; exact y2, by omega, y11, by rw [eb]; omega⟩
          · rintro n' d ⟨q', D', many'⟩ hd hB ih2
            generalize hbb : (C / 128 + per a - 1) % per a = bf at *
            have hback : (bf + 1) % per a = C / 128 := by rw [← hbb]; exact bef_lt hP1 v1
            obtain ⟨j1, j2, j3, j4, j5, j6, j7⟩ := BI_at hB
            simp only at j1 j2 j6 j7
            have skip : (∀ o, prd a (C % 128 / 2) d = some o → sf a bf o = false) → L_mo_layTheft_190 mw mt mk mpc Q (L_mo_layTheft_122 mw mt mk mpc Q n) n' q' D' g (nI p) (nI (per a)) (nI many') (nI mark) (nI (C % 128 / 2)) (bI (decide (C % 2 = 1))) (nI bf) (nI (d + 1)) := by
              intro hno
              refine ih2 (q', D', many') (BI_sub hB (fun x hx => ?_))
              obtain ⟨d', o, h', w1, w2, w3, w4⟩ := hx
              rcases Nat.lt_or_ge d' d with z | z
              · exact ⟨d', o, h', z, w2, w3, w4⟩
              · have : d' = d := by omega
                subst this
                rw [hno o w2] at w3; cases w3
            have b215 : ∀ y0 : Int32, y0 = oI (-9) (prd a (C % 128 / 2) d) → B_mo_layTheft_215 mw mt mk mpc Q (L_mo_layTheft_190 mw mt mk mpc Q (L_mo_layTheft_122 mw mt mk mpc Q n) n') q' D' g (nI p) (nI (per a)) (nI many') (nI mark) (nI (C % 128 / 2)) (bI (decide (C % 2 = 1))) (nI bf) (nI d) y0 := by
              rintro _ rfl
              unfold B_mo_layTheft_215
              rw [nI_1 d]
              cases hpr : prd a (C % 128 / 2) d with
              | none => exact br_t rfl (skip (fun o ho => by rw [hpr] at ho; cases ho))
              | some o =>
                obtain ⟨ho, hso, d2, hd2, hst2⟩ := prd_fwd hA hd hsf.1 hsf.2.1 hpr
                refine br_f (nI_ne9 (by omega)) ?_
                rw [show oI (-9) (some o) = nI o from rfl, show (64 : Int32) = nI 64 from rfl, pk_mul, nI_add, cl (n := 64 * bf + o) (by omega), hg bf o hbef ho, cl (n := p) (by omega), m7 p hp]
                refine ⟨vI (by omega) (by omega), brB (fun gd => ⟨vI (by omega) (by omega), ?_⟩) (fun gd => skip (fun o2 ho2 => ?_))⟩
                · have hsfo : sf a bf o = true := sf_iff.mpr ⟨ho, hso, gd⟩
                  have hgd : ∀ h', h' < 2 → C % 2 = (if h' = 1 ∨ C % 128 / 2 = aPc a p then 1 else 0) → Gd (hmv a (aPc a p)) (hgoal a dr) (b + 1) (128 * bf + (2 * o + h')) := by
                    intro h' hh' hev
                    refine ⟨d2, C, by omega, ?_, j5⟩
                    have qq := hst (t := bf) (c := o) (h := h') (by omega) hh'
                    unfold hmv
                    rw [qq.1, qq.2.1, qq.2.2, if_pos ⟨hbef, hsfo, hd2⟩, hst2, hback]
                    simp only
                    rw [if_pos v2, ← hev]
                    exact congrArg some (by omega)
                  have b256 : ∀ here : Bool, here = decide (C % 128 / 2 = aPc a p) → B_mo_layTheft_256 mw mt mk mpc Q (L_mo_layTheft_190 mw mt mk mpc Q (L_mo_layTheft_122 mw mt mk mpc Q n) n') q' D' g (nI p) (nI (per a)) (nI many') (nI mark) (nI (C % 128 / 2)) (bI (decide (C % 2 = 1))) (nI bf) (nI d) (nI o) (bI here) := by
                    rintro _ rfl
                    unfold B_mo_layTheft_256
                    rw [cl (n := mark) (by omega), j1, show (128 : Int32) = nI 128 from rfl, show (2 : Int32) = nI 2 from rfl, pk_mul, pk_mul, nI_add, nI_1]
                    refine ⟨vm, s_put (s := 128 * bf + 2 * o + 1) (may := decide (C % 2 = 1)) (by omega) hB (fun hmay => ⟨by omega, ?_⟩) (fun q2 D2 many2 hB2 => ?_)⟩
                    · have hm1 := of_decide_eq_true hmay
                      have := hgd 1 (by omega) (by rw [if_pos (Or.inl rfl)]; exact hm1)
                      rw [show 128 * bf + 2 * o + 1 = 128 * bf + (2 * o + 1) by omega]
                      exact this
                    · obtain ⟨i1, i2, i3, i4, i5, i6, i7⟩ := BI_at hB2
                      have b325 : ∀ may2 : Bool, (may2 = true ↔ C % 2 = (if 0 = 1 ∨ C % 128 / 2 = aPc a p then 1 else 0)) → B_mo_layTheft_325 mw mt mk mpc Q (L_mo_layTheft_190 mw mt mk mpc Q (L_mo_layTheft_122 mw mt mk mpc Q n) n') q2 D2 g (nI p) (nI (per a)) (nI many2) (nI mark) (nI (C % 128 / 2)) (bI (decide (C % 2 = 1))) (nI bf) (nI d) (nI (128 * bf + 2 * o)) (bI may2) := by
                        intro may2 hm2
                        unfold B_mo_layTheft_325
                        rw [cl (n := mark) (by omega), i1, nI_1 d]
                        refine ⟨vm, s_put (s := 128 * bf + 2 * o) (may := may2) (by omega) hB2 (fun hmay => ⟨by omega, ?_⟩) (fun q3 D3 many3 hB3 => ih2 (q3, D3, many3) (BI_sub hB3 (fun x hx => ?_)))⟩
                        · have := hgd 0 (by omega) (hm2.mp hmay)
                          rw [show 128 * bf + 2 * o = 128 * bf + (2 * o + 0) by omega]
                          exact this
                        · obtain ⟨d', o', h', w1, w2, w3, w4, w5, w6⟩ := hx
                          rcases Nat.lt_or_ge d' d with z | z
                          · exact Or.inl (Or.inl ⟨d', o', h', z, w2, w3, w4, w5, w6⟩)
                          · have : d' = d := by omega
                            subst this
                            rw [hpr] at w2
                            cases w2
                            rcases Nat.lt_or_ge h' 1 with z2 | z2
                            · have : h' = 0 := by omega
                              subst this
                              exact Or.inr ⟨hm2.mpr w5, by omega⟩
                            · have : h' = 1 := by omega
                              subst this
                              rw [if_pos (Or.inl rfl)] at w5
                              exact Or.inl (Or.inr ⟨decide_eq_true w5, by omega⟩)
                      have b310 : decide (C % 2 = 1) = false ∨ decide (C % 128 / 2 = aPc a p) = false → B_mo_layTheft_310 mw mt mk mpc Q (L_mo_layTheft_190 mw mt mk mpc Q (L_mo_layTheft_122 mw mt mk mpc Q n) n') q2 D2 g (nI p) (nI (per a)) (nI many2) (nI mark) (nI (C % 128 / 2)) (bI (decide (C % 2 = 1))) (nI bf) (nI d) (bI (decide (C % 128 / 2 = aPc a p))) (nI (128 * bf + 2 * o)) := by
                        intro hor
                        unfold B_mo_layTheft_310
                        refine brB (fun e1 => brB (fun e2 => b325 true ?_) (fun e2 => b325 false ?_)) (fun e1 => b325 false ?_)
                        · have e1 := of_decide_eq_false e1
                          have e2 := of_decide_eq_false e2
                          rw [if_neg (by omega)]
                          exact ⟨fun _ => by omega, fun _ => rfl⟩
                        · have e1 := of_decide_eq_false e1
                          have e2 := of_decide_eq_true e2
                          rw [if_pos (Or.inr e2)]
                          exact ⟨fun z => Bool.noConfusion z, fun z => absurd z e1⟩
                        · have e2 : decide (C % 128 / 2 = aPc a p) = false := by
                            rcases hor with z | z
                            · rw [e1] at z; cases z
                            · exact z
                          have e1 := of_decide_eq_true e1
                          have e2 := of_decide_eq_false e2
                          rw [if_neg (by omega)]
                          exact ⟨fun z => Bool.noConfusion z, fun z => by omega⟩
                      refine brB (fun e1 => b310 (Or.inl e1)) (fun e1 => brB (fun e2 => b310 (Or.inr e2)) (fun e2 => b325 true ?_))
                      have e1 := of_decide_eq_true e1
                      have e2 := of_decide_eq_true e2
                      rw [if_pos (Or.inr e2)]
                      exact ⟨fun _ => e1, fun _ => rfl⟩
                  have z3 : nI (C % 128 / 2) = nI (aPc a p) ↔ C % 128 / 2 = aPc a p := nI_eq (by omega) (by omega)
                  rw [z3]
                  exact ⟨fun e => b256 true (decide_eq_true e).symm, fun e => b256 false (decide_eq_false e).symm⟩
                · rw [hpr] at ho2
                  cases ho2
                  unfold sf
                  rw [gd]
                  simp
            unfold L_mo_layTheft_190
            have z4 : nI d = 4 ↔ d = 4 := nI_eq (b := 4) (by omega) (by omega)
            rw [z4]
            refine br_f (nI_ge (b := 5) hd (by omega)) ⟨fun e => b215 _ ?_, fun e => s_beside hA hm h1 h2 hsf.1 (by omega) (b215 _ ?_)⟩
            · unfold prd; rw [if_pos e]; rfl
            · unfold prd; rw [if_neg e]
        exact ⟨fun e => e175 true (decide_eq_true e).symm, fun e => e175 false (decide_eq_false e).symm⟩
      · exact br_t (nI_le hmk (by omega)) (h q D g hg (BQ_end B hmk))
  refine cnt0 (fun n i (s : Nat → Int32) => L_mo_layTheft_13 mw mt mk mpc Q n mq s g (nI p) (nI dr) (nI (per a)) (nI i)) (128 * per a) (fun i s => ∀ c, c < i → s c = -9) mth (fun c hc => absurd hc (Nat.not_lt_zero _)) ?_ ?_
  · intro n s hI
    unfold L_mo_layTheft_13
    rw [show (128 : Int32) = nI 128 from rfl, pk_mul]
    refine br_t (nI_le (Nat.le_refl _) (by omega)) ?_
    refine cnt0 (fun n t (z : (Nat → Int32) × (Nat → Int32) × Nat) => L_mo_layTheft_44 mw mt mk mpc Q n z.1 z.2.1 g (nI p) (nI dr) (nI (per a)) (nI z.2.2) (nI t)) (per a) (fun t z => z.2.2 ≤ t ∧ ∃ st : Nat → Nat, (∀ i, i < z.2.2 → z.1 i = nI (st i) ∧ hgoal a dr (st i) ∧ st i < 128 * t ∧ z.2.1 (st i) = 0) ∧ (∀ x, x < 128 * per a → (∀ i, i < z.2.2 → st i ≠ x) → z.2.1 x = -9) ∧ (∀ i j, i < j → j < z.2.2 → st i ≠ st j) ∧ ∀ x, hgoal a dr x → x < 128 * t → ∃ j, j < z.2.2 ∧ st j = x) (mq, s, 0) ⟨Nat.le_refl _, fun _ => 0, fun i hi => absurd hi (Nat.not_lt_zero _), fun x hx _ => hI x hx, fun i j _ hj => absurd hj (Nat.not_lt_zero _), fun x _ hx => absurd hx (Nat.not_lt_zero _)⟩ ?_ ?_
    · rintro n ⟨q', D', many'⟩ ⟨hmt, st, a1, a2, a3, a4⟩
      simp only at hmt a1 a2 a3 a4
      unfold L_mo_layTheft_44
      refine br_t (nI_le (Nat.le_refl _) (by omega)) ⟨128 * per a + 1, outer _ 0 many' q' D' (by omega) (by omega) ⟨st, fun _ => 0, ⟨fun i hi => ⟨(a1 i hi).1, (a1 i hi).2.2.1, (a1 i hi).2.2.2⟩, a2⟩, ⟨fun x hx => ?_, fun i hi => (a1 i hi).2.1, a3, fun i j _ _ => Nat.le_refl _, fun i d x hi => absurd hi (Nat.not_lt_zero _)⟩, fun i _ => Nat.zero_le _, fun j _ _ => Nat.zero_le _⟩⟩
      obtain ⟨j, w1, w2⟩ := a4 x hx (by have := hx.1; omega)
      exact ⟨j, w1, w2, rfl⟩
    · rintro n t ⟨q', D', many'⟩ ht ⟨hmt, st, a1, a2, a3, a4⟩ ih
      simp only at hmt a1 a2 a3 a4
      have qq := hst (t := t) (c := dr) (h := 1) (by omega) (by omega)
      have skip : sf a t dr = false → L_mo_layTheft_44 mw mt mk mpc Q n q' D' g (nI p) (nI dr) (nI (per a)) (nI many') (nI (t + 1)) := by
        intro hf
        refine ih (q', D', many') ⟨by show many' ≤ t + 1; omega, st, fun i hi => ⟨(a1 i hi).1, (a1 i hi).2.1, by have := (a1 i hi).2.2.1; omega, (a1 i hi).2.2.2⟩, a2, a3, fun x hx hxl => ?_⟩
        rcases Nat.lt_or_ge x (128 * t) with z | z
        · exact a4 x hx z
        · have e : x / 128 = t := by omega
          have := hx.2.1
          rw [e, hx.2.2.1, hf] at this
          cases this
      unfold L_mo_layTheft_44
      simp only
      rw [nI_1 t]
      refine br_f (nI_ge ht (by omega)) (s_mstands hA hm hdr (brB (fun gs => skip ?_) (fun gs => ?_)))
      · unfold sf; rw [gs]; simp
      · rw [show (64 : Int32) = nI 64 from rfl, show (128 : Int32) = nI 128 from rfl, show (2 : Int32) = nI 2 from rfl, pk_mul, pk_mul, pk_mul, nI_add, nI_add, nI_1, cl (n := 64 * t + dr) (by omega), hg t dr ht hdr, cl (n := 128 * t + 2 * dr + 1) (by omega), cl (n := many') (by omega), nI_1 many']
        refine ⟨vI (by omega) (by omega), brB (fun gd => ⟨vI (by omega) (by omega), vI (by omega) (by omega), ?_⟩) (fun gd => skip ?_)⟩
        · have hsf : sf a t dr = true := sf_iff.mpr ⟨hdr, gs, gd⟩
          have hgl : hgoal a dr (128 * t + 2 * dr + 1) := by
            rw [show 128 * t + 2 * dr + 1 = 128 * t + (2 * dr + 1) by omega]
            exact ⟨by rw [qq.1]; exact ht, by rw [qq.1, qq.2.1]; exact hsf, qq.2.1, qq.2.2⟩
          refine ih (_, _, many' + 1) ⟨by show many' + 1 ≤ t + 1; omega, ap many' (128 * t + 2 * dr + 1) st, fun i hi => ?_, fun x hx hno => ?_, fun i j hij hj => ?_, fun x hx hxl => ?_⟩
          · have hi' : i < many' + 1 := hi
            rcases Nat.lt_or_ge i many' with z | z
            · obtain ⟨y1, y2, y3, y4⟩ := a1 i z
              rw [ap_n z]
              refine ⟨(u_n (by omega)).trans y1, y2, by omega, (u_n (by omega)).trans y4⟩
            · have : i = many' := by omega
              subst this
              rw [ap_s]
              exact ⟨u_s, hgl, by omega, u_s⟩
          · have hxs : x ≠ 128 * t + 2 * dr + 1 := fun e => hno many' (by show many' < many' + 1; omega) (by rw [ap_s]; exact e.symm)
            refine (u_n hxs).trans (a2 x hx (fun i hi e => hno i (by show i < many' + 1; omega) (by rw [ap_n hi]; exact e)))
          · have hj' : j < many' + 1 := hj
            rcases Nat.lt_or_ge j many' with z | z
            · rw [ap_n z, ap_n (by omega)]; exact a3 i j hij z
            · have : j = many' := by omega
              subst this
              rw [ap_s, ap_n hij]
              have := (a1 i hij).2.2.1
              omega
          · rcases Nat.lt_or_ge x (128 * t) with z | z
            · obtain ⟨j, w1, w2⟩ := a4 x hx z
              exact ⟨j, by show j < many' + 1; omega, by rw [ap_n w1]; exact w2⟩
            · refine ⟨many', by show many' < many' + 1; omega, ?_⟩
              rw [ap_s]
              have w1 := hx.2.2.1
              have w2 := hx.2.2.2
              omega
        · unfold sf; rw [gd]; simp
  · intro n i s hi hI ih
    unfold L_mo_layTheft_13
    rw [show (128 : Int32) = nI 128 from rfl, pk_mul, nI_1 i, cl (n := i) (by omega)]
    refine br_f (nI_ge hi (by omega)) ⟨vI (by omega) (by omega), ih _ (fun c hc => ?_)⟩
    by_cases e : c = i
    · subst e; rw [u_s]
    · rw [u_n e]; exact hI c (by omega)
