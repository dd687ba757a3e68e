/-! where and when a thief is unseen -/
noncomputable def sf (a : Abs) (t c : Nat) : Bool := decide (c < aN a) && (std a c && !wtd a c t)
theorem sf_iff {a : Abs} {t c : Nat} : sf a t c = true ↔ c < aN a ∧ std a c = true ∧ wtd a c t = false := by
  unfold sf
  simp [Bool.and_eq_true]
theorem fm_dec : ∀ i s l : Fin 6, i.val < l.val + 1 → ∃ f : Fin 6, f.val < l.val + 1 ∧ (f.val + s.val) % (l.val + 1) = i.val ∧ (if 0 ≤ ((nI i.val - nI s.val) ^^^ nI (l.val + 1)) then (nI i.val - nI s.val) - (nI i.val - nI s.val) / nI (l.val + 1) * nI (l.val + 1) = nI f.val else if (nI i.val - nI s.val) - (nI i.val - nI s.val) / nI (l.val + 1) * nI (l.val + 1) = 0 then (nI i.val - nI s.val) - (nI i.val - nI s.val) / nI (l.val + 1) * nI (l.val + 1) = nI f.val else (nI i.val - nI s.val) - (nI i.val - nI s.val) / nI (l.val + 1) * nI (l.val + 1) + nI (l.val + 1) = nI f.val) := by decide +kernel
theorem s_floorMod {i s l : Nat} {Q : Int32 → Prop} (hi : i < l) (hl : l ≤ 6) (hs : s ≤ 5) (h : ∀ f, f < l → (f + s) % l = i → Q (nI f)) : P_jd_floorMod (nI i - nI s) (nI l) Q := by
  obtain ⟨m, rfl⟩ : ∃ m, l = m + 1 := ⟨l - 1, by omega⟩
  obtain ⟨f, h1, h2, h3⟩ := fm_dec ⟨i, by omega⟩ ⟨s, by omega⟩ ⟨m, by omega⟩ hi
  have hQ := h f.val h1 h2
  simp only at h3
  unfold P_jd_floorMod
  refine ⟨nI_ne0 (by omega) (by omega), ?_⟩
  rintro _ rfl
  refine ⟨fun g => ?_, fun g => ⟨fun g2 => ?_, fun g2 => ?_⟩⟩
  · rw [if_pos g] at h3; rw [h3]; exact hQ
  · rw [if_neg g, if_pos g2] at h3; rw [h3]; exact hQ
  · rw [if_neg g, if_neg g2] at h3; rw [h3]; exact hQ
theorem mod_gap {x t s l i : Nat} (hl : 0 < l) (h1 : (x + s) % l = i) (h2 : (t + s) % l = i) (h3 : x < t) (h4 : t < x + l) : False := by
  have e : t + s = (x + s) + (t - x) := by omega
  rw [e, Nat.add_mod, h1, Nat.mod_eq_of_lt (show t - x < l by omega)] at h2
  have hi : i < l := by rw [← h1]; exact Nat.mod_lt _ hl
  rcases Nat.lt_or_ge (i + (t - x)) l with g | g
  · rw [Nat.mod_eq_of_lt g] at h2; omega
  · rw [Nat.mod_eq_sub_mod g, Nat.mod_eq_of_lt (by omega)] at h2; omega
def sUn (a : Abs) (w : Nat) (U : Nat → Int64) (R : Nat → Nat → Prop) : Prop := ∀ t q, t < per a → q < 64 → (bt (U t) q = true ↔ q < aN a ∧ std a q = true ∧ wtN a q t w = false ∧ R t q)
theorem s_thSurvey {a : Abs} {gw gh gz sl sr tcl : Int32} {gc gr gk rc rl rs : Nat → Int32} {tu : Nat → Int64} {fc lc f c2 st : Int64} {Q : (Nat → Int64) → Int32 → Prop} (hA : AOk a) (hs : IGs a gw gh gz gc gr fc lc) (hk : IGk a gk f c2 st) (hS : IS a sl sr) (hRo : IR a rc rl rs) (h : ∀ U, (∀ t q, t < per a → q < 64 → bt (U t) q = sf a t q) → Q U (nI (per a))) : P_th_survey gw gz gc gr f c2 st rc rl rs sl sr tu tcl Q := by
  obtain ⟨-, hn⟩ := aN_le hA
  have hP := per_le hA
  have hP1 := per_pos hA
  have h66 : ∀ k, k < 4 → aRl a k ≤ 6 := hA.2.2.2.2.2.2.2.1
  have h55 : ∀ k, k < 4 → aRs a k ≤ 5 := hA.2.2.2.2.2.2.2.2.2
  have hrc : ∀ k i, k < 4 → i < aRl a k → aRc a k i < aN a := hA.2.2.2.2.2.2.2.2.1
  unfold P_th_survey
  refine s_common hA hRo.1 ?_
  unfold P_gr_standing
  refine cnt0 (fun n w (U : Nat → Int64) => L_th_survey_27 gw gz gc gr f c2 st rc rl rs sl sr Q n U (nI (per a)) (nI w)) 4 (fun w U => sUn a w U (fun _ _ => True)) _ (fun t q ht hq => ?_) ?_ ?_
  · have e : filll 60 st tu t = st := by simp [filll, show t < 60 by omega]
    rw [e, hk.2.2.2 q hq]
    simp [wtN]
  · intro n U hI
    unfold L_th_survey_27
    refine br_t (nI_le (a := 4) (b := 4) (Nat.le_refl _) (by omega)) (h U (fun t q ht hq => ?_))
    rw [Bool.eq_iff_iff, hI t q ht hq, sf_iff]
    exact ⟨fun ⟨x1, x2, x3, _⟩ => ⟨x1, x2, x3⟩, fun ⟨x1, x2, x3⟩ => ⟨x1, x2, x3, trivial⟩⟩
  · intro n w U hw hI ih
    have l6 := h66 w hw
    have s5 := h55 w hw
    unfold L_th_survey_27 P_ro_lengthOf
    rw [cl (n := w) (by omega), hRo.1 w hw]
    refine br_f (nI_ge (b := 4) hw (by omega)) ⟨vI hw (by omega), ?_⟩
    refine cnt0 (fun n' i (U : Nat → Int64) => L_th_survey_43 gw gz gc gr f c2 st rc rl rs sl sr Q (L_th_survey_27 gw gz gc gr f c2 st rc rl rs sl sr Q n) n' U (nI (per a)) (nI w) (nI (aRl a w)) (nI i)) (aRl a w) (fun i U => sUn a w U (fun t q => ∀ i', i' < i → (t + aRs a w) % aRl a w = i' → sees a (aRc a w i') q = false)) U (fun t q ht hq => ?_) ?_ ?_
    · rw [hI t q ht hq]
      exact ⟨fun ⟨x1, x2, x3, _⟩ => ⟨x1, x2, x3, fun i' hi' => absurd hi' (Nat.not_lt_zero _)⟩, fun ⟨x1, x2, x3, _⟩ => ⟨x1, x2, x3, trivial⟩⟩
    · intro n' U' hI'
      unfold L_th_survey_43
      rw [nI_1 w]
      refine br_t (nI_le (Nat.le_refl _) (by omega)) (ih U' (fun t q ht hq => ?_))
      rw [hI' t q ht hq]
      have e : wtN a q t (w + 1) = (wtN a q t w || wt1 a w q t) := rfl
      rw [e, Bool.or_eq_false_iff]
      have e2 : wt1 a w q t = false ↔ ∀ i', i' < aRl a w → (t + aRs a w) % aRl a w = i' → sees a (aRc a w i') q = false := by
        unfold wt1 plc
        rcases Nat.eq_zero_or_pos (aRl a w) with z | z
        · rw [if_pos z]
          exact ⟨fun _ i' hi' => by omega, fun _ => rfl⟩
        · rw [if_neg (by omega)]
          constructor
          · intro g i' hi' e'
            subst e'
            exact g
          · intro g
            exact g _ (Nat.mod_lt _ z) rfl
      exact ⟨fun ⟨x1, x2, x3, x4⟩ => ⟨x1, x2, ⟨x3, e2.mpr x4⟩, trivial⟩, fun ⟨x1, x2, ⟨x3, x4⟩, _⟩ => ⟨x1, x2, x3, e2.mp x4⟩⟩
    · intro n' i U' hi hI' ih2
      unfold L_th_survey_43 P_ro_cellOf P_ro_shiftOf
      have hc := hrc w i hw hi
      rw [show (6 : Int32) = nI 6 from rfl, pk_mul, nI_add, Nat.mul_comm w 6, cl (n := 6 * w + i) (by omega), hRo.2.2 w i hw hi, cl (n := w) (by omega), hRo.2.1 w hw]
      refine br_f (nI_ge hi (by omega)) ⟨vI (by omega) (by omega), s_board hA hs hk hS hc (fun b hb => ⟨vI hw (by omega), s_floorMod hi l6 s5 (fun fst hf1 hf2 => ?_)⟩)⟩
      have inner : ∀ (m x : Nat) (V : Nat → Int64), per a - x < m → x < 1000 → (x + aRs a w) % aRl a w = i → sUn a w V (fun t q => (∀ i', i' < i → (t + aRs a w) % aRl a w = i' → sees a (aRc a w i') q = false) ∧ ((t + aRs a w) % aRl a w = i → t < x → sees a (aRc a w i) q = false)) → L_th_survey_86 gw gz gc gr f c2 st rc rl rs sl sr Q (L_th_survey_43 gw gz gc gr f c2 st rc rl rs sl sr Q (L_th_survey_27 gw gz gc gr f c2 st rc rl rs sl sr Q n) n') m V (nI (per a)) (nI w) (nI (aRl a w)) (nI i) b (nI x) := by
        intro m
        induction m with
        | zero => intro x V hx; omega
        | succ m ihm =>
          intro x V hx hx1 hxm hV
          unfold L_th_survey_86
          rcases Nat.lt_or_ge x (per a) with g | g
          · rw [cl (n := x) (by omega), nI_add]
            refine br_f (nI_ge g (by omega)) ⟨vI (by omega) (by omega), vI (by omega) (by omega), ?_⟩
            rintro _ rfl
            refine ihm (x + aRl a w) _ (by omega) (by omega) (by rw [show x + aRl a w + aRs a w = x + aRs a w + aRl a w by omega, Nat.add_mod_right]; exact hxm) (fun t q ht hq => ?_)
            have hsee : (bt (b ^^^ (-1)) q = true) ↔ ¬ (q < aN a ∧ sees a (aRc a w i) q = true) := by
              rw [bt_not b hq, hb q hq]
              by_cases g1 : q < aN a
              · cases g2 : sees a (aRc a w i) q <;> simp [g1]
              · simp [g1]
            by_cases et : t = x
            · subst et
              rw [pk_uLs, bt_and, Bool.and_eq_true, hV t q ht hq, hsee]
              constructor
              · rintro ⟨⟨x1, x2, x3, x4, x5⟩, x6⟩
                refine ⟨x1, x2, x3, x4, fun _ _ => ?_⟩
                cases hse : sees a (aRc a w i) q with
                | false => rfl
                | true => exact absurd ⟨x1, hse⟩ x6
              · rintro ⟨x1, x2, x3, x4, x5⟩
                refine ⟨⟨x1, x2, x3, x4, fun _ hlt => absurd hlt (Nat.lt_irrefl _)⟩, fun hc2 => ?_⟩
                rw [x5 hxm (by omega)] at hc2
                cases hc2.2
            · rw [pk_uLn et, hV t q ht hq]
              constructor
              · rintro ⟨x1, x2, x3, x4, x5⟩
                refine ⟨x1, x2, x3, x4, fun e1 e2 => ?_⟩
                rcases Nat.lt_or_ge t x with g2 | g2
                · exact x5 e1 g2
                · exact (mod_gap (by omega) hxm e1 (by omega) e2).elim
              · rintro ⟨x1, x2, x3, x4, x5⟩
                exact ⟨x1, x2, x3, x4, fun e1 e2 => x5 e1 (by omega)⟩
          · rw [nI_1 i]
            refine br_t (nI_le g (by omega)) (ih2 V (fun t q ht hq => ?_))
            rw [hV t q ht hq]
            constructor
            · rintro ⟨x1, x2, x3, x4, x5⟩
              refine ⟨x1, x2, x3, fun i' hi' e1 => ?_⟩
              rcases Nat.lt_or_ge i' i with g2 | g2
              · exact x4 i' g2 e1
              · have : i' = i := by omega
                subst this
                exact x5 e1 (by omega)
            · rintro ⟨x1, x2, x3, x4⟩
              exact ⟨x1, x2, x3, fun i' hi' => x4 i' (by omega), fun e1 _ => x4 i (by omega) e1⟩
      refine ⟨per a + 1, inner (per a + 1) fst U' (by omega) (by omega) hf2 (fun t q ht hq => ?_)⟩
      rw [hI' t q ht hq]
      constructor
      · rintro ⟨x1, x2, x3, x4⟩
        exact ⟨x1, x2, x3, x4, fun e1 e2 => (mod_gap (by omega) e1 hf2 e2 (by omega)).elim⟩
      · rintro ⟨x1, x2, x3, x4, -⟩
        exact ⟨x1, x2, x3, x4⟩
/-! time goes round -/
theorem plc_per {a : Abs} {k t : Nat} (hk : k < 4) : plc a k (t % per a) = plc a k t := by
  unfold plc
  rcases Nat.eq_zero_or_pos (aRl a k) with z | z
  · rw [if_pos z, if_pos z]
  · rw [if_neg (by omega), if_neg (by omega)]
    have hd : aRl a k ∣ per a := by
      have := (per_dvd (a := a) (n := per a)).mp (Nat.dvd_refl _) k hk
      unfold rl1 at this
      rw [if_neg (by omega)] at this
      exact this
    have e : (t % per a + aRs a k) % aRl a k = (t + aRs a k) % aRl a k := by
      rw [Nat.add_mod, Nat.mod_mod_of_dvd _ hd, ← Nat.add_mod]
    rw [e]
theorem wtd_per {a : Abs} {c t : Nat} : wtd a c (t % per a) = wtd a c t := by
  have : ∀ k, k ≤ 4 → wtN a c (t % per a) k = wtN a c t k := by
    intro k
    induction k with
    | zero => intro _; rfl
    | succ k ih =>
      intro hk
      unfold wtN wt1
      rw [ih (by omega), plc_per (by omega)]
  exact this 4 (by omega)
theorem stp4 {a : Abs} (hA : AOk a) {c : Nat} (hc : c < aN a) : stp a c 4 = if std a c = true then some c else none := by
  have h := xy_lt hA hc
  unfold stp
  have dx : dX 4 = 0 := rfl
  have dy : dY 4 = 0 := rfl
  rw [dx, dy, Int.add_zero, Int.add_zero, at_self hA c]
  by_cases e : std a c = true
  · rw [if_pos e, if_pos]
    refine ⟨?_, ?_, ?_, ?_, e⟩
    · have : (0 : Int) ≤ ((c % aW a : Nat) : Int) := Int.natCast_nonneg _
      omega
    · exact Int.ofNat_lt.mpr h.1
    · exact Int.natCast_nonneg _
    · exact Int.ofNat_lt.mpr h.2
  · rw [if_neg e, if_neg (fun q => e q.2.2.2.2)]
/-- a thief's states: time, cell, whether the picture has been come to -/
noncomputable def hmv (a : Abs) (tg S d : Nat) : Option Nat := if S / 128 < per a ∧ sf a (S / 128) (S % 128 / 2) = true ∧ d < 5 then (match stp a (S % 128 / 2) d with
  | none => none
  | some o => if sf a ((S / 128 + 1) % per a) o = true then some (128 * ((S / 128 + 1) % per a) + (2 * o + (if S % 2 = 1 ∨ o = tg then 1 else 0))) else none) else none
def hgoal (a : Abs) (dr S : Nat) : Prop := S / 128 < per a ∧ sf a (S / 128) (S % 128 / 2) = true ∧ S % 128 / 2 = dr ∧ S % 2 = 1
def hV (a : Abs) (S : Nat) : Prop := S / 128 < per a ∧ sf a (S / 128) (S % 128 / 2) = true
theorem hst {t c h : Nat} (hc : c < 64) (hh : h < 2) : (128 * t + (2 * c + h)) / 128 = t ∧ (128 * t + (2 * c + h)) % 128 / 2 = c ∧ (128 * t + (2 * c + h)) % 2 = h := by omega
theorem b01 (P : Prop) [Decidable P] : (if P then 1 else 0 : Nat) < 2 := by split <;> decide
theorem hmv_some {a : Abs} (hA : AOk a) {tg S d S2 : Nat} (h : hmv a tg S d = some S2) : hV a S ∧ d < 5 ∧ ∃ o, stp a (S % 128 / 2) d = some o ∧ o < aN a ∧ sf a ((S / 128 + 1) % per a) o = true ∧ S2 = 128 * ((S / 128 + 1) % per a) + (2 * o + (if S % 2 = 1 ∨ o = tg then 1 else 0)) ∧ hV a S2 ∧ S2 / 128 = (S / 128 + 1) % per a ∧ S2 % 128 / 2 = o ∧ S2 % 2 = (if S % 2 = 1 ∨ o = tg then 1 else 0) := by
  obtain ⟨-, hn⟩ := aN_le hA
  have hP := per_pos hA
  unfold hmv at h
  by_cases e : S / 128 < per a ∧ sf a (S / 128) (S % 128 / 2) = true ∧ d < 5
  · rw [if_pos e] at h
    cases hb : stp a (S % 128 / 2) d with
    | none => rw [hb] at h; cases h
    | some o =>
      rw [hb] at h
      have ho := (stp_some hb).1
      simp only at h
      by_cases e2 : sf a ((S / 128 + 1) % per a) o = true
      · rw [if_pos e2] at h
        cases h
        have q := hst (t := (S / 128 + 1) % per a) (c := o) (h := if S % 2 = 1 ∨ o = tg then 1 else 0) (by omega) (b01 _)
        exact ⟨⟨e.1, e.2.1⟩, e.2.2, o, rfl, ho, e2, rfl, ⟨by rw [q.1]; exact Nat.mod_lt _ hP, by rw [q.1, q.2.1]; exact e2⟩, q.1, q.2.1, q.2.2⟩
      · rw [if_neg e2] at h; cases h
  · rw [if_neg e] at h; cases h
noncomputable def hlay (a : Abs) (S : Nat) : Nat := S / 128 + S % 2 * per a
def hcel (S : Nat) : Nat := S % 128 / 2
theorem hEnc {a : Abs} (hA : AOk a) : Enc (hlay a) hcel (hV a) := by
  have hP := per_le hA
  refine ⟨fun s hs => ?_, fun s t h1 h2 h3 h4 => ?_⟩
  · have := hs.1
    unfold hlay hcel
    rcases Nat.mod_two_eq_zero_or_one s with e | e
    · rw [e]; omega
    · rw [e]; omega
  · have l1 := h1.1
    have l2 := h2.1
    unfold hlay at h3
    unfold hcel at h4
    rcases Nat.mod_two_eq_zero_or_one s with e | e <;> rcases Nat.mod_two_eq_zero_or_one t with e2 | e2 <;> rw [e, e2] at h3 <;> omega
