/-! the class's sightings, bit by bit -/
theorem allT_dec : ∀ P : Fin 61, ∀ t : Fin 64, bt (((1 : Int64) <<< (Int32.toInt64 (nI P.val) &&& 63)) - 1) t.val = decide (t.val < P.val) := by decide +kernel
def AllT (a : Abs) (x : Int64) : Prop := ∀ t, t < 64 → bt x t = decide (t < per a)
noncomputable def sgt (a : Abs) (p w t : Nat) : Bool := decide (t < per a) && (decide (0 < aRl a w) && sPic a p (aRc a w (t % aRl a w)))
def SG (a : Abs) (sg : Nat → Int64) : Prop := ∀ p w t, p < aNp a → w < 4 → t < 64 → bt (sg (4 * p + w)) t = sgt a p w t
theorem s_sightingsOf {a : Abs} {gw gh gz sl sr ps : Int32} {gc gr gk pc pf rc rl rs : Nat → Int32} {fc lc f c2 st : Int64} {p w : Nat} {Q : Int64 → Prop} (hA : AOk a) (hs : IGs a gw gh gz gc gr fc lc) (hk : IGk a gk f c2 st) (hS : IS a sl sr) (hP : IP a pc pf ps) (hRo : IR a rc rl rs) (hp : p < aNp a) (hw : w < 4) (h : ∀ x, (∀ t, t < 64 → bt x t = sgt a p w t) → Q x) : P_ga_sightingsOf (nI (per a)) gw gc gr f c2 st pc pf rc rl sl sr (nI p) (nI w) Q := by
  obtain ⟨-, hn⟩ := aN_le hA
  have hPe := per_le hA
  have l6 := hA.2.2.2.2.2.2.2.1 w hw
  have hrc := hA.2.2.2.2.2.2.2.2.1 w
  unfold P_ga_sightingsOf P_ro_lengthOf
  rw [cl (n := w) (by omega), hRo.1 w hw]
  refine ⟨vI hw (by omega), ?_⟩
  refine cnt0 (fun n i (x : Int64) => L_ga_sightingsOf_15 (nI (per a)) gw gc gr f c2 st pc pf rc sl sr Q n (nI p) (nI w) x (nI (aRl a w)) (nI i)) (aRl a w) (fun i x => ∀ t, t < 64 → (bt x t = true ↔ t < per a ∧ t % aRl a w < i ∧ sPic a p (aRc a w (t % aRl a w)) = true)) 0 (fun t ht => ?_) ?_ ?_
  · rw [bt_0]; exact ⟨fun q => Bool.noConfusion q, fun ⟨_, q, _⟩ => absurd q (Nat.not_lt_zero _)⟩
  · intro n x hI
    unfold L_ga_sightingsOf_15
    refine br_t (nI_le (Nat.le_refl _) (by omega)) (h x (fun t ht => ?_))
    rw [Bool.eq_iff_iff, hI t ht]
    unfold sgt
    rw [Bool.and_eq_true, Bool.and_eq_true, decide_eq_true_eq, decide_eq_true_eq]
    exact ⟨fun ⟨x1, x2, x3⟩ => ⟨x1, by omega, x3⟩, fun ⟨x1, x2, x3⟩ => ⟨x1, Nat.mod_lt _ x2, x3⟩⟩
  · intro n i x hi hI ih
    have hc := hrc i hw hi
    unfold L_ga_sightingsOf_15 P_ro_cellOf
    rw [show (6 : Int32) = nI 6 from rfl, pk_mul, nI_add, Nat.mul_comm w 6, cl (n := 6 * w + i) (by omega), hRo.2.2 w i hw hi, nI_1 i]
    refine br_f (nI_ge hi (by omega)) ⟨vI (by omega) (by omega), s_isSeenFrom hA hs hk hS hP hp hc (brB (fun g => ih _ (fun t ht => ?_)) (fun g => ?_))⟩
    · rw [hI t ht]
      constructor
      · rintro ⟨x1, x2, x3⟩; exact ⟨x1, by omega, x3⟩
      · rintro ⟨x1, x2, x3⟩
        refine ⟨x1, ?_, x3⟩
        rcases Nat.lt_or_ge (t % aRl a w) i with q | q
        · exact q
        · have : t % aRl a w = i := by omega
          rw [this, g] at x3
          cases x3
    · have inner : ∀ (m z : Nat) (y : Int64), per a - z < m → z < 1000 → z % aRl a w = i → (∀ t, t < 64 → (bt y t = true ↔ t < per a ∧ (t % aRl a w < i ∨ t % aRl a w = i ∧ t < z) ∧ sPic a p (aRc a w (t % aRl a w)) = true)) → L_ga_sightingsOf_47 (nI (per a)) gw gc gr f c2 st pc pf rc sl sr Q (L_ga_sightingsOf_15 (nI (per a)) gw gc gr f c2 st pc pf rc sl sr Q n) m (nI p) (nI w) y (nI (aRl a w)) (nI i) (nI z) := by
        intro m
        induction m with
        | zero => intro z y hx; omega
        | succ m ihm =>
          intro z y hx hz1 hzm hy
          unfold L_ga_sightingsOf_47
          rcases Nat.lt_or_ge z (per a) with q | q
          · refine br_f (nI_ge q (by omega)) ?_
            rintro _ rfl
            rintro _ rfl
            rw [nI_add]
            refine ihm (z + aRl a w) _ (by omega) (by omega) (by rw [Nat.add_mod_right]; exact hzm) (fun t ht => ?_)
            rw [bt_or, Bool.or_eq_true, hy t ht, bt_one (by omega) ht, decide_eq_true_eq]
            constructor
            · rintro (⟨x1, x2, x3⟩ | e)
              · exact ⟨x1, by omega, x3⟩
              · subst e
                exact ⟨q, Or.inr ⟨hzm, by omega⟩, by rw [hzm]; exact g⟩
            · rintro ⟨x1, x2, x3⟩
              rcases x2 with x2 | ⟨x2, x4⟩
              · exact Or.inl ⟨x1, Or.inl x2, x3⟩
              · rcases Nat.lt_trichotomy t z with e | e | e
                · exact Or.inl ⟨x1, Or.inr ⟨x2, e⟩, x3⟩
                · exact Or.inr e
                · exact (mod_gap (s := 0) (i := i) (by omega) (by rw [Nat.add_zero]; exact hzm) (by rw [Nat.add_zero]; exact x2) e x4).elim
          · rw [nI_1 i]
            refine br_t (nI_le q (by omega)) (ih y (fun t ht => ?_))
            rw [hy t ht]
            constructor
            · rintro ⟨x1, x2, x3⟩; exact ⟨x1, by omega, x3⟩
            · rintro ⟨x1, x2, x3⟩; exact ⟨x1, by omega, x3⟩
      refine ⟨per a + 1, inner (per a + 1) i x (by omega) (by omega) (Nat.mod_eq_of_lt hi) (fun t ht => ?_)⟩
      rw [hI t ht]
      constructor
      · rintro ⟨x1, x2, x3⟩; exact ⟨x1, Or.inl x2, x3⟩
      · rintro ⟨x1, x2, x3⟩
        rcases x2 with x2 | ⟨x2, x4⟩
        · exact ⟨x1, x2, x3⟩
        · rw [Nat.mod_eq_of_lt (show t < aRl a w by omega)] at x2; omega
theorem s_gaSurvey {a : Abs} {gw gh gz sl sr ps : Int32} {gc gr gk pc pf rc rl rs : Nat → Int32} {fc lc f c2 st : Int64} {sg0 : Nat → Int64} {cl0 : Int32} {at0 : Int64} {Q : (Nat → Int64) → Int32 → Int64 → Prop} (hA : AOk a) (hs : IGs a gw gh gz gc gr fc lc) (hk : IGk a gk f c2 st) (hS : IS a sl sr) (hP : IP a pc pf ps) (hRo : IR a rc rl rs) (h : ∀ sg al, SG a sg → AllT a al → Q sg (nI (per a)) al) : P_ga_survey sg0 cl0 at0 gw gc gr f c2 st pc pf ps rc rl sl sr Q := by
  have hPe := per_le hA
  have hnp : aNp a ≤ 8 := hA.2.2.2.2.2.1
  unfold P_ga_survey
  refine s_common hA hRo.1 ?_
  intro al hal
  have hAl : AllT a al := fun t ht => by rw [hal]; exact allT_dec ⟨per a, by omega⟩ ⟨t, ht⟩
  have hps := hP.1
  refine cnt0 (fun n p (sg : Nat → Int64) => L_ga_survey_25 gw gc gr f c2 st pc pf ps rc rl sl sr Q n sg (nI (per a)) al (nI p)) (aNp a) (fun p' sg => ∀ p w t, p < p' → w < 4 → t < 64 → bt (sg (4 * p + w)) t = sgt a p w t) sg0 (fun p w t hp => absurd hp (Nat.not_lt_zero _)) ?_ ?_
  · intro n sg hI
    unfold L_ga_survey_25 P_pi_size
    rw [hps]
    exact br_t (nI_le (Nat.le_refl _) (by omega)) (h sg al hI hAl)
  · intro n p sg hp hI ih
    unfold L_ga_survey_25 P_pi_size
    refine br_f (by rw [hps]; exact nI_ge hp (by omega)) ?_
    refine cnt0 (fun n' w (sg : Nat → Int64) => L_ga_survey_38 gw gc gr f c2 st pc pf ps rc rl sl sr Q (L_ga_survey_25 gw gc gr f c2 st pc pf ps rc rl sl sr Q n) n' sg (nI (per a)) al (nI p) (nI w)) 4 (fun w' sg => (∀ p2 w t, p2 < p → w < 4 → t < 64 → bt (sg (4 * p2 + w)) t = sgt a p2 w t) ∧ ∀ w t, w < w' → t < 64 → bt (sg (4 * p + w)) t = sgt a p w t) sg ⟨hI, fun w t hw => absurd hw (Nat.not_lt_zero _)⟩ ?_ ?_
    · rintro n' sg' ⟨i1, i2⟩
      unfold L_ga_survey_38
      rw [nI_1 p]
      refine br_t (nI_le (a := 4) (b := 4) (Nat.le_refl _) (by omega)) (ih sg' (fun p2 w t hp2 hw ht => ?_))
      rcases Nat.lt_or_ge p2 p with q | q
      · exact i1 p2 w t q hw ht
      · have : p2 = p := by omega
        subst this
        exact i2 w t hw ht
    · rintro n' w sg' hw ⟨i1, i2⟩ ih2
      unfold L_ga_survey_38
      rw [nI_1 w]
      refine br_f (nI_ge (b := 4) hw (by omega)) (s_sightingsOf hA hs hk hS hP hRo hp hw (fun x hx => ?_))
      rw [show (4 : Int32) = nI 4 from rfl, pk_mul, nI_add, Nat.mul_comm p 4, cl (n := 4 * p + w) (by omega)]
      refine ⟨vI (by omega) (by omega), ih2 _ ⟨fun p2 w2 t hp2 hw2 ht => ?_, fun w2 t hw2 ht => ?_⟩⟩
      · rw [pk_uLn (by omega)]; exact i1 p2 w2 t hp2 hw2 ht
      · by_cases e : w2 = w
        · subst e; rw [pk_uLs]; exact hx t ht
        · rw [pk_uLn (by omega)]; exact i2 w2 t (by omega) ht
theorem s_sooner {a : Abs} {x al : Int64} {n : Nat} {Q : Int64 → Prop} (hA : AOk a) (hal : AllT a al) (hx : ∀ t, t < 64 → per a ≤ t → bt x t = false) (hn : n ≤ per a) (h : ∀ y, (∀ t, t < 64 → bt y t = (decide (t < per a) && bt x ((t + n) % per a))) → Q y) : P_ga_sooner (nI (per a)) al x (nI n) Q := by
  have hP := per_le hA
  have hP1 := per_pos hA
  unfold P_ga_sooner
  rw [pk_sub hn]
  refine h _ (fun t ht => ?_)
  rw [bt_and, bt_or, bt_ushr x (by omega), bt_shl x (by omega) ht, hal t ht]
  rcases Nat.lt_or_ge t (per a) with q | q
  · rw [decide_eq_true q, Bool.and_true, Bool.true_and]
    rcases Nat.lt_or_ge (t + n) (per a) with g | g
    · rw [Nat.mod_eq_of_lt g, decide_eq_false (by omega), Bool.false_and, Bool.or_false, Nat.add_comm n t]
    · have e1 : bt x (n + t) = false := by
        rcases Nat.lt_or_ge (n + t) 64 with z | z
        · exact hx _ z (by omega)
        · exact bt_big x z
      rcases Nat.lt_or_ge (t + n - per a) (per a) with z | z
      · rw [e1, Bool.false_or, decide_eq_true (by omega), Bool.true_and, Nat.mod_eq_sub_mod g, Nat.mod_eq_of_lt z, show t - (per a - n) = t + n - per a by omega]
      · omega
  · rw [decide_eq_false (show ¬ t < per a by omega), Bool.and_false, Bool.false_and]
theorem bt_z {x : Int64} : x = 0 ↔ ∀ t, t < 64 → bt x t = false := by
  constructor
  · intro h t _; rw [h]; exact bt_0 t
  · intro h
    apply bt_ext
    intro t ht
    rw [h t ht, bt_0]
theorem s_longestRun {a : Abs} {x al : Int64} {p M : Nat} {Q : Int32 → Prop} (hA : AOk a) (hal : AllT a al) (hG : GapIs a p M) (hx : ∀ t, t < 64 → bt x t = (decide (t < per a) && !ins a p t)) (h : Q (nI M)) : P_ga_longestRun (nI (per a)) al x Q := by
  have hP := per_le hA
  have hP1 := per_pos hA
  have loop : ∀ (n k : Nat) (y : Int64), per a - k < n → Run a p k → (∀ t, t < 64 → (bt y t = true ↔ t < per a ∧ ∀ i, i ≤ k → ins a p (t + i) = false)) → L_ga_longestRun_5 (nI (per a)) al Q n y (nI k) := by
    intro n
    induction n with
    | zero => intro k y hx; omega
    | succ n ih =>
      intro k y hn hr hy
      have hk := Run_lt hA hG.1 hr
      unfold L_ga_longestRun_5
      rw [lg_eq, nI_1 k]
      refine ⟨fun e => ?_, fun e => br_f (nI_ge hk (by omega)) ?_⟩
      · have hno : ¬ Run a p (k + 1) := by
          intro hr2
          obtain ⟨s, s1, s2⟩ := Run_start hA hr2
          have := (hy s (by omega)).mpr ⟨s1, fun i hi => s2 i (by omega)⟩
          rw [bt_z.mp e s (by omega)] at this
          cases this
        rw [GapIs_one hG ⟨hG.1, hr, hno⟩] at h
        exact h
      · have hr2 : Run a p (k + 1) := by
          apply Classical.byContradiction
          intro hno
          apply e
          apply bt_z.mpr
          intro t ht
          cases hb : bt y t with
          | false => rfl
          | true =>
            have := (hy t ht).mp hb
            exact absurd ⟨t, fun i hi => this.2 i (by omega)⟩ hno
        refine s_sooner (n := 1) hA hal (fun t ht hge => ?_) hP1 (fun z hz => ?_)
        · cases hb : bt y t with
          | false => rfl
          | true => have := ((hy t ht).mp hb).1; omega
        · rintro _ rfl
          refine ih (k + 1) _ (by omega) hr2 (fun t ht => ?_)
          have hlt : (t + 1) % per a < per a := Nat.mod_lt _ hP1
          rw [bt_and, Bool.and_eq_true, hz t ht, Bool.and_eq_true, decide_eq_true_eq, hy t ht, hy _ (by omega)]
          constructor
          · rintro ⟨⟨x1, x2⟩, x3, x4, x5⟩
            refine ⟨x1, fun i hi => ?_⟩
            rcases Nat.eq_zero_or_pos i with z | z
            · subst z; exact x2 0 (Nat.zero_le _)
            · have := x5 (i - 1) (by omega)
              rw [← this]
              exact ins_eq (by rw [Nat.mod_add_mod, show t + 1 + (i - 1) = t + i by omega])
          · rintro ⟨x1, x2⟩
            refine ⟨⟨x1, fun i hi => x2 i (by omega)⟩, x1, hlt, fun i hi => ?_⟩
            rw [← x2 (i + 1) (by omega)]
            exact ins_eq (by rw [Nat.mod_add_mod, show t + 1 + i = t + (i + 1) by omega])
  unfold P_ga_longestRun
  refine ⟨per a + 1, loop (per a + 1) 0 x (by omega) Run_0 (fun t ht => ?_)⟩
  rw [hx t ht, Bool.and_eq_true, decide_eq_true_eq, Bool.not_eq_true']
  constructor
  · rintro ⟨x1, x2⟩
    exact ⟨x1, fun i hi => by have : i = 0 := by omega
                              subst this; exact x2⟩
  · rintro ⟨x1, x2⟩
    exact ⟨x1, x2 0 (Nat.le_refl _)⟩
theorem s_lenOf {f : Nat → Int32} {k : Nat} {x : Int32} {Q : Int32 → Prop} (hk : k < 4) (hx : f k = x) (h : Q x) : P_ro_lengthOf f (nI k) Q := by
  unfold P_ro_lengthOf
  rw [cl (by omega), hx]
  exact ⟨vI hk (by omega), h⟩
theorem s_shOf {f : Nat → Int32} {k : Nat} {x : Int32} {Q : Int32 → Prop} (hk : k < 4) (hx : f k = x) (h : Q x) : P_ro_shiftOf f (nI k) Q := s_lenOf hk hx h
theorem s_gapOf {a : Abs} {sg : Nat → Int64} {al : Int64} {rc rl rs : Nat → Int32} {p : Nat} {Q : Int32 → Prop} (hA : AOk a) (hsg : SG a sg) (hal : AllT a al) (hRo : IR a rc rl rs) (hp : p < aNp a) (h : Q (oI (-9) (gO a p))) : P_ga_gapOf sg (nI (per a)) al rl rs (nI p) Q := by
  have hP := per_le hA
  have hP1 := per_pos hA
  have hnp : aNp a ≤ 8 := hA.2.2.2.2.2.1
  unfold P_ga_gapOf
  refine cnt0 (fun n w (x : Int64) => L_ga_gapOf_8 sg (nI (per a)) al rl rs Q n (nI p) x (nI w)) 4 (fun w x => ∀ t, t < 64 → bt x t = (decide (t < per a) && !isN a p t w)) al (fun t ht => by rw [hal t ht]; simp [isN]) ?_ ?_
  · intro n x hx
    unfold L_ga_gapOf_8 B_ga_gapOf_74
    rw [lg_eq]
    refine br_t (nI_le (a := 4) (b := 4) (Nat.le_refl _) (by omega)) ⟨fun e => ?_, fun e => ?_⟩
    · have hno : ∀ t, ins a p t = false := fun t => by
        have hlt : t % per a < per a := Nat.mod_lt _ hP1
        have := hx (t % per a) (by omega)
        rw [e, hal _ (by omega), decide_eq_true hlt, Bool.true_and] at this
        rw [← ins_per]
        unfold ins
        cases hb : isN a p (t % per a) 4 with
        | false => rfl
        | true => rw [hb] at this; cases this
      rw [gO_none hno] at h
      exact h
    · have hyes : ∃ t, ins a p t = true := by
        apply Classical.byContradiction
        intro hno
        apply e
        apply bt_ext
        intro t ht
        rw [hx t ht, hal t ht]
        have : isN a p t 4 = false := by
          cases hb : isN a p t 4 with
          | false => rfl
          | true => exact absurd ⟨t, hb⟩ hno
        rw [this]
        simp
      obtain ⟨M, hM⟩ := GapIs_ex hA hyes
      rw [gO_some hM] at h
      exact s_longestRun hA hal hM hx h
  · intro n w x hw hx ih
    have l6 := hA.2.2.2.2.2.2.2.1 w hw
    have s5 := hA.2.2.2.2.2.2.2.2.2 w hw
    have es : ∀ t, isN a p t (w + 1) = (isN a p t w || is1 a w p t) := fun _ => rfl
    unfold L_ga_gapOf_8
    rw [nI_1 w]
    refine br_f (nI_ge (b := 4) hw (by omega)) (s_lenOf hw (hRo.1 w hw) ?_)
    rw [show (nI (aRl a w) ≤ 0 ↔ aRl a w ≤ 0) from nI_leI (b := 0) (by omega) (by omega)]
    refine ⟨fun e => ih _ (fun t ht => ?_), fun e => s_shOf hw (hRo.2.1 w hw) ⟨nI_ne0 (by omega) (by omega), ?_⟩⟩
    · rw [hx t ht, es]
      have : is1 a w p t = false := by unfold is1 plc; rw [if_pos (by omega)]
      rw [this, Bool.or_false]
    · rintro _ rfl
      have hd : aRl a w ∣ per a := by
        have := (per_dvd (a := a) (n := per a)).mp (Nat.dvd_refl _) w hw
        unfold rl1 at this
        rw [if_neg (by omega)] at this
        exact this
      have hle : aRl a w ≤ per a := Nat.le_of_dvd (by omega) hd
      have hml : aRs a w % aRl a w < aRl a w := Nat.mod_lt _ (by omega)
      rw [pk_rem (by omega) (by omega) (by omega), show (4 : Int32) = nI 4 from rfl, pk_mul, nI_add, Nat.mul_comm p 4, cl (n := 4 * p + w) (by omega)]
      refine ⟨vI (by omega) (by omega), s_sooner hA hal (fun t ht hge => ?_) (by omega) (fun y hy => ?_)⟩
      · rw [hsg p w t hp hw ht]
        unfold sgt
        rw [decide_eq_false (by omega), Bool.false_and]
      · rintro _ rfl
        refine ih _ (fun t ht => ?_)
        rw [bt_and, hx t ht, bt_not y ht, hy t ht, es]
        have hlt : (t + aRs a w % aRl a w) % per a < per a := Nat.mod_lt _ hP1
        have e1 : bt (sg (4 * p + w)) ((t + aRs a w % aRl a w) % per a) = is1 a w p t := by
          rw [hsg p w _ hp hw (by omega)]
          unfold sgt is1 plc
          rw [if_neg (by omega), decide_eq_true hlt, decide_eq_true (by omega), Bool.true_and, Bool.true_and, Nat.mod_mod_of_dvd _ hd]
          simp only
          rw [Nat.add_mod_mod]
        rw [e1]
        cases decide (t < per a) <;> cases isN a p t w <;> cases is1 a w p t <;> rfl
/-! the worst of all -/
noncomputable def wN (a : Abs) : Nat → Option Nat
  | 0 => some 0
  | k + 1 => match wN a k with
    | none => none
    | some m => match gO a k with
      | none => none
      | some g => some (max m g)
noncomputable def wO (a : Abs) : Option Nat := wN a (aNp a)
theorem wN_s (a : Abs) (k : Nat) : wN a (k + 1) = (match wN a k with | none => none | some m => match gO a k with | none => none | some g => some (max m g)) := rfl
theorem wN_up {a : Abs} {k : Nat} (h : wN a k = none) : ∀ {j : Nat}, k ≤ j → wN a j = none := by
  intro j
  induction j with
  | zero => intro hj; have : k = 0 := by omega
            subst this; exact h
  | succ j ih =>
    intro hj
    rcases Nat.eq_or_lt_of_le hj with e | e
    · subst e; exact h
    · rw [wN_s, ih (by omega)]
theorem wN_lt {a : Abs} (hA : AOk a) : ∀ {k m : Nat}, wN a k = some m → m < 60
  | 0, m, h => by cases h; decide
  | k + 1, m, h => by
    rw [wN_s] at h
    cases hk : wN a k with
    | none => rw [hk] at h; cases h
    | some m2 =>
      rw [hk] at h
      cases hg : gO a k with
      | none => rw [hg] at h; cases h
      | some g =>
        rw [hg] at h
        cases h
        have h1 := wN_lt hA hk
        have h2 := gO_lt hA hg
        omega
theorem s_worst {a : Abs} {sg : Nat → Int64} {al : Int64} {ps : Int32} {rc rl rs : Nat → Int32} {Q : Int32 → Prop} (hA : AOk a) (hsg : SG a sg) (hal : AllT a al) (hps : ps = nI (aNp a)) (hRo : IR a rc rl rs) (h : Q (oI (-9) (wO a))) : P_ga_worstOfAll sg (nI (per a)) al ps rl rs Q := by
  have hnp : aNp a ≤ 8 := hA.2.2.2.2.2.1
  unfold P_ga_worstOfAll
  refine cnt0 (fun n p (m : Nat) => L_ga_worstOfAll_4 sg (nI (per a)) al ps rl rs Q n (nI m) (nI p)) (aNp a) (fun p m => wN a p = some m) 0 rfl ?_ ?_
  · intro n m hm
    unfold L_ga_worstOfAll_4 P_pi_size
    unfold wO at h
    rw [hm] at h
    rw [hps]
    exact br_t (nI_le (Nat.le_refl _) (by omega)) h
  · intro n p m hp hm ih
    have b1 := wN_lt hA hm
    unfold L_ga_worstOfAll_4 P_pi_size
    rw [nI_1 p]
    refine br_f (by rw [hps]; exact nI_ge hp (by omega)) (s_gapOf hA hsg hal hRo hp ?_)
    cases hg : gO a p with
    | none =>
      have : wN a (p + 1) = none := by rw [wN_s, hm, hg]
      unfold wO at h
      rw [wN_up this hp] at h
      exact br_t rfl h
    | some g =>
      have b2 := gO_lt hA hg
      refine br_f (nI_ne9 (by omega)) ?_
      rintro _ rfl
      rw [show oI (-9) (some g) = nI g from rfl, max_i (by omega) (by omega)]
      exact ih (max m g) (by rw [wN_s, hm, hg])
theorem s_mworst {a : Abs} {mw ml mr mp : Int32} {mk mpc mf rm ro sh : Nat → Int32} {Q : Int32 → Prop} (hA : AOk a) (hm : ∀ c, c < aN a → mk c = nI (aKd a c)) (h1 : mw = nI (aW a)) (h4 : ml = nI (aLw a)) (h5 : mr = nI (aRg a)) (h6 : mp = nI (aNp a)) (m7 : ∀ p, p < aNp a → mpc p = nI (aPc a p)) (m8 : ∀ p, p < aNp a → mf p = nI (aPf a p)) (m9 : ∀ k, k < 4 → rm k = nI (aRl a k)) (m10 : ∀ k i, k < 4 → i < aRl a k → ro (6 * k + i) = nI (aRc a k i)) (m11 : ∀ k, k < 4 → sh k = nI (aRs a k)) (h : Q (oI (nI 1000000) (wO a))) : P_mo_worstNow mw mk ml mr mp mpc mf rm ro sh Q := by
  have hnp : aNp a ≤ 8 := hA.2.2.2.2.2.1
  unfold P_mo_worstNow
  refine cnt0 (fun n p (m : Nat) => L_mo_worstNow_4 mw mk ml mr mp mpc mf rm ro sh Q n (nI m) (nI p)) (aNp a) (fun p m => wN a p = some m) 0 rfl ?_ ?_
  · intro n m hm
    unfold L_mo_worstNow_4
    unfold wO at h
    rw [hm] at h
    rw [h6]
    exact br_t (nI_le (Nat.le_refl _) (by omega)) h
  · intro n p m hp hm2 ih
    have b1 := wN_lt hA hm2
    unfold L_mo_worstNow_4
    refine br_f (by rw [h6]; exact nI_ge hp (by omega)) (s_mgapOf hA hm h1 h4 h5 m7 m8 m9 m10 m11 hp ?_)
    cases hg : gO a p with
    | none =>
      have : wN a (p + 1) = none := by rw [wN_s, hm2, hg]
      unfold wO at h
      rw [wN_up this hp] at h
      refine br_t rfl ?_
      unfold B_mo_worstNow_39
      exact br_t rfl h
    | some g =>
      have b2 := gO_lt hA hg
      refine br_f (nI_ne9 (by omega)) ?_
      rw [show oI (-9) (some g) = nI g from rfl, nI_leI (by omega) (by omega)]
      have e : wN a (p + 1) = some (max m g) := by rw [wN_s, hm2, hg]
      unfold B_mo_worstNow_39
      rw [nI_1 p]
      refine ⟨fun q => br_f (fun z => ?_) (ih m (by rw [e, Nat.max_eq_left q])), fun q => br_f (fun z => ?_) (ih g (by rw [e, Nat.max_eq_right (by omega)]))⟩
      · have := (nI_eq (a := m) (b := 1000000) (by omega) (by omega)).mp z; omega
      · have := (nI_eq (a := g) (b := 1000000) (by omega) (by omega)).mp z; omega
theorem op_gap {ga_sightings : Nat → Int64} {ga_commonLength : Int32} {ga_allTimes : Int64} {gr_width : Int32} {gr_height : Int32} {gr_size : Int32} {gr_kinds : Nat → Int32} {gr_columns : Nat → Int32} {gr_rows : Nat → Int32} {gr_floorCells : Int64} {gr_clearCells : Int64} {gr_standCells : Int64} {gr_firstColumn : Int64} {gr_lastColumn : Int64} {pi_cells : Nat → Int32} {pi_facings : Nat → Int32} {pi_size : Int32} {ro_cells : Nat → Int32} {ro_lengths : Nat → Int32} {ro_shifts : Nat → Int32} {si_sightLaw : Int32} {si_sightRange : Int32} {mo_wide : Int32} {mo_tall : Int32} {mo_kind : Nat → Int32} {mo_law : Int32} {mo_range : Int32} {mo_pictures : Int32} {mo_pictureCell : Nat → Int32} {mo_facing : Nat → Int32} {mo_roundMany : Nat → Int32} {mo_round : Nat → Int32} {mo_shift : Nat → Int32} (hR : Rel gr_width gr_height gr_size gr_columns gr_rows gr_firstColumn gr_lastColumn gr_kinds gr_floorCells gr_clearCells gr_standCells pi_cells pi_facings pi_size ro_cells ro_lengths ro_shifts si_sightLaw si_sightRange mo_wide mo_tall mo_kind mo_law mo_range mo_pictures mo_pictureCell mo_facing mo_roundMany mo_round mo_shift) (a1 : Int32) : P_wh_gap ga_sightings ga_commonLength ga_allTimes gr_width gr_columns gr_rows gr_floorCells gr_clearCells gr_standCells pi_cells pi_facings pi_size ro_cells ro_lengths ro_shifts si_sightLaw si_sightRange a1 (fun r1 ga_sightings' ga_commonLength' ga_allTimes' => P_mo_gap mo_wide mo_kind mo_law mo_range mo_pictures mo_pictureCell mo_facing mo_roundMany mo_round mo_shift a1 (fun r2 => r1 = r2 ∧ Rel gr_width gr_height gr_size gr_columns gr_rows gr_firstColumn gr_lastColumn gr_kinds gr_floorCells gr_clearCells gr_standCells pi_cells pi_facings pi_size ro_cells ro_lengths ro_shifts si_sightLaw si_sightRange mo_wide mo_tall mo_kind mo_law mo_range mo_pictures mo_pictureCell mo_facing mo_roundMany mo_round mo_shift)) := by
  obtain ⟨a, hA, hGs, hGk, hPi, hRo, hSi, hM⟩ := id hR
  obtain ⟨m1, m2, m3, m4, m5, m6, m7, m8, m9, m10, m11⟩ := id hM
  obtain ⟨hn4, hn⟩ := aN_le hA
  have hnw : aW a * aH a < 1073741824 := by unfold aN at hn; omega
  have hnp : aNp a ≤ 8 := hA.2.2.2.2.2.1
  unfold P_wh_gap
  refine s_pi hPi.1 (by omega) (brB (fun hf => ?_) (fun ht => ?_))
  · unfold P_mo_gap
    exact s_mp m6 (by omega) (brF hf ⟨rfl, hR⟩)
  · obtain ⟨p, hp, rfl⟩ := isC_of (by omega) ht
    refine s_gaSurvey hA hGs hGk hSi hPi hRo (fun sg al hsg hal => s_gapOf hA hsg hal hRo hp ?_)
    unfold P_mo_gap
    exact s_mp m6 (by omega) (brT ht (s_mgapOf hA m3 m1 m4 m5 m7 m8 m9 m10 m11 hp ⟨rfl, hR⟩))
theorem op_worst {ga_sightings : Nat → Int64} {ga_commonLength : Int32} {ga_allTimes : Int64} {gr_width : Int32} {gr_height : Int32} {gr_size : Int32} {gr_kinds : Nat → Int32} {gr_columns : Nat → Int32} {gr_rows : Nat → Int32} {gr_floorCells : Int64} {gr_clearCells : Int64} {gr_standCells : Int64} {gr_firstColumn : Int64} {gr_lastColumn : Int64} {pi_cells : Nat → Int32} {pi_facings : Nat → Int32} {pi_size : Int32} {ro_cells : Nat → Int32} {ro_lengths : Nat → Int32} {ro_shifts : Nat → Int32} {si_sightLaw : Int32} {si_sightRange : Int32} {mo_wide : Int32} {mo_tall : Int32} {mo_kind : Nat → Int32} {mo_law : Int32} {mo_range : Int32} {mo_pictures : Int32} {mo_pictureCell : Nat → Int32} {mo_facing : Nat → Int32} {mo_roundMany : Nat → Int32} {mo_round : Nat → Int32} {mo_shift : Nat → Int32} (hR : Rel gr_width gr_height gr_size gr_columns gr_rows gr_firstColumn gr_lastColumn gr_kinds gr_floorCells gr_clearCells gr_standCells pi_cells pi_facings pi_size ro_cells ro_lengths ro_shifts si_sightLaw si_sightRange mo_wide mo_tall mo_kind mo_law mo_range mo_pictures mo_pictureCell mo_facing mo_roundMany mo_round mo_shift)  : P_wh_worst ga_sightings ga_commonLength ga_allTimes gr_width gr_columns gr_rows gr_floorCells gr_clearCells gr_standCells pi_cells pi_facings pi_size ro_cells ro_lengths ro_shifts si_sightLaw si_sightRange (fun r1 ga_sightings' ga_commonLength' ga_allTimes' => P_mo_worst mo_wide mo_kind mo_law mo_range mo_pictures mo_pictureCell mo_facing mo_roundMany mo_round mo_shift (fun r2 => r1 = r2 ∧ Rel gr_width gr_height gr_size gr_columns gr_rows gr_firstColumn gr_lastColumn gr_kinds gr_floorCells gr_clearCells gr_standCells pi_cells pi_facings pi_size ro_cells ro_lengths ro_shifts si_sightLaw si_sightRange mo_wide mo_tall mo_kind mo_law mo_range mo_pictures mo_pictureCell mo_facing mo_roundMany mo_round mo_shift)) := by
  obtain ⟨a, hA, hGs, hGk, hPi, hRo, hSi, hM⟩ := id hR
  obtain ⟨m1, m2, m3, m4, m5, m6, m7, m8, m9, m10, m11⟩ := id hM
  obtain ⟨hn4, hn⟩ := aN_le hA
  have hnw : aW a * aH a < 1073741824 := by unfold aN at hn; omega
  have hnp : aNp a ≤ 8 := hA.2.2.2.2.2.1
  unfold P_wh_worst
  refine s_gaSurvey hA hGs hGk hSi hPi hRo (fun sg al hsg hal => s_worst hA hsg hal hPi.1 hRo ?_)
  unfold P_mo_worst
  refine s_mworst hA m3 m1 m4 m5 m6 m7 m8 m9 m10 m11 ?_
  cases hw : wO a with
  | none => exact br_t rfl ⟨rfl, hR⟩
  | some m =>
    have := wN_lt hA hw
    exact br_f (fun z => by have := (nI_eq (a := m) (b := 1000000) (by omega) (by omega)).mp z; omega) ⟨rfl, hR⟩
