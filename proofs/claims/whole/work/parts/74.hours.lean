/-! hours: what leads back, for all times at once -/
noncomputable def qmv (a : Abs) (X d : Nat) : Option Nat := if X / 64 < per a ∧ sf a (X / 64) (X % 64) = true ∧ d < 5 then (match stp a (X % 64) d with
  | none => none
  | some o => if sf a ((X / 64 + 1) % per a) o = true then some (64 * ((X / 64 + 1) % per a) + o) else none) else none
def qV (a : Abs) (X : Nat) : Prop := X / 64 < per a ∧ sf a (X / 64) (X % 64) = true
theorem qst {t c : Nat} (hc : c < 64) : (64 * t + c) / 64 = t ∧ (64 * t + c) % 64 = c := by omega
theorem qmv_some {a : Abs} (hA : AOk a) {X d Y : Nat} (h : qmv a X d = some Y) : qV a X ∧ d < 5 ∧ ∃ o, stp a (X % 64) d = some o ∧ o < aN a ∧ sf a ((X / 64 + 1) % per a) o = true ∧ Y = 64 * ((X / 64 + 1) % per a) + o := by
  unfold qmv at h
  by_cases e : X / 64 < per a ∧ sf a (X / 64) (X % 64) = true ∧ d < 5
  · rw [if_pos e] at h
    cases hb : stp a (X % 64) d with
    | none => rw [hb] at h; cases h
    | some o =>
      rw [hb] at h
      have ho := (stp_some hb).1
      simp only at h
      by_cases e2 : sf a ((X / 64 + 1) % per a) o = true
      · rw [if_pos e2] at h
        cases h
        exact ⟨⟨e.1, e.2.1⟩, e.2.2, o, rfl, ho, e2, rfl⟩
      · rw [if_neg e2] at h; cases h
  · rw [if_neg e] at h; cases h
theorem qmv_of {a : Abs} {t c d o : Nat} (hc : c < 64) (ht : t < per a) (hsf : sf a t c = true) (hd : d < 5) (hst : stp a c d = some o) (hso : sf a ((t + 1) % per a) o = true) : qmv a (64 * t + c) d = some (64 * ((t + 1) % per a) + o) := by
  have q := qst (t := t) hc
  unfold qmv
  rw [q.1, q.2, if_pos ⟨ht, hsf, hd⟩, hst]
  simp only
  rw [if_pos hso]
theorem qGd {a : Abs} (hA : AOk a) {base : Nat → Prop} (hb : ∀ X, base X → qV a X) : ∀ {k X : Nat}, Gd (qmv a) base k X → qV a X
  | 0, X, h => hb X h
  | _ + 1, _, h => by
    obtain ⟨d, t, -, h1, -⟩ := h
    exact (qmv_some hA h1).1
def spr (a : Abs) (b : Int64) (c : Nat) : Prop := bt b c = true ∨ ∃ c', c' < aN a ∧ bt b c' = true ∧ nbr a c' c = true
noncomputable def totG (a : Abs) (G : Nat → Int64) : Nat := cntN (fun X => bt (G (X / 64)) (X % 64)) (64 * per a)
theorem cntN_mono {f g : Nat → Bool} : ∀ {n : Nat}, (∀ i, i < n → f i = true → g i = true) → cntN f n ≤ cntN g n
  | 0, _ => Nat.le_refl _
  | n + 1, h => by
    rw [cntN_s, cntN_s]
    have ih := cntN_mono (n := n) (fun i hi => h i (by omega))
    have hn := h n (by omega)
    cases hf : f n with
    | false => simp; omega
    | true => rw [hn hf]; simp; omega
theorem cntN_strict {f g : Nat → Bool} : ∀ {n : Nat}, (∀ i, i < n → f i = true → g i = true) → (∃ i, i < n ∧ f i = false ∧ g i = true) → cntN f n < cntN g n
  | 0, _, h => by obtain ⟨i, hi, -⟩ := h; omega
  | n + 1, h, hx => by
    rw [cntN_s, cntN_s]
    obtain ⟨i, hi, hfi, hgi⟩ := hx
    have hn := h n (by omega)
    rcases Nat.lt_or_ge i n with e | e
    · have ih := cntN_strict (n := n) (fun i hi => h i (by omega)) ⟨i, e, hfi, hgi⟩
      cases hf : f n with
      | false => simp; omega
      | true => rw [hn hf]; simp; omega
    · have : i = n := by omega
      subst this
      have ih := cntN_mono (n := i) (f := f) (g := g) (fun i hi => h i (by omega))
      rw [hfi, hgi]; simp; omega
def qIn (a : Abs) (base : Nat → Prop) (G : Nat → Int64) : Prop := (∀ t c, t < per a → c < 64 → bt (G t) c = true → ∃ k, Gd (qmv a) base k (64 * t + c)) ∧ ∀ t c, t < per a → c < 64 → base (64 * t + c) → bt (G t) c = true
def qCl (a : Abs) (G : Nat → Int64) (t : Nat) : Prop := ∀ c, c < 64 → sf a t c = true → spr a (G ((t + 1) % per a)) c → bt (G t) c = true
theorem qDone {a : Abs} (hA : AOk a) {base : Nat → Prop} {G : Nat → Int64} (hb : ∀ X, base X → qV a X) (hI : qIn a base G) (hC : ∀ t, t < per a → qCl a G t) : ∀ {k t c : Nat}, t < per a → c < 64 → Gd (qmv a) base k (64 * t + c) → bt (G t) c = true := by
  obtain ⟨-, hn⟩ := aN_le hA
  have hP1 := per_pos hA
  intro k
  induction k with
  | zero => intro t c ht hc h; exact hI.2 t c ht hc h
  | succ k ih =>
    intro t c ht hc h
    obtain ⟨d, Y, hd, hm, hg⟩ := h
    obtain ⟨hV, hd5, o, h1, h2, h3, h4⟩ := qmv_some hA hm
    have q := qst (t := t) hc
    rw [q.1] at h3 h4
    rw [q.2] at h1
    have hsf : sf a t c = true := by have := hV.2; rw [q.1, q.2] at this; exact this
    have hs := sf_iff.mp hsf
    subst h4
    have hbt := ih (Nat.mod_lt _ hP1) (by omega) hg
    refine hC t ht c hc hsf ?_
    by_cases e : d = 4
    · subst e
      rw [stp4 hA hs.1, if_pos hs.2.1] at h1
      cases h1
      exact Or.inl hbt
    · have hb2 : bsd a c d = some o := by unfold bsd; rw [if_pos hs.2.1]; exact h1
      exact Or.inr ⟨o, h2, hbt, nbr_sym ((nbr_iff hA hs.1 h2).mpr ⟨d, by omega, hb2⟩)⟩
theorem s_leadBack {a : Abs} {gw gh gz : Int32} {gc gr gk : Nat → Int32} {fc lc f c2 st : Int64} {U G : Nat → Int64} {base : Nat → Prop} {Q : (Nat → Int64) → Prop} (hA : AOk a) (hs : IGs a gw gh gz gc gr fc lc) (hk : IGk a gk f c2 st) (hU : ∀ t q, t < per a → q < 64 → bt (U t) q = sf a t q) (hb : ∀ X, base X → qV a X) (hG : ∀ t c, t < per a → c < 64 → (bt (G t) c = true ↔ base (64 * t + c))) (h : ∀ G', (∀ t c, t < per a → c < 64 → (bt (G' t) c = true ↔ ∃ k, Gd (qmv a) base k (64 * t + c))) → Q G') : P_th_leadBack gw st fc lc U G (nI (per a)) Q := by
  obtain ⟨-, hn⟩ := aN_le hA
  have hP := per_le hA
  have hP1 := per_pos hA
  have outer : ∀ (m n : Nat) (G : Nat → Int64) (gr : Bool), 3842 - n < m → qIn a base G → (gr = false → ∀ t, t < per a → qCl a G t) → (gr = true → n ≤ totG a G) → n ≤ 3841 → L_th_leadBack_4 gw st fc lc U (nI (per a)) Q m G (bI gr) (nI n) := by
    intro m
    induction m with
    | zero => intro n G gr hx; omega
    | succ m ih =>
      intro n G0 gr hx hI hC hT hn3
      unfold L_th_leadBack_4
      refine brB (fun e => ?_) (fun e => ?_)
      · exact h G0 (fun t c ht hc => ⟨hI.1 t c ht hc, fun ⟨k, hg⟩ => qDone hA hb hI (hC e) ht hc hg⟩)
      · have htot : totG a G0 ≤ 64 * per a := cntN_le _ _
        have hnt := hT e
        refine br_f (nI_nlt (a := 3840) (by omega) (by omega)) ?_
        have sweep : ∀ (j : Nat) (Gc : Nat → Int64) (g2 : Bool), j ≤ per a → qIn a base Gc → (∀ t c, t < per a → c < 64 → bt (G0 t) c = true → bt (Gc t) c = true) → (g2 = false → (∀ t, t < per a → Gc t = G0 t) ∧ ∀ t, j ≤ t → t < per a → qCl a Gc t) → (g2 = true → ∃ t c, t < per a ∧ c < 64 ∧ bt (G0 t) c = false ∧ bt (Gc t) c = true) → L_th_leadBack_24 gw st fc lc U (nI (per a)) Q (L_th_leadBack_4 gw st fc lc U (nI (per a)) Q m) (j + 1) Gc (bI g2) (nI n) (nI j + (-1)) := by
          intro j
          induction j with
          | zero =>
            intro Gc g2 _ hIc hmono hf ht
            unfold L_th_leadBack_24
            rw [nI_1 n]
            refine br_t (by decide) (ih (n + 1) Gc g2 (by omega) hIc (fun e2 t htp => (hf e2).2 t (Nat.zero_le _) htp) (fun e2 => ?_) (by omega))
            obtain ⟨t, c, w1, w2, w3, w4⟩ := ht e2
            have q := qst (t := t) w2
            have : totG a G0 < totG a Gc := cntN_strict (fun X hX hXb => hmono _ _ (by omega) (Nat.mod_lt _ (by decide)) hXb) ⟨64 * t + c, by omega, by rw [q.1, q.2]; exact w3, by rw [q.1, q.2]; exact w4⟩
            omega
          | succ j ih2 =>
            intro Gc g2 hj hIc hmono hf ht
            have hjp : j < per a := by omega
            have hj2 : (j + 1) % per a < per a := Nat.mod_lt _ hP1
            unfold L_th_leadBack_24
            rw [pk_m1, cl (n := j) (by omega)]
            have vj : vp_in (nI j) 60 := vI (by omega) (by omega)
            refine br_f (nI_pos (by omega)) ⟨vj, vj, s_after hA hjp ?_⟩
            rw [cl (n := (j + 1) % per a) (by omega)]
            refine ⟨vI (by omega) (by omega), s_spread hA hs hk (fun q hq hbq => ?_) (fun b' hb' => ?_)⟩
            · obtain ⟨k, hg⟩ := hIc.1 _ q hj2 hq hbq
              have hv := qGd hA hb hg
              have qq := qst (t := (j + 1) % per a) hq
              have hv2 := hv.2
              rw [qq.1, qq.2] at hv2
              exact ⟨(sf_iff.mp hv2).1, (sf_iff.mp hv2).2.1⟩
            · rintro _ rfl
              have hw : ∀ c, c < 64 → (bt (Gc j ||| (U j &&& b')) c = true ↔ bt (Gc j) c = true ∨ (sf a j c = true ∧ spr a (Gc ((j + 1) % per a)) c)) := by
                intro c hc
                rw [bt_or, Bool.or_eq_true, bt_and, Bool.and_eq_true, hU j c hjp hc, hb' c hc]
                constructor
                · rintro (z | ⟨z1, -, -, z2⟩)
                  · exact Or.inl z
                  · exact Or.inr ⟨z1, z2⟩
                · rintro (z | ⟨z1, z2⟩)
                  · exact Or.inl z
                  · have := sf_iff.mp z1
                    exact Or.inr ⟨z1, this.1, this.2.1, z2⟩
              generalize hW : Gc j ||| (U j &&& b') = W at *
              have hI2 : qIn a base (vp_updL Gc j W) := by
                refine ⟨fun t c htp hc hbc => ?_, fun t c htp hc hbase => ?_⟩
                · by_cases e2 : t = j
                  · subst e2
                    rw [pk_uLs, hw c hc] at hbc
                    rcases hbc with z | ⟨z1, z2⟩
                    · exact hIc.1 t c htp hc z
                    · have hsc := sf_iff.mp z1
                      have go : ∀ c' d, c' < 64 → bt (Gc ((t + 1) % per a)) c' = true → d < 5 → stp a c d = some c' → ∃ k, Gd (qmv a) base k (64 * t + c) := by
                        intro c' d hc' hbc' hd hst
                        obtain ⟨k, hg⟩ := hIc.1 _ c' hj2 hc' hbc'
                        have hv := (qGd hA hb hg).2
                        have qq := qst (t := (t + 1) % per a) hc'
                        rw [qq.1, qq.2] at hv
                        exact ⟨k + 1, d, _, by omega, qmv_of hc htp z1 hd hst hv, hg⟩
                      rcases z2 with z2 | ⟨c', y1, y2, y3⟩
                      · exact go c 4 hc z2 (by omega) (by rw [stp4 hA hsc.1, if_pos hsc.2.1])
                      · obtain ⟨d, d1, d2⟩ := (nbr_iff hA hsc.1 y1).mp (nbr_sym y3)
                        unfold bsd at d2
                        rw [if_pos hsc.2.1] at d2
                        exact go c' d (by omega) y2 (by omega) d2
                  · rw [pk_uLn e2] at hbc
                    exact hIc.1 t c htp hc hbc
                · by_cases e2 : t = j
                  · subst e2
                    rw [pk_uLs, hw c hc]
                    exact Or.inl (hIc.2 t c htp hc hbase)
                  · rw [pk_uLn e2]
                    exact hIc.2 t c htp hc hbase
              have hmono2 : ∀ t c, t < per a → c < 64 → bt (Gc t) c = true → bt (vp_updL Gc j W t) c = true := by
                intro t c htp hc hbc
                by_cases e2 : t = j
                · subst e2
                  rw [pk_uLs, hw c hc]
                  exact Or.inl hbc
                · rw [pk_uLn e2]; exact hbc
              have fin : ∀ g3 : Bool, (g3 = false → g2 = false ∧ W = Gc j) → (g3 = true → (∃ t c, t < per a ∧ c < 64 ∧ bt (G0 t) c = false ∧ bt (vp_updL Gc j W t) c = true)) → B_th_leadBack_82 gw st fc lc U (nI (per a)) Q (L_th_leadBack_24 gw st fc lc U (nI (per a)) Q (L_th_leadBack_4 gw st fc lc U (nI (per a)) Q m) (j + 1)) Gc (nI n) (nI j) W (bI g3) := by
                intro g3 hf3 ht3
                unfold B_th_leadBack_82
                rw [cl (n := j) (by omega)]
                refine ⟨vj, ih2 _ g3 (by omega) hI2 (fun t c htp hc hbc => hmono2 t c htp hc (hmono t c htp hc hbc)) (fun e3 => ?_) ht3⟩
                obtain ⟨w1, w2⟩ := hf3 e3
                have same : ∀ t, vp_updL Gc j W t = Gc t := by
                  intro t
                  by_cases e2 : t = j
                  · subst e2; rw [pk_uLs, w2]
                  · rw [pk_uLn e2]
                refine ⟨fun t htp => by rw [same]; exact (hf w1).1 t htp, fun t hjt htp c hc hsf hsp => ?_⟩
                rw [same] at hsp ⊢
                rcases Nat.eq_or_lt_of_le hjt with e2 | e2
                · subst e2
                  rw [← w2]
                  exact (hw c hc).mpr (Or.inr ⟨hsf, hsp⟩)
                · exact (hf w1).2 t e2 htp c hc hsf hsp
              refine brB (fun e3 => ⟨vj, ?_⟩) (fun e3 => fin true (fun q => Bool.noConfusion q) (fun _ => ?_))
              · rw [lg_eq]
                refine ⟨fun e4 => fin false (fun _ => ⟨e3, e4⟩) (fun q => Bool.noConfusion q), fun e4 => fin true (fun q => Bool.noConfusion q) (fun _ => ?_)⟩
                have hex : ∃ c, c < 64 ∧ bt (Gc j) c = false ∧ bt W c = true := by
                  apply Classical.byContradiction
                  intro hno
                  apply e4
                  apply bt_ext
                  intro c hc
                  cases hgc : bt (Gc j) c with
                  | true => exact (hw c hc).mpr (Or.inl hgc)
                  | false =>
                    cases hwc : bt W c with
                    | false => rfl
                    | true => exact absurd ⟨c, hc, hgc, hwc⟩ hno
                obtain ⟨c, c1, c2, c3⟩ := hex
                refine ⟨j, c, hjp, c1, ?_, by rw [pk_uLs]; exact c3⟩
                rw [← (hf e3).1 j hjp]; exact c2
              · obtain ⟨t, c, w1, w2, w3, w4⟩ := ht e3
                exact ⟨t, c, w1, w2, w3, hmono2 t c w1 w2 w4⟩
        obtain ⟨P', hP'⟩ : ∃ P', per a = P' + 1 := ⟨per a - 1, by omega⟩
        have := sweep (per a) G0 false (Nat.le_refl _) hI (fun _ _ _ _ z => z) (fun _ => ⟨fun _ _ => rfl, fun t h1 h2 => by omega⟩) (fun q => Bool.noConfusion q)
        have e1 : nI (per a) + (-1) = nI (per a) - 1 := by rw [hP', pk_m1, nI_pred]
        rw [e1] at this
        exact ⟨_, this⟩
  unfold P_th_leadBack
  exact ⟨3843, outer 3843 0 G true (by omega) ⟨fun t c ht hc hb2 => ⟨0, (hG t c ht hc).mp hb2⟩, fun t c ht hc hb2 => (hG t c ht hc).mpr hb2⟩ (fun q => Bool.noConfusion q) (fun _ => Nat.zero_le _) (by omega)⟩
theorem s_narrow {a : Abs} {U G : Nat → Int64} {c : Nat} {an : Bool} {Q : (Nat → Int64) → Prop} (hA : AOk a) (hc : c < 64) (h : ∀ G', (∀ t q, t < per a → q < 64 → (bt (G' t) q = true ↔ bt (if an = true then U t else G t) q = true ∧ q = c)) → Q G') : P_th_narrowTo U G (nI (per a)) (nI c) (bI an) Q := by
  have hP := per_le hA
  unfold P_th_narrowTo
  refine cnt0 (fun n i (s : Nat → Int64) => L_th_narrowTo_2 U (nI (per a)) Q n s (nI c) (bI an) (nI i)) (per a) (fun i s => (∀ t q, t < i → q < 64 → (bt (s t) q = true ↔ bt (if an = true then U t else G t) q = true ∧ q = c)) ∧ ∀ t, i ≤ t → s t = G t) G ⟨fun t q ht => absurd ht (Nat.not_lt_zero _), fun _ _ => rfl⟩ ?_ ?_
  · intro n s hI
    unfold L_th_narrowTo_2
    exact br_t (nI_le (Nat.le_refl _) (by omega)) (h s hI.1)
  · intro n i s hi hI ih
    unfold L_th_narrowTo_2
    have v : vp_in (nI i) 60 := vI (by omega) (by omega)
    have fin : ∀ y : Int64, y = (if an = true then U i else G i) → B_th_narrowTo_34 U (nI (per a)) Q (L_th_narrowTo_2 U (nI (per a)) Q n) s (nI c) (bI an) (nI i) (nI i) y := by
      intro y hy
      unfold B_th_narrowTo_34
      rw [nI_1 i, cl (n := i) (by omega)]
      refine ⟨v, ih _ ⟨fun t q ht hq => ?_, fun t ht => ?_⟩⟩
      · by_cases e : t = i
        · subst e
          rw [pk_uLs, bt_and, Bool.and_eq_true, bt_one hc hq, hy, decide_eq_true_eq]
        · rw [pk_uLn e]; exact hI.1 t q (by omega) hq
      · rw [pk_uLn (by omega)]; exact hI.2 t (by omega)
    rw [cl (n := i) (by omega), hI.2 i (Nat.le_refl _)]
    refine br_f (nI_ge hi (by omega)) (brB (fun e => ⟨v, fin _ ?_⟩) (fun e => ⟨v, fin _ ?_⟩))
    · rw [e, if_neg (by decide)]
    · rw [e, if_pos rfl]
/-! the two readings of a theft -/
def base1 (a : Abs) (dr X : Nat) : Prop := qV a X ∧ X % 64 = dr
def base2 (a : Abs) (dr tg X : Nat) : Prop := (∃ k, Gd (qmv a) (base1 a dr) k X) ∧ X % 64 = tg
theorem h_mono {a : Abs} (hA : AOk a) {tg dr : Nat} : ∀ {k t c : Nat}, c < 64 → Gd (hmv a tg) (hgoal a dr) k (128 * t + (2 * c + 0)) → Gd (hmv a tg) (hgoal a dr) k (128 * t + (2 * c + 1)) := by
  obtain ⟨-, hn⟩ := aN_le hA
  intro k
  induction k with
  | zero =>
    intro t c hc h
    have q := hst (t := t) (c := c) (h := 0) hc (by omega)
    have := h.2.2.2
    rw [q.2.2] at this
    cases this
  | succ k ih =>
    intro t c hc h
    obtain ⟨d, Y, hd, hm, hg⟩ := h
    obtain ⟨hV2, hd5, o, h1, h2, h3, h4, -⟩ := hmv_some hA hm
    have q := hst (t := t) (c := c) (h := 0) hc (by omega)
    have q1 := hst (t := t) (c := c) (h := 1) hc (by omega)
    rw [q.1] at h3 h4
    rw [q.2.1] at h1
    rw [q.2.2] at h4
    obtain ⟨v1, v2⟩ := hV2
    rw [q.1] at v1 v2
    rw [q.2.1] at v2
    refine ⟨d, 128 * ((t + 1) % per a) + (2 * o + 1), hd, ?_, ?_⟩
    · unfold hmv
      rw [q1.1, q1.2.1, q1.2.2, if_pos ⟨v1, v2, hd5⟩, h1]
      simp only
      rw [if_pos h3, if_pos (Or.inl trivial)]
    · subst h4
      by_cases e : o = tg
      · rw [if_pos (Or.inr e)] at hg; exact hg
      · rw [if_neg (by simp [e])] at hg
        exact ih (by omega) hg
theorem h_to_q1 {a : Abs} (hA : AOk a) {tg dr : Nat} : ∀ {k t c : Nat}, c < 64 → (Gd (hmv a tg) (hgoal a dr) k (128 * t + (2 * c + 1)) ↔ Gd (qmv a) (base1 a dr) k (64 * t + c)) := by
  obtain ⟨-, hn⟩ := aN_le hA
  intro k
  induction k with
  | zero =>
    intro t c hc
    have q := qst (t := t) hc
    have q1 := hst (t := t) (c := c) (h := 1) hc (by omega)
    constructor
    · intro h
      obtain ⟨h1, h2, h3, -⟩ := h
      rw [q1.1] at h1 h2
      rw [q1.2.1] at h2 h3
      exact ⟨⟨by rw [q.1]; exact h1, by rw [q.1, q.2]; exact h2⟩, by rw [q.2]; exact h3⟩
    · intro h
      obtain ⟨⟨h1, h2⟩, h3⟩ := h
      rw [q.1] at h1 h2
      rw [q.2] at h2 h3
      exact ⟨by rw [q1.1]; exact h1, by rw [q1.1, q1.2.1]; exact h2, by rw [q1.2.1]; exact h3, q1.2.2⟩
  | succ k ih =>
    intro t c hc
    have q := qst (t := t) hc
    have q1 := hst (t := t) (c := c) (h := 1) hc (by omega)
    constructor
    · intro h
      obtain ⟨d, Y, hd, hm, hg⟩ := h
      obtain ⟨⟨v1, v2⟩, hd5, o, h1, h2, h3, h4, -⟩ := hmv_some hA hm
      rw [q1.1] at v1 v2 h3 h4
      rw [q1.2.1] at v2 h1
      rw [q1.2.2, if_pos (Or.inl rfl)] at h4
      subst h4
      exact ⟨d, _, hd, qmv_of hc v1 v2 hd5 h1 h3, (ih (by omega)).mp hg⟩
    · intro h
      obtain ⟨d, Y, hd, hm, hg⟩ := h
      obtain ⟨⟨v1, v2⟩, hd5, o, h1, h2, h3, h4⟩ := qmv_some hA hm
      rw [q.1] at v1 v2 h3 h4
      rw [q.2] at v2 h1
      subst h4
      refine ⟨d, 128 * ((t + 1) % per a) + (2 * o + 1), hd, ?_, (ih (by omega)).mpr hg⟩
      unfold hmv
      rw [q1.1, q1.2.1, q1.2.2, if_pos ⟨v1, v2, hd5⟩, h1]
      simp only
      rw [if_pos h3, if_pos (Or.inl trivial)]
theorem h_to_q0 {a : Abs} (hA : AOk a) {tg dr : Nat} : ∀ {k t c : Nat}, c < 64 → Gd (hmv a tg) (hgoal a dr) k (128 * t + (2 * c + 0)) → ∃ j, Gd (qmv a) (base2 a dr tg) j (64 * t + c) := by
  obtain ⟨-, hn⟩ := aN_le hA
  intro k
  induction k with
  | zero =>
    intro t c hc h
    have q := hst (t := t) (c := c) (h := 0) hc (by omega)
    have := h.2.2.2
    rw [q.2.2] at this
    cases this
  | succ k ih =>
    intro t c hc h
    obtain ⟨d, Y, hd, hm, hg⟩ := h
    obtain ⟨⟨v1, v2⟩, hd5, o, h1, h2, h3, h4, -⟩ := hmv_some hA hm
    have q := hst (t := t) (c := c) (h := 0) hc (by omega)
    rw [q.1] at v1 v2 h3 h4
    rw [q.2.1] at v2 h1
    rw [q.2.2] at h4
    subst h4
    have hstep := qmv_of hc v1 v2 hd5 h1 h3
    by_cases e : o = tg
    · rw [if_pos (Or.inr e)] at hg
      have hb := (h_to_q1 hA (by omega)).mp hg
      have qq := qst (t := (t + 1) % per a) (c := o) (by omega)
      exact ⟨1, d, _, hd, hstep, ⟨k, hb⟩, by rw [qq.2]; exact e⟩
    · rw [if_neg (by simp [e])] at hg
      obtain ⟨j, hj⟩ := ih (by omega) hg
      exact ⟨j + 1, d, _, hd, hstep, hj⟩
theorem q_to_h {a : Abs} (hA : AOk a) {tg dr : Nat} : ∀ {j t c : Nat}, c < 64 → Gd (qmv a) (base2 a dr tg) j (64 * t + c) → ∃ k, Gd (hmv a tg) (hgoal a dr) k (128 * t + (2 * c + (if c = tg then 1 else 0))) := by
  obtain ⟨-, hn⟩ := aN_le hA
  intro j
  induction j with
  | zero =>
    intro t c hc h
    obtain ⟨⟨k, hk⟩, h2⟩ := h
    rw [(qst (t := t) hc).2] at h2
    rw [if_pos h2]
    exact ⟨k, (h_to_q1 hA hc).mpr hk⟩
  | succ j ih =>
    intro t c hc h
    obtain ⟨d, Y, hd, hm, hg⟩ := h
    obtain ⟨⟨v1, v2⟩, hd5, o, h1, h2, h3, h4⟩ := qmv_some hA hm
    have q := qst (t := t) hc
    rw [q.1] at v1 v2 h3 h4
    rw [q.2] at v2 h1
    subst h4
    obtain ⟨k, hk⟩ := ih (by omega) hg
    have qq := hst (t := t) (c := c) (h := if c = tg then 1 else 0) hc (b01 _)
    have hstep : hmv a tg (128 * t + (2 * c + (if c = tg then 1 else 0))) d = some (128 * ((t + 1) % per a) + (2 * o + (if (if c = tg then 1 else 0) = 1 ∨ o = tg then 1 else 0))) := by
      unfold hmv
      rw [qq.1, qq.2.1, qq.2.2, if_pos ⟨v1, v2, hd5⟩, h1]
      simp only
      rw [if_pos h3]
    refine ⟨k + 1, d, _, hd, hstep, ?_⟩
    by_cases e : o = tg
    · rw [if_pos e] at hk
      rw [if_pos (Or.inr e)]
      exact hk
    · rw [if_neg e] at hk
      by_cases e2 : c = tg
      · rw [if_pos (Or.inl (if_pos e2))]
        exact h_mono hA (by omega) hk
      · rw [if_neg (by simp [e, e2])]
        exact hk
theorem q_iff {a : Abs} (hA : AOk a) {tg dr t c : Nat} (hc : c < 64) : (∃ j, Gd (qmv a) (base2 a dr tg) j (64 * t + c)) ↔ ∃ k, Gd (hmv a tg) (hgoal a dr) k (128 * t + (2 * c + (if c = tg then 1 else 0))) := by
  constructor
  · rintro ⟨j, hj⟩; exact q_to_h hA hc hj
  · rintro ⟨k, hk⟩
    by_cases e : c = tg
    · rw [if_pos e] at hk
      exact ⟨0, ⟨k, (h_to_q1 hA hc).mp hk⟩, by rw [(qst (t := t) hc).2]; exact e⟩
    · rw [if_neg e] at hk
      exact h_to_q0 hA hc hk
noncomputable def hrs (a : Abs) (tg dr n : Nat) : Nat := cntN (fun t => pB (∃ k, Gd (hmv a tg) (hgoal a dr) k (128 * t + (2 * dr + (if dr = tg then 1 else 0))))) n
theorem s_goodHours {a : Abs} {gw gh gz : Int32} {gc gr gk : Nat → Int32} {fc lc f c2 st : Int64} {U G : Nat → Int64} {tg dr : Nat} {Q : Int32 → (Nat → Int64) → Prop} (hA : AOk a) (hs : IGs a gw gh gz gc gr fc lc) (hk : IGk a gk f c2 st) (hU : ∀ t q, t < per a → q < 64 → bt (U t) q = sf a t q) (htg : tg < aN a) (hdr : dr < aN a) (h : ∀ G, Q (nI (hrs a tg dr (per a))) G) : P_th_goodHours gw st fc lc U G (nI (per a)) (nI tg) (nI dr) Q := by
  obtain ⟨-, hn⟩ := aN_le hA
  have hP := per_le hA
  unfold P_th_goodHours
  refine s_narrow (an := true) hA (by omega) (fun G1 hG1 => ?_)
  refine s_leadBack (base := base1 a dr) hA hs hk hU (fun X hX => hX.1) (fun t c ht hc => ?_) (fun G2 hG2 => ?_)
  · rw [hG1 t c ht hc, if_pos rfl, hU t c ht hc]
    have q := qst (t := t) hc
    unfold base1 qV
    rw [q.1, q.2]
    exact ⟨fun z => ⟨⟨ht, z.1⟩, z.2⟩, fun z => ⟨z.1.2, z.2⟩⟩
  refine s_narrow (an := false) hA (by omega) (fun G3 hG3 => ?_)
  refine s_leadBack (base := base2 a dr tg) hA hs hk hU (fun X hX => ?_) (fun t c ht hc => ?_) (fun G4 hG4 => ?_)
  · obtain ⟨⟨k, hk2⟩, -⟩ := hX
    exact qGd hA (fun X hX => hX.1) hk2
  · rw [hG3 t c ht hc, if_neg (by decide), hG2 t c ht hc]
    have q := qst (t := t) hc
    unfold base2
    rw [q.2]
  have hbit : ∀ t, t < per a → bt (G4 t) dr = pB (∃ k, Gd (hmv a tg) (hgoal a dr) k (128 * t + (2 * dr + (if dr = tg then 1 else 0)))) := by
    intro t ht
    rw [Bool.eq_iff_iff, hG4 t dr ht (by omega), pB_iff]
    exact q_iff hA (by omega)
  refine cnt0 (fun n i (s : Int32) => L_th_goodHours_25 (nI (per a)) Q n G4 (nI dr) s (nI i)) (per a) (fun i s => s = nI (hrs a tg dr i)) 0 rfl ?_ ?_
  · rintro n _ rfl
    unfold L_th_goodHours_25
    exact br_t (nI_le (Nat.le_refl _) (by omega)) (h G4)
  · rintro n i _ hi rfl ih
    unfold L_th_goodHours_25
    rw [nI_1 i, cl (n := i) (by omega)]
    refine br_f (nI_ge hi (by omega)) ⟨vI (by omega) (by omega), s_holds (by omega) ?_⟩
    rw [hbit i hi]
    refine brB (fun e => ih _ ?_) (fun e => ih _ ?_)
    · unfold hrs; rw [cntN_s, e]; simp
    · unfold hrs; rw [cntN_s, e, nI_1]; simp
theorem op_hours {gr_width : Int32} {gr_height : Int32} {gr_size : Int32} {gr_kinds : Nat → Int32} {gr_columns : Nat → Int32} {gr_rows : Nat → Int32} {gr_floorCells : Int64} {gr_clearCells : Int64} {gr_standCells : Int64} {gr_firstColumn : Int64} {gr_lastColumn : Int64} {pi_cells : Nat → Int32} {pi_facings : Nat → Int32} {pi_size : Int32} {ro_cells : Nat → Int32} {ro_lengths : Nat → Int32} {ro_shifts : Nat → Int32} {si_sightLaw : Int32} {si_sightRange : Int32} {th_unseen : Nat → Int64} {th_goals : Nat → Int64} {th_commonLength : Int32} {mo_wide : Int32} {mo_tall : Int32} {mo_kind : Nat → Int32} {mo_law : Int32} {mo_range : Int32} {mo_queue : Nat → Int32} {mo_pictures : Int32} {mo_pictureCell : Nat → Int32} {mo_facing : Nat → Int32} {mo_roundMany : Nat → Int32} {mo_round : Nat → Int32} {mo_shift : Nat → Int32} {mo_thief : Nat → Int32} {mo_danger : Nat → Int32} (hR : Rel gr_width gr_height gr_size gr_columns gr_rows gr_firstColumn gr_lastColumn gr_kinds gr_floorCells gr_clearCells gr_standCells pi_cells pi_facings pi_size ro_cells ro_lengths ro_shifts si_sightLaw si_sightRange mo_wide mo_tall mo_kind mo_law mo_range mo_pictures mo_pictureCell mo_facing mo_roundMany mo_round mo_shift) (a1 a2 : Int32) : P_wh_hours gr_width gr_size gr_columns gr_rows gr_floorCells gr_clearCells gr_standCells gr_firstColumn gr_lastColumn pi_cells pi_size ro_cells ro_lengths ro_shifts si_sightLaw si_sightRange th_unseen th_goals th_commonLength a1 a2 (fun r1 th_unseen' th_goals' th_commonLength' => P_mo_hours mo_wide mo_tall mo_kind mo_law mo_range mo_queue mo_pictures mo_pictureCell mo_roundMany mo_round mo_shift mo_thief mo_danger a1 a2 (fun r2 mo_queue' mo_thief' mo_danger' => r1 = r2 ∧ Rel gr_width gr_height gr_size gr_columns gr_rows gr_firstColumn gr_lastColumn gr_kinds gr_floorCells gr_clearCells gr_standCells pi_cells pi_facings pi_size ro_cells ro_lengths ro_shifts si_sightLaw si_sightRange mo_wide mo_tall mo_kind mo_law mo_range mo_pictures mo_pictureCell mo_facing mo_roundMany mo_round mo_shift)) := by
  obtain ⟨a, hA, hGs, hGk, hPi, hRo, hSi, hM⟩ := id hR
  obtain ⟨m1, m2, m3, m4, m5, m6, m7, m8, m9, m10, m11⟩ := id hM
  obtain ⟨hn4, hn⟩ := aN_le hA
  have hnw : aW a * aH a < 1073741824 := by unfold aN at hn; omega
  have hnp : aNp a ≤ 8 := hA.2.2.2.2.2.1
  have hP := per_le hA
  have hP1 := per_pos hA
  have t0 : isR 0 9999 0 = true := by decide
  unfold P_wh_hours
  refine s_pi hPi.1 (by omega) (brB (fun hf => ?_) (fun ht => ?_))
  · unfold P_mo_hours
    exact s_mayAsk hA m1 m2 m6 (fun _ => br_f (by decide) ⟨rfl, hR⟩) (fun g => by rw [hf] at g; cases g) (fun g => by rw [hf] at g; cases g) (fun g => by rw [hf] at g; cases g)
  · refine s_gc hGs.2.2.1 (by omega) (brB (fun hf2 => ?_) (fun ht2 => ?_))
    · unfold P_mo_hours
      exact s_mayAsk hA m1 m2 m6 (fun g => by rw [ht] at g; cases g) (fun _ _ => br_f (by decide) ⟨rfl, hR⟩) (fun _ g => by rw [hf2] at g; cases g) (fun _ g => by rw [hf2] at g; cases g)
    · obtain ⟨p, hp, rfl⟩ := isC_of (by omega) ht
      obtain ⟨dr, hdr, rfl⟩ := isC_of (by omega) ht2
      have htg := (hA.2.2.2.2.2.2.1 p hp).1
      have hb2 := b01 (dr = aPc a p)
      refine s_thSurvey hA hGs hGk hSi hRo (fun U hU => ?_)
      unfold P_pi_cellOf
      rw [cl (n := p) (by omega), hPi.2.1 p hp]
      refine ⟨vI (by omega) (by omega), s_goodHours hA hGs hGk hU htg hdr (fun G => ?_)⟩
      unfold P_mo_hours
      refine s_mayAsk hA m1 m2 m6 (fun g => by rw [ht] at g; cases g) (fun _ g => by rw [ht2] at g; cases g) (fun _ _ g => by rw [t0] at g; cases g) (fun _ _ _ => br_t (by decide) (s_layTheft hA m3 m1 m2 m4 m5 m7 m9 m10 m11 hp hdr (fun q D gg hgg hDT => ?_)))
      refine cnt0 (fun n i (s : Int32) => L_mo_hours_26 mo_wide mo_kind mo_law mo_range mo_pictureCell mo_roundMany mo_round mo_shift _ n q D gg (nI p) (nI dr) s (nI i)) (per a) (fun i s => s = nI (hrs a (aPc a p) dr i)) 0 rfl ?_ ?_
      · rintro n _ rfl
        unfold L_mo_hours_26
        exact s_periodNow hA m9 (br_t (nI_le (Nat.le_refl _) (by omega)) ⟨rfl, hR⟩)
      · rintro n i _ hi rfl ih
        unfold L_mo_hours_26
        rw [nI_1 i]
        have no : ¬ (∃ k, Gd (hmv a (aPc a p)) (hgoal a dr) k (128 * i + (2 * dr + (if dr = aPc a p then 1 else 0)))) → nI (hrs a (aPc a p) dr i) + 0 = nI (hrs a (aPc a p) dr (i + 1)) := by
          intro hno
          unfold hrs
          rw [cntN_s, pB_f hno]; simp
        refine s_periodNow hA m9 (br_f (nI_ge hi (by omega)) (s_mayBegin hA m3 m1 m4 m5 m9 m10 m11 hdr (by omega) (brB (fun g => ih _ (no ?_)) (fun g => s_beginOf hA m7 m9 hp hdr (by omega) ?_))))
        · rintro ⟨k, hk⟩
          have hv := (hGd hA hk).2
          have qq := hst (t := i) (c := dr) (h := if dr = aPc a p then 1 else 0) (by omega) hb2
          rw [qq.1, qq.2.1, g] at hv
          cases hv
        · rw [Nat.mod_eq_of_lt hi, cl (by omega)]
          rcases hDT (128 * i + (2 * dr + (if dr = aPc a p then 1 else 0))) (by omega) with ⟨e, e2⟩ | ⟨k, e1, e2, e3⟩
          · exact ⟨vI (by omega) (by omega), br_t e (ih _ (no (fun ⟨k, hk⟩ => e2 k hk)))⟩
          · refine ⟨vI (by omega) (by omega), br_f (by rw [e1]; exact nI_ne9 (by omega)) (ih _ ?_)⟩
            unfold hrs
            rw [cntN_s, pB_t ⟨k, e2.1⟩, nI_1]; simp
