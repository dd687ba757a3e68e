/-! tours -/
noncomputable def tmv (a : Abs) (s d : Nat) : Option Nat := if s / 256 < aN a ∧ s % 256 < 2 ^ aNp a ∧ d < 4 then (match bsd a (s / 256) d with
  | none => none
  | some o => some (256 * o + (s % 256 ||| sFrom a o))) else none
def tgoal (a : Abs) (p s : Nat) : Prop := s = 256 * p + (2 ^ aNp a - 1)
def tV (a : Abs) (s : Nat) : Prop := s / 256 < aN a ∧ std a (s / 256) = true ∧ s % 256 < 2 ^ aNp a
theorem tEnc {a : Abs} (hA : AOk a) : Enc (fun s => s % 256) (fun s => s / 256) (tV a) := by
  obtain ⟨-, hn⟩ := aN_le hA
  refine ⟨fun s hs => ⟨Nat.mod_lt _ (by decide), ?_⟩, fun s t _ _ h1 h2 => ?_⟩
  · have := hs.1
    show s / 256 < 64
    omega
  · have h1' : s % 256 = t % 256 := h1
    have h2' : s / 256 = t / 256 := h2
    omega
theorem tst {o x : Nat} (hx : x < 256) : (256 * o + x) / 256 = o ∧ (256 * o + x) % 256 = x := by omega
theorem or_lt {a : Abs} (hA : AOk a) {x : Nat} (c : Nat) (hx : x < 2 ^ aNp a) : x ||| sFrom a c < 2 ^ aNp a := Nat.or_lt_two_pow hx (sFrom_lt hA c)
theorem bsd_std {a : Abs} {c d o : Nat} (h : bsd a c d = some o) : std a c = true ∧ o < aN a ∧ std a o = true := by
  unfold bsd at h
  by_cases e : std a c = true
  · rw [if_pos e] at h
    exact ⟨e, (stp_some h).1, (stp_some h).2.1⟩
  · rw [if_neg e] at h; cases h
theorem tmv_some {a : Abs} (hA : AOk a) {s d t : Nat} (h : tmv a s d = some t) : ∃ o, s / 256 < aN a ∧ s % 256 < 2 ^ aNp a ∧ d < 4 ∧ bsd a (s / 256) d = some o ∧ t = 256 * o + (s % 256 ||| sFrom a o) ∧ tV a t ∧ t / 256 = o ∧ t % 256 = (s % 256 ||| sFrom a o) := by
  have hp := p2_le hA.2.2.2.2.2.1
  unfold tmv at h
  by_cases e : s / 256 < aN a ∧ s % 256 < 2 ^ aNp a ∧ d < 4
  · rw [if_pos e] at h
    cases hb : bsd a (s / 256) d with
    | none => rw [hb] at h; cases h
    | some o =>
      rw [hb] at h
      cases h
      have hl := or_lt hA o e.2.1
      have ho := bsd_std hb
      have q := tst (o := o) (x := s % 256 ||| sFrom a o) (by omega)
      exact ⟨o, e.1, e.2.1, e.2.2, rfl, rfl, ⟨by rw [q.1]; exact ho.2.1, by rw [q.1]; exact ho.2.2, by rw [q.2]; exact hl⟩, q.1, q.2⟩
  · rw [if_neg e] at h; cases h
theorem s_all {a : Abs} {ps : Int32} (hA : AOk a) (h : ps = nI (aNp a)) : ((1 : Int32) <<< (ps &&& 31)) - (1 : Int32) = nI (2 ^ aNp a - 1) := by
  have hnp : aNp a ≤ 8 := hA.2.2.2.2.2.1
  have := Nat.two_pow_pos (aNp a)
  rw [h, sh32 _ (by omega), show (1 : Int32) = nI 1 from rfl, pk_sub (by omega)]
theorem s_setAt {f : Nat → Int32} {c : Nat} {x : Int32} {Q : Int32 → Prop} (hc : c < 64) (hx : f c = x) (h : Q x) : P_pi_setAt f (nI c) Q := by
  unfold P_pi_setAt
  rw [cl (by omega), hx]
  exact ⟨vI hc (by omega), h⟩
theorem s_piall {a : Abs} {ps : Int32} {Q : Int32 → Prop} (hA : AOk a) (hp : ps = nI (aNp a)) (h : Q (nI (2 ^ aNp a - 1))) : P_pi_all ps Q := by
  unfold P_pi_all
  rw [s_all hA hp]
  exact h
theorem s_toSearch {a : Abs} {gw gh gz ps ts : Int32} {gc gr gk pt tm : Nat → Int32} {tv : Nat → Int64} {fc lc f c2 st : Int64} {p : Nat} {Q : Int32 → (Nat → Int32) → (Nat → Int64) → Int32 → Prop} (hA : AOk a) (hs : IGs a gw gh gz gc gr fc lc) (hk : IGk a gk f c2 st) (hps : ps = nI (aNp a)) (hpt : ∀ c, c < aN a → pt c = nI (sFrom a c)) (hp : p < aN a) (hsp : std a p = true)
    (hN : NoWay (tmv a) (256 * p + sFrom a p) (tgoal a p) → ∀ tm tv ts, Q (-1) tm tv ts) (hY : ∀ m k e tm tv ts, Best (tmv a) (256 * p + sFrom a p) (tgoal a p) k e → TC tm m k e → Q (nI m) tm tv ts) : P_to_search gw gh gc gr st pt ps tm tv ts (nI p) Q := by
  obtain ⟨-, hn⟩ := aN_le hA
  have hp2 := p2_le hA.2.2.2.2.2.1
  have hE := tEnc hA
  have hF := sFrom_lt hA p
  have q0 := tst (o := p) (x := sFrom a p) (by omega)
  have hV0 : tV a (256 * p + sFrom a p) := ⟨by rw [q0.1]; exact hp, by rw [q0.1]; exact hsp, by rw [q0.2]; exact hF⟩
  unfold P_to_search P_tr_clear P_pi_setAt
  rw [cl (n := p) (by omega), hpt p hp]
  refine ⟨vI (by omega) (by omega), TO_first (mv := tmv a) (goal := tgoal a p) hE hV0 (congrArg nI q0.2.symm) (congrArg nI q0.1.symm) (fun l hl => filll_z hl) (fun marks visited hTO => ?_)⟩
  have outer : ∀ (n mark many : Nat) (marks : Nat → Int32) (visited : Nat → Int64), 16384 - mark < n → TO (tmv a) (256 * p + sFrom a p) (tgoal a p) (fun s => s % 256) (fun s => s / 256) (tV a) marks visited many mark → L_to_search_27 gw gh gc gr st pt ps Q n marks visited (nI many) (nI p) (nI mark) := by
    intro n
    induction n with
    | zero => intro mark many marks visited hx; omega
    | succ n ih =>
      intro mark many marks visited hx hTO
      have hml : mark ≤ many ∧ many ≤ 16384 := by
        obtain ⟨_, _, _, _, _, B, h1, -⟩ := hTO
        exact ⟨h1, TR_le hE B⟩
      unfold L_to_search_27 P_tr_size
      rcases Nat.lt_or_ge mark many with hmk | hmk
      · obtain ⟨C, e, hTI⟩ := TI_start hTO hmk
        obtain ⟨hV, -, -, r1, r2⟩ := TI_at hE hTI
        refine br_f (nI_ge (b := 16384) (by omega) (by omega)) (br_f (nI_ge hmk (by omega)) ?_)
        unfold P_tr_cellAt P_tr_layerAt
        rw [cl (n := mark) (by omega), r1, r2]
        refine ⟨vI (by omega) (by omega), vI (by omega) (by omega), ?_⟩
        obtain ⟨v1, v2, v3⟩ := hV
        have inner : ¬ tgoal a p C → ∃ n' : Nat, L_to_search_86 gw gh gc gr st pt ps Q (L_to_search_27 gw gh gc gr st pt ps Q n) n' marks visited (nI many) (nI p) (nI mark) (nI (C / 256)) (nI (C % 256)) 0 := by
          intro hng
          refine cnt0 (fun n' d (z : (Nat → Int32) × (Nat → Int64) × Nat) => L_to_search_86 gw gh gc gr st pt ps Q (L_to_search_27 gw gh gc gr st pt ps Q n) n' z.1 z.2.1 (nI z.2.2) (nI p) (nI mark) (nI (C / 256)) (nI (C % 256)) (nI d)) 4 (fun d z => TI (tmv a) (256 * p + sFrom a p) (tgoal a p) (fun s => s % 256) (fun s => s / 256) (tV a) z.1 z.2.1 z.2.2 mark C e d) (marks, visited, many) hTI ?_ ?_
          · rintro n' ⟨mk', vs', many'⟩ hB
            unfold L_to_search_86
            rw [nI_1 mark]
            refine br_t (nI_le (a := 4) (b := 4) (Nat.le_refl _) (by omega)) (ih _ _ _ _ (by omega) (TI_end hB (by omega) (fun d' hd' => ?_) hng))
            unfold tmv
            rw [if_neg (by omega)]
          · rintro n' d ⟨mk', vs', many'⟩ hd hB ih2
            unfold L_to_search_86
            rw [nI_1 d]
            refine br_f (nI_ge (b := 4) hd (by omega)) (s_placeAfter hA hs hk v1 (by omega) ?_)
            have hbs : bsd a (C / 256) d = stp a (C / 256) d := by unfold bsd; rw [if_pos v2]
            cases hsd : stp a (C / 256) d with
            | none =>
              refine br_t rfl (ih2 (_, _, _) (TI_skip hB ?_))
              unfold tmv
              rw [if_pos ⟨v1, v3, hd⟩, hbs, hsd]
            | some o =>
              have ho := stp_some hsd
              have hmv : tmv a C d = some (256 * o + (C % 256 ||| sFrom a o)) := by
                unfold tmv
                rw [if_pos ⟨v1, v3, hd⟩, hbs, hsd]
              obtain ⟨o2, -, -, -, -, -, hVt, e1, e2⟩ := tmv_some hA hmv
              have q := tst (o := o) (x := C % 256 ||| sFrom a o) (by have := or_lt hA o v3; omega)
              refine br_f (nI_ne1 (by omega)) ?_
              rw [show oI (-1) (some o) = nI o from rfl]
              refine s_setAt (by omega) (hpt o ho.1) ?_
              rw [nI_or]
              exact TI_visit hE hB (by omega) hmv hVt (congrArg nI q.2.symm) (congrArg nI q.1.symm) (fun m' v' k' hTI' => ih2 (m', v', k') hTI')
        have z1 : nI (C / 256) = nI p ↔ C / 256 = p := nI_eq (by omega) (by omega)
        have z2 : nI (C % 256) = nI (2 ^ aNp a - 1) ↔ C % 256 = 2 ^ aNp a - 1 := nI_eq (by omega) (by omega)
        rw [z1]
        refine ⟨fun g1 => s_piall hA hps ⟨fun g2 => ?_, fun g2 => inner (fun hg => g2 (z2.mpr ?_))⟩, fun g1 => inner (fun hg => g1 ?_)⟩
        · have g2 := z2.mp g2
          have hg : tgoal a p C := by unfold tgoal; omega
          obtain ⟨k, hB, hTC⟩ := TI_goal hE hTI hg
          exact hY mark k e marks visited _ hB hTC
        · unfold tgoal at hg; omega
        · unfold tgoal at hg; omega
      · have hN' := TO_none hTO hmk
        rcases Nat.lt_or_ge mark 16384 with g | g
        · exact br_f (nI_ge (b := 16384) g (by omega)) (br_t (nI_le hmk (by omega)) (hN hN' _ _ _))
        · exact br_t (nI_le (a := 16384) g (by omega)) (hN hN' _ _ _)
  exact ⟨16385, outer 16385 0 1 marks visited (by omega) hTO⟩
theorem tGd {a : Abs} (hA : AOk a) {p : Nat} (hp : p < aN a) : ∀ {k s : Nat}, Gd (tmv a) (tgoal a p) k s → s / 256 < aN a ∧ s % 256 < 2 ^ aNp a
  | 0, s, h => by
    have hp2 := p2_le hA.2.2.2.2.2.1
    have := Nat.two_pow_pos (aNp a)
    have q := tst (o := p) (x := 2 ^ aNp a - 1) (by omega)
    have h' : s = 256 * p + (2 ^ aNp a - 1) := h
    rw [h', q.1, q.2]
    exact ⟨hp, by omega⟩
  | k + 1, s, h => by
    obtain ⟨d, t, -, h1, -⟩ := h
    obtain ⟨o, x1, x2, -⟩ := tmv_some hA h1
    exact ⟨x1, x2⟩
theorem s_layTour {a : Abs} {mw mt ml mr mp : Int32} {mk mq mpc mf ms mlf : Nat → Int32} {p : Nat} {Q : (Nat → Int32) → (Nat → Int32) → (Nat → Int32) → Prop} (hA : AOk a) (hm : ∀ c, c < aN a → mk c = nI (aKd a c)) (h1 : mw = nI (aW a)) (h2 : mt = nI (aH a)) (h4 : ml = nI (aLw a)) (h5 : mr = nI (aRg a)) (h6 : mp = nI (aNp a)) (m7 : ∀ p, p < aNp a → mpc p = nI (aPc a p)) (m8 : ∀ p, p < aNp a → mf p = nI (aPf a p)) (hp : p < aN a) (h : ∀ q g D, (∀ c, c < aN a → g c = nI (sFrom a c)) → DT (tmv a) (tgoal a p) 16384 D → Q q g D) : P_mo_layTour mw mt mk ml mr mq mp mpc mf ms mlf (nI p) Q := by
  obtain ⟨-, hn⟩ := aN_le hA
  have hp2 := p2_le hA.2.2.2.2.2.1
  have hp0 := Nat.two_pow_pos (aNp a)
  unfold P_mo_layTour
  refine s_laySights hA hm h1 h2 h4 h5 h6 m7 m8 (fun g hg => ?_)
  rintro _ rfl
  rw [s_all hA h6]
  have outer : ∀ (n mark many : Nat) (q D : Nat → Int32), 16384 - mark < n → mark ≤ many → (∃ st dp, BQ (tmv a) (tgoal a p) 16384 q D st dp many mark) → L_mo_layTour_69 mw mt mk Q n q g D (nI (2 ^ aNp a - 1)) (nI many) (nI mark) := by
    intro n
    induction n with
    | zero => intro mark many q D hx; omega
    | succ n ih =>
      rintro mark many q D hx hml ⟨st, dp, B⟩
      have hle := BQ_le B
      unfold L_mo_layTour_69
      rcases Nat.lt_or_ge mark many with hmk | hmk
      · refine br_f (nI_ge hmk (by omega)) ?_
        obtain ⟨C, b, BI0⟩ := BI_start B hmk
        obtain ⟨k1, k2, k3, k4, k5, k6, k7⟩ := BI_at BI0
        obtain ⟨v1, v3⟩ := tGd hA hp k5
        have ne : ¬ (256 : Int32) = 0 := by decide
        rw [cl (n := mark) (by omega), k1]
        refine ⟨vI (by omega) (by omega), ne, ?_⟩
        rintro _ rfl
        refine ⟨vI (by omega) (by omega), ne, ?_⟩
        rintro _ rfl
        rw [show (256 : Int32) = nI 256 from rfl, pk_rem (by omega) (by omega) (by omega), pk_div (by omega) (by omega) (by omega)]
        refine cnt0 (fun n' d (s : (Nat → Int32) × (Nat → Int32) × Nat) => L_mo_layTour_104 mw mt mk Q (L_mo_layTour_69 mw mt mk Q n) n' s.1 g s.2.1 (nI (2 ^ aNp a - 1)) (nI s.2.2) (nI mark) (nI (C / 256)) (nI (C % 256)) (nI d)) 4 (fun d s => BI (tmv a) (tgoal a p) 16384 s.1 s.2.1 s.2.2 mark C b (fun x => ∃ d' o old, d' < d ∧ bsd a (C / 256) d' = some o ∧ old < 2 ^ aNp a ∧ x = 256 * o + old ∧ (old ||| sFrom a (C / 256)) = C % 256)) (q, D, many) (BI_sub BI0 (fun x hx => by obtain ⟨d', o, old, hd, -⟩ := hx; omega)) ?_ ?_
        · rintro n' ⟨q', D', many'⟩ hB
          unfold L_mo_layTour_104
          refine br_t (nI_le (a := 4) (b := 4) (Nat.le_refl _) (by omega)) ?_
          rw [nI_1 mark]
          have hc := BI_at hB
          have hc7 : mark < many' := hc.2.2.2.2.2.2
          refine ih (mark + 1) many' q' D' (by omega) (by omega) (BI_end hB (fun d s hd hmv => ?_))
          obtain ⟨o, x1, x2, x3, x4, x5, -, x6, x7⟩ := tmv_some hA hmv
          have hfm : fstp a (s / 256) d = some o := by unfold fstp; rw [if_pos ⟨x1, x3⟩]; exact x4
          obtain ⟨g1, g2, g3⟩ := fstp_nbr hA hfm
          rw [← x6] at g2 g3
          obtain ⟨d', e1, e2⟩ := (nbr_iff hA g2 g1).mp (nbr_sym g3)
          exact ⟨d', s / 256, s % 256, e1, e2, x2, by omega, by rw [x6, x7]⟩
        · rintro n' d ⟨q', D', many'⟩ hd hB ih2
          unfold L_mo_layTour_104
          refine br_f (nI_ge (b := 4) hd (by omega)) (s_beside hA hm h1 h2 v1 hd ?_)
          show ∃ n', L_mo_layTour_123 mw mt mk Q (L_mo_layTour_104 mw mt mk Q (L_mo_layTour_69 mw mt mk Q n) _) n' q' g D' (nI (2 ^ aNp a - 1)) (nI many') (nI mark) (nI (C / 256)) (nI (C % 256)) (nI d) (oI (-9) (bsd a (C / 256) d)) 0
          cases hb : bsd a (C / 256) d with
          | none =>
            refine ⟨1, ?_⟩
            unfold L_mo_layTour_123
            rw [nI_1 d]
            have fin := ih2 (q', D', many') (BI_sub hB (fun x hx => by
              obtain ⟨d', o, old, w1, w2, w3⟩ := hx
              rcases Nat.lt_or_ge d' d with z | z
              · exact ⟨d', o, old, z, w2, w3⟩
              · have : d' = d := by omega
                subst this
                rw [hb] at w2; cases w2))
            exact ⟨fun _ => fin, fun _ => br_t rfl fin⟩
          | some o =>
            have hfm : fstp a (C / 256) d = some o := by unfold fstp; rw [if_pos ⟨v1, hd⟩]; exact hb
            obtain ⟨g1, g2, g3⟩ := fstp_nbr hA hfm
            obtain ⟨d2, e1, e2⟩ := (nbr_iff hA g2 g1).mp (nbr_sym g3)
            refine cnt0 (fun n'' old (s : (Nat → Int32) × (Nat → Int32) × Nat) => L_mo_layTour_123 mw mt mk Q (L_mo_layTour_104 mw mt mk Q (L_mo_layTour_69 mw mt mk Q n) n') n'' s.1 g s.2.1 (nI (2 ^ aNp a - 1)) (nI s.2.2) (nI mark) (nI (C / 256)) (nI (C % 256)) (nI d) (nI o) (nI old)) (2 ^ aNp a) (fun u s => BI (tmv a) (tgoal a p) 16384 s.1 s.2.1 s.2.2 mark C b (fun x => (∃ d' o old, d' < d ∧ bsd a (C / 256) d' = some o ∧ old < 2 ^ aNp a ∧ x = 256 * o + old ∧ (old ||| sFrom a (C / 256)) = C % 256) ∨ ∃ old, old < u ∧ x = 256 * o + old ∧ (old ||| sFrom a (C / 256)) = C % 256)) (q', D', many') (BI_sub hB (fun x hx => by
              rcases hx with hx | ⟨old, z, -⟩
              · exact hx
              · omega)) ?_ ?_
            · rintro n'' ⟨q2, D2, many2⟩ hB2
              unfold L_mo_layTour_123
              rw [nI_1 d]
              refine br_t (nI_lt (by omega) (by omega)) (ih2 (q2, D2, many2) (BI_sub hB2 (fun x hx => ?_)))
              obtain ⟨d', o', old, w1, w2, w3, w4, w5⟩ := hx
              rcases Nat.lt_or_ge d' d with z | z
              · exact Or.inl ⟨d', o', old, z, w2, w3, w4, w5⟩
              · have : d' = d := by omega
                subst this
                rw [hb] at w2
                cases w2
                exact Or.inr ⟨old, w3, w4, w5⟩
            · rintro n'' u ⟨q2, D2, many2⟩ hu hB2 ih3
              obtain ⟨j1, j2, j3, j4, j5, j6, j7⟩ := BI_at hB2
              simp only at j1 j2 j6 j7
              unfold L_mo_layTour_123
              simp only
              rw [nI_1 u, cl (n := C / 256) (by omega), hg _ v1, nI_or, show (256 : Int32) = nI 256 from rfl, pk_mul, nI_add, cl (n := 256 * o + u) (by omega), cl (n := mark) (by omega), j1, cl (n := C) (by omega), j2, nI_1 b, nI_1 many2, nI_eq (by have := or_lt hA (C / 256) hu; omega) (by omega)]
              refine br_f (nI_nlt (by omega) (by omega)) (br_f (nI_ne9 (by omega)) ⟨vI (by omega) (by omega), fun g4 => ⟨vI (by omega) (by omega), fun g5 => ?_, fun g5 => ?_⟩, fun g4 => ?_⟩)
              · have hgd : Gd (tmv a) (tgoal a p) (b + 1) (256 * o + u) := by
                  refine ⟨d2, C, by omega, ?_, j5⟩
                  have qq := tst (o := o) (x := u) (by omega)
                  unfold tmv
                  rw [qq.1, qq.2, if_pos ⟨g2, hu, e1⟩, e2]
                  show some (256 * (C / 256) + (u ||| sFrom a (C / 256))) = some C
                  rw [g4]
                  exact congrArg some (by omega)
                obtain ⟨w1, w2⟩ := BI_new hB2 (by omega) (by omega) g5 hgd
                have w1' : many2 < 16384 := w1
                rw [cl (n := many2) (by omega)]
                refine ⟨vI (by omega) (by omega), vI (by omega) (by omega), vI (by omega) (by omega), vI (by omega) (by omega), ih3 (_, _, _) (BI_sub w2 (fun x hx => ?_))⟩
                rcases hx with hx | ⟨old, z1, z2, z3⟩
                · exact Or.inl (Or.inl hx)
                · rcases Nat.lt_or_ge old u with z | z
                  · exact Or.inl (Or.inr ⟨old, z, z2, z3⟩)
                  · have : old = u := by omega
                    subst this
                    exact Or.inr z2
              · refine ih3 (q2, D2, many2) (BI_sub (BI_old hB2 (s := 256 * o + u) (by omega) g5) (fun x hx => ?_))
                rcases hx with hx | ⟨old, z1, z2, z3⟩
                · exact Or.inl (Or.inl hx)
                · rcases Nat.lt_or_ge old u with z | z
                  · exact Or.inl (Or.inr ⟨old, z, z2, z3⟩)
                  · have : old = u := by omega
                    subst this
                    exact Or.inr z2
              · refine ih3 (q2, D2, many2) (BI_sub hB2 (fun x hx => ?_))
                rcases hx with hx | ⟨old, z1, z2, z3⟩
                · exact Or.inl hx
                · rcases Nat.lt_or_ge old u with z | z
                  · exact Or.inr ⟨old, z, z2, z3⟩
                  · have : old = u := by omega
                    subst this
                    exact absurd z3 g4
      · exact br_t (nI_le hmk (by omega)) (h q g D hg (BQ_end B hmk))
  refine cnt0 (fun n i (s : Nat → Int32) => L_mo_layTour_15 mw mt mk Q n mq g s (nI p) (nI (2 ^ aNp a - 1)) (nI i)) 16384 (fun i s => ∀ c, c < i → s c = -9) mlf (fun c hc => absurd hc (Nat.not_lt_zero _)) ?_ ?_
  · intro n s hI
    unfold L_mo_layTour_15 B_mo_layTour_36
    rw [show (256 : Int32) = nI 256 from rfl, pk_mul, nI_add, cl (n := 256 * p + (2 ^ aNp a - 1)) (by omega)]
    refine br_t (nI_le (a := 16384) (b := 16384) (Nat.le_refl _) (by omega)) ⟨vI (by omega) (by omega), vI (n := 0) (by omega) (by omega), 16385, ?_⟩
    refine outer 16385 0 1 _ _ (by omega) (by omega) ⟨fun _ => 256 * p + (2 ^ aNp a - 1), fun _ => 0, ⟨fun i hi => ?_, fun x hx hno => ?_⟩, ⟨fun g hg => ⟨0, by omega, hg.symm, rfl⟩, fun i hi => rfl, fun i j hij hj => by omega, fun i j _ _ => Nat.le_refl _, fun i d x hi => absurd hi (Nat.not_lt_zero _)⟩, fun i _ => Nat.zero_le _, fun j _ _ => Nat.zero_le _⟩
    · have : i = 0 := by omega
      subst this
      exact ⟨u_s, by show 256 * p + (2 ^ aNp a - 1) < 16384; omega, u_s⟩
    · rw [u_n (fun e => hno 0 (by omega) e.symm)]
      exact hI x hx
  · intro n i s hi hI ih
    unfold L_mo_layTour_15
    rw [nI_1 i, cl (n := i) (by omega)]
    refine br_f (nI_ge (b := 16384) hi (by omega)) ⟨vI hi (by omega), ih _ (fun c hc => ?_)⟩
    by_cases e : c = i
    · subst e; rw [u_s]
    · rw [u_n e]; exact hI c (by omega)
