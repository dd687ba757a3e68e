/-! THE CLAIM OUT OF ONE WALK OF THE LAW'S BODY. Your part is whole_start (and what it stands on); all else here is the same for every law, but numbers. -/
def R_law : String := "WatchedHallsLaw"
def lw_P (b : Addr) (xs : List Int32) (args : Array Value) (s : State) : Prop := args = #[.ref b] ∧ s.IntsAt b xs ∧ xs.length ≤ 2560 ∧ (Jvm.Cond.and given_1 narrow_1).before args s = true
def lw_Q (_ : Array Value) (s : State) (o : Outcome) (t : State) : Prop := o = .returned (some (.int 1)) ∧ Framed s o t [] 600000 7302250
def lw_Z (below : List Frame) (a : Array Value) (s : State) : State → Prop := fun t => ∃ o, t.status = .running ∧ Ended t below o ∧ lw_Q a s o t
/-- the law's own end, with 1 on the stack, nothing written that was there before, its room as the claim has it -/
theorem lw_ret {p : Program} {l : Launch} {e : Env} {s : State} {m : MethodId} {below : List Frame} {meth : Method} {c : Code} {b : Nat} (hx : p.tables.exec = Jvm.exec) (hb : c.code = code) (hr : meth.sig.returnType = ret) (hlocks : meth.locks = false) {pc : Nat} {H : Heap} {ls : Array Slot} (hdg : decode code pc = .ok (.ireturn, 1)) : W p l e room_1 s m #[Value.ref b] below meth c H [] 600000 7302250 (lw_Z below #[Value.ref b] s) (F0 m pc ls [.int 1]) := by
  intro T hT X
  obtain ⟨fs, hret, hrun, hended, hW, hframe⟩ := X.leave (v := some (.int 1)) (hlocks := hlocks) (fun h => by rw [hr] at h; cases h)
  have hmeth' : T.vm.method? m = some meth := X.method'
  refine ⟨T.setFrames fs, ?_, .returned (some (.int 1)), hrun, hended, rfl, ⟨_, rfl⟩, hW, hframe⟩
  jvm_step X.here [X.here.top, hx, hb, hdg, hmeth', hr, ret, narrow_b1]
  (try refine ⟨rfl, ?_⟩); (try refine ⟨rfl, ?_⟩)
  first | (intro acts; rw [hret _ acts rfl rfl rfl]) | rw [hret _ _ rfl rfl rfl]
  exact Steps.refl _
/-- what holds at the law's entry: the machine, the code, the tables' words (any of lw_tbl by 'hts w (by decide +kernel)'), the script of L ints xs at the cell b, what the Statement gives of the start (any of its parts by flat_of_before) -/
def lw_At (p : Program) (s : State) (m : MethodId) (meth : Method) (c : Code) (b L : Nat) (xs : Nat → Int32) : Prop :=
  p.tables.exec = Jvm.exec ∧ c.code = code ∧ meth.sig.returnType = ret ∧ c.maxLocals = 4 ∧ s.vm.findClass R_law = some m.cls ∧ (∀ w ∈ lw_tbl, w.before #[Value.ref b] s = true) ∧ va_X b L xs s s.heap ∧ b < s.heap.size ∧ meth.locks = false ∧ (Jvm.Cond.and given_1 narrow_1).before #[Value.ref b] s = true
def Aw (w : va_W) : Nat → Prop := fun q => ∃ (k : Nat) (e : va_E), w[k]? = some (q, e)
theorem lw_in {L j : Nat} {q : Nat} (hLb : L ≤ 2560) (h : j + q < L) : vp_in (nI j + nI q) L := by rw [nI_add]; exact vp_in_nI h (by omega)
theorem lw_ix {xs : Nat → Int32} {L j q : Nat} (hLb : L ≤ 2560) (hj : j + 5 ≤ L) (h : q < 5) : xs (nI j + nI q).toNatClampNeg = xs (j + q) := by rw [nI_add, nI_clamp (by omega)]
theorem app_l {w1 w2 : va_W} {k : Nat} {q : Nat × va_E} (h : w1[k]? = some q) : (w1 ++ w2)[k]? = some q := by
  rw [List.getElem?_append_left (List.getElem?_eq_some_iff.mp h).1]; exact h
theorem app_r {w1 w2 : va_W} {k : Nat} {q : Nat × va_E} (h : w2[k]? = some q) : (w1 ++ w2)[w1.length + k]? = some q := by
  rw [List.getElem?_append_right (Nat.le_add_right _ _), Nat.add_sub_cancel_left]; exact h
theorem app_Pl {D : va_G} {w1 w2 : va_W} {H : Heap} (h : va_P D vwCl (w1 ++ w2) H) : va_P D vwCl w1 H := fun k q hk => h k q (app_l hk)
theorem app_Pr {D : va_G} {w1 w2 : va_W} {H : Heap} (h : va_P D vwCl (w1 ++ w2) H) : va_P D vwCl w2 H := fun k q hk => h _ q (app_r hk)
theorem app_Dl {A : Nat → Prop} {w1 w2 : va_W} (h : va_D A (w1 ++ w2)) : va_D A w1 := ⟨fun i j x y hi hj e => h.1 i j x y (app_l hi) (app_l hj) e, fun k q hk => h.2 k q (app_l hk)⟩
theorem app_Dr {A : Nat → Prop} {w1 w2 : va_W} (h : va_D A (w1 ++ w2)) : va_D A w2 := ⟨fun i j x y hi hj e => by have := h.1 _ _ x y (app_r hi) (app_r hj) e; omega, fun k q hk => h.2 _ q (app_r hk)⟩
theorem Aw_self {A : Nat → Prop} {w : va_W} (h : va_D A w) : va_D (Aw w) w := ⟨h.1, fun k q hk => ⟨k, q.2, hk⟩⟩
theorem Aw_sub {A : Nat → Prop} {w : va_W} (h : va_D A w) : ∀ q, Aw w q → A q := fun q ⟨k, e, hk⟩ => h.2 k (q, e) hk
theorem app_ap {A : Nat → Prop} {w1 w2 : va_W} (h : va_D A (w1 ++ w2)) {k : Nat} {q : Nat × va_E} (hk : w2[k]? = some q) : ¬ Aw w1 q.1 := fun ⟨i, e, hi⟩ => by
  have := h.1 _ _ (q.1, e) q (app_l hi) (app_r hk) rfl
  have := (List.getElem?_eq_some_iff.mp hi).1
  omega
theorem app_ap2 {A : Nat → Prop} {w1 w2 : va_W} (h : va_D A (w1 ++ w2)) {k : Nat} {q : Nat × va_E} (hk : w1[k]? = some q) : ¬ Aw w2 q.1 := fun ⟨i, e, hi⟩ => by
  have := h.1 _ _ q (q.1, e) (app_l hk) (app_r hi) rfl
  have := (List.getElem?_eq_some_iff.mp hk).1
  omega
theorem joinL {D : va_G} {A : Nat → Prop} {w1 w2 w3 : va_W} {H H1 : Heap} (hP : va_P D vwCl (w1 ++ w2) H) (hD : va_D A (w1 ++ w2)) (hk : ∀ q : Nat, q < H.size → ¬ Aw w1 q → H1[q]? = H[q]?) (hP1 : va_P D vwCl w3 H1) (hD1 : va_D (Aw w1) w3) : va_P D vwCl (w3 ++ w2) H1 ∧ va_D A (w3 ++ w2) := by
  refine ⟨hP1.app (fun k q h => (app_Pr hP k q h).kept (hk q.1 ((app_Pr hP k q h).lt) (app_ap hD h))), va_D.app (hD1.weaken (fun k q _ h => Aw_sub (app_Dl hD) q.1 h)) (app_Dr hD) (fun i j x y hx hy e => app_ap hD hy (by rw [← e]; exact hD1.2 i x hx))⟩
theorem joinR {D : va_G} {A : Nat → Prop} {w1 w2 w3 : va_W} {H H1 : Heap} (hP : va_P D vwCl (w1 ++ w2) H) (hD : va_D A (w1 ++ w2)) (hk : ∀ q : Nat, q < H.size → ¬ Aw w2 q → H1[q]? = H[q]?) (hP1 : va_P D vwCl w3 H1) (hD1 : va_D (Aw w2) w3) : va_P D vwCl (w1 ++ w3) H1 ∧ va_D A (w1 ++ w3) := by
  refine ⟨va_P.app (fun k q h => (app_Pl hP k q h).kept (hk q.1 ((app_Pl hP k q h).lt) (app_ap2 hD h))) hP1, va_D.app (app_Dl hD) (hD1.weaken (fun k q _ h => Aw_sub (app_Dr hD) q.1 h)) (fun i j x y hx hy e => app_ap2 hD hx (by rw [e]; exact hD1.2 j y hy))⟩
section LCALL
variable {p : Program} {l : Launch} {e : Env} {R : Room} {s : State} {m : MethodId} {args : Array Value} {below : List Frame} {meth : Method} {c : Code} {H : Heap} {locs : List Loc} {cells slots : Nat} {Q : State → Prop} {cc : ByteArray} {pc : Nat} {ls : Array Slot} {rest : List Value} {D : va_G} {A : Nat → Prop} {Ts : List Cond} {index : Nat} {cI cL cZ : ClassId} {mx my : Nat}
theorem lw_callL {S : Type} {post : Int32 → S → Prop} {w1 w2 : va_W} {w1' : S → va_W} {y : MethodName} {bytes : ByteArray} {maxL nL n : Nat} {ret : Option FieldType} {ws : List Cond} {rm : Room} {own C : String} {T : u_T} {Nn ci q0 : Nat} {fs : List Value} {b : Addr} {As st0 : List Value} (S0 : CallFix p m c cc nL s args Ts own) (hK : KX D cI cL cZ mx my A s) (hP : va_P D vwCl (w1 ++ w2) H) (hD : va_D A (w1 ++ w2)) (hS : va_S A s.heap H locs) (hM : Met l y ws rm (va_Pc (.ref b :: As) (WC D cI cL cZ mx my (Aw w1) w1)) (va_Qi post (fun u t => PW D (Aw w1) (w1' u) t.heap) (Aw w1)) 0 0 (Aw w1)) (cw : CallW R s args own C index y bytes maxL ret ws rm 0 0 n) (hc : vwCl[ci]? = some (C, T, Nn)) (he : w1[q0]? = some (b, .inr (ci, fs))) (hsz : ls.size = nL) (hcs : cells ≤ R.cells ∧ slots ≤ R.slots) (hst : st0 = As.reverse ++ .ref b :: rest) (hn : As.length = n) (hroom : (rest.map fun v => v.category).sum ≤ 8) (hdg : decode cc pc = .ok (.invokevirtual index, 3)) (kk : ∀ (r : Int32) (u : S) (H1 : Heap) (locs1 : List Loc), post r u → va_P D vwCl (w1' u ++ w2) H1 → va_D A (w1' u ++ w2) → va_S A s.heap H1 locs1 → W p l e R s m args below meth c H1 locs1 cells slots Q (F0 m (pc + 3) ls (.int r :: rest))) : W p l e R s m args below meth c H locs cells slots Q (F0 m pc ls st0) := by
  have hPc := app_Pl hP
  have hDc := app_Dl hD
  have hsub : ∀ q, Aw w1 q → A q := Aw_sub hDc
  refine va_calli (va_runV (g := F0 m pc ls st0) (As := As) (rest := rest) S0 hM cw ⟨WC.blind, va_recv hK.1 hPc hc he, fun U hU hW => ⟨rfl, by rw [hU]; exact hPc, Aw_self hDc, (hK.at hS hU hW).narrow hsub⟩⟩ rfl hn hsz hst (lv_room hroom) hdg hcs) hS (fun q _ h => hsub q h) hsub (fun r u t H1 locs ht hvm hq hB hz hk hS1 => ?_)
  have hB1 : va_P D vwCl (w1' u) H1 := by rw [← ht]; exact hB.1
  obtain ⟨g1, g2⟩ := joinL hP hD hk hB1 hB.2
  exact kk r u H1 locs hq g1 g2 hS1
theorem lw_callR {S : Type} {post : Int32 → S → Prop} {w1 w2 : va_W} {w2' : S → va_W} {y : MethodName} {bytes : ByteArray} {maxL nL n : Nat} {ret : Option FieldType} {ws : List Cond} {rm : Room} {own C : String} {T : u_T} {Nn ci q0 : Nat} {fs : List Value} {b : Addr} {As st0 : List Value} (S0 : CallFix p m c cc nL s args Ts own) (hK : KX D cI cL cZ mx my A s) (hP : va_P D vwCl (w1 ++ w2) H) (hD : va_D A (w1 ++ w2)) (hS : va_S A s.heap H locs) (hM : Met l y ws rm (va_Pc (.ref b :: As) (WC D cI cL cZ mx my (Aw w2) w2)) (va_Qi post (fun u t => PW D (Aw w2) (w2' u) t.heap) (Aw w2)) 0 0 (Aw w2)) (cw : CallW R s args own C index y bytes maxL ret ws rm 0 0 n) (hc : vwCl[ci]? = some (C, T, Nn)) (he : w2[q0]? = some (b, .inr (ci, fs))) (hsz : ls.size = nL) (hcs : cells ≤ R.cells ∧ slots ≤ R.slots) (hst : st0 = As.reverse ++ .ref b :: rest) (hn : As.length = n) (hroom : (rest.map fun v => v.category).sum ≤ 8) (hdg : decode cc pc = .ok (.invokevirtual index, 3)) (kk : ∀ (r : Int32) (u : S) (H1 : Heap) (locs1 : List Loc), post r u → va_P D vwCl (w1 ++ w2' u) H1 → va_D A (w1 ++ w2' u) → va_S A s.heap H1 locs1 → W p l e R s m args below meth c H1 locs1 cells slots Q (F0 m (pc + 3) ls (.int r :: rest))) : W p l e R s m args below meth c H locs cells slots Q (F0 m pc ls st0) := by
  have hPc := app_Pr hP
  have hDc := app_Dr hD
  have hsub : ∀ q, Aw w2 q → A q := Aw_sub hDc
  refine va_calli (va_runV (g := F0 m pc ls st0) (As := As) (rest := rest) S0 hM cw ⟨WC.blind, va_recv hK.1 hPc hc he, fun U hU hW => ⟨rfl, by rw [hU]; exact hPc, Aw_self hDc, (hK.at hS hU hW).narrow hsub⟩⟩ rfl hn hsz hst (lv_room hroom) hdg hcs) hS (fun q _ h => hsub q h) hsub (fun r u t H1 locs ht hvm hq hB hz hk hS1 => ?_)
  have hB1 : va_P D vwCl (w2' u) H1 := by rw [← ht]; exact hB.1
  obtain ⟨g1, g2⟩ := joinR hP hD hk hB1 hB.2
  exact kk r u H1 locs hq g1 g2 hS1
end LCALL
theorem m_74 : (.classLink RL 7 RX9 : Cond) ∈ BIG := inBIG 74 (by decide +kernel) (by decide +kernel)
theorem m_75 : (.instantiable RX9 9 : Cond) ∈ BIG := inBIG 75 (by decide +kernel) (by decide +kernel)
theorem m_76 : (.methodLink RL 9 yX9_init : Cond) ∈ BIG := inBIG 76 (by decide +kernel) (by decide +kernel)
theorem m_77 : (.instanceMethod yX9_init : Cond) ∈ BIG := inBIG 77 (by decide +kernel) (by decide +kernel)
theorem m_78 : (.code yX9_init cX9_init 2 none : Cond) ∈ BIG := inBIG 78 (by decide +kernel) (by decide +kernel)
theorem m_328 : (.methodLink RL 13 yX9_hall : Cond) ∈ BIG := inBIG 328 (by decide +kernel) (by decide +kernel)
theorem m_329 : (.instanceMethod yX9_hall : Cond) ∈ BIG := inBIG 329 (by decide +kernel) (by decide +kernel)
theorem m_330 : (.selects RX9 yX9_hall yX9_hall : Cond) ∈ BIG := inBIG 330 (by decide +kernel) (by decide +kernel)
theorem m_331 : (.code yX9_hall cX9_hall 3 (some .int) : Cond) ∈ BIG := inBIG 331 (by decide +kernel) (by decide +kernel)
theorem m_349 : (.methodLink RL 18 yX9_cell : Cond) ∈ BIG := inBIG 349 (by decide +kernel) (by decide +kernel)
theorem m_350 : (.instanceMethod yX9_cell : Cond) ∈ BIG := inBIG 350 (by decide +kernel) (by decide +kernel)
theorem m_351 : (.selects RX9 yX9_cell yX9_cell : Cond) ∈ BIG := inBIG 351 (by decide +kernel) (by decide +kernel)
theorem m_352 : (.code yX9_cell cX9_cell 4 (some .int) : Cond) ∈ BIG := inBIG 352 (by decide +kernel) (by decide +kernel)
theorem m_365 : (.methodLink RL 22 yX9_kind : Cond) ∈ BIG := inBIG 365 (by decide +kernel) (by decide +kernel)
theorem m_366 : (.instanceMethod yX9_kind : Cond) ∈ BIG := inBIG 366 (by decide +kernel) (by decide +kernel)
theorem m_367 : (.selects RX9 yX9_kind yX9_kind : Cond) ∈ BIG := inBIG 367 (by decide +kernel) (by decide +kernel)
theorem m_368 : (.code yX9_kind cX9_kind 2 (some .int) : Cond) ∈ BIG := inBIG 368 (by decide +kernel) (by decide +kernel)
theorem m_369 : (.methodLink RL 27 yX9_law : Cond) ∈ BIG := inBIG 369 (by decide +kernel) (by decide +kernel)
theorem m_370 : (.instanceMethod yX9_law : Cond) ∈ BIG := inBIG 370 (by decide +kernel) (by decide +kernel)
theorem m_371 : (.selects RX9 yX9_law yX9_law : Cond) ∈ BIG := inBIG 371 (by decide +kernel) (by decide +kernel)
theorem m_372 : (.code yX9_law cX9_law 2 (some .int) : Cond) ∈ BIG := inBIG 372 (by decide +kernel) (by decide +kernel)
theorem m_377 : (.methodLink RL 31 yX9_range : Cond) ∈ BIG := inBIG 377 (by decide +kernel) (by decide +kernel)
theorem m_378 : (.instanceMethod yX9_range : Cond) ∈ BIG := inBIG 378 (by decide +kernel) (by decide +kernel)
theorem m_379 : (.selects RX9 yX9_range yX9_range : Cond) ∈ BIG := inBIG 379 (by decide +kernel) (by decide +kernel)
theorem m_380 : (.code yX9_range cX9_range 2 (some .int) : Cond) ∈ BIG := inBIG 380 (by decide +kernel) (by decide +kernel)
theorem m_385 : (.methodLink RL 35 yX9_far : Cond) ∈ BIG := inBIG 385 (by decide +kernel) (by decide +kernel)
theorem m_386 : (.instanceMethod yX9_far : Cond) ∈ BIG := inBIG 386 (by decide +kernel) (by decide +kernel)
theorem m_387 : (.selects RX9 yX9_far yX9_far : Cond) ∈ BIG := inBIG 387 (by decide +kernel) (by decide +kernel)
theorem m_388 : (.code yX9_far cX9_far 3 (some .int) : Cond) ∈ BIG := inBIG 388 (by decide +kernel) (by decide +kernel)
theorem m_401 : (.methodLink RL 39 yX9_sees : Cond) ∈ BIG := inBIG 401 (by decide +kernel) (by decide +kernel)
theorem m_402 : (.instanceMethod yX9_sees : Cond) ∈ BIG := inBIG 402 (by decide +kernel) (by decide +kernel)
theorem m_403 : (.selects RX9 yX9_sees yX9_sees : Cond) ∈ BIG := inBIG 403 (by decide +kernel) (by decide +kernel)
theorem m_404 : (.code yX9_sees cX9_sees 3 (some .int) : Cond) ∈ BIG := inBIG 404 (by decide +kernel) (by decide +kernel)
theorem m_449 : (.methodLink RL 43 yX9_view : Cond) ∈ BIG := inBIG 449 (by decide +kernel) (by decide +kernel)
theorem m_450 : (.instanceMethod yX9_view : Cond) ∈ BIG := inBIG 450 (by decide +kernel) (by decide +kernel)
theorem m_451 : (.selects RX9 yX9_view yX9_view : Cond) ∈ BIG := inBIG 451 (by decide +kernel) (by decide +kernel)
theorem m_452 : (.code yX9_view cX9_view 2 (some .int) : Cond) ∈ BIG := inBIG 452 (by decide +kernel) (by decide +kernel)
theorem m_465 : (.methodLink RL 47 yX9_best : Cond) ∈ BIG := inBIG 465 (by decide +kernel) (by decide +kernel)
theorem m_466 : (.instanceMethod yX9_best : Cond) ∈ BIG := inBIG 466 (by decide +kernel) (by decide +kernel)
theorem m_467 : (.selects RX9 yX9_best yX9_best : Cond) ∈ BIG := inBIG 467 (by decide +kernel) (by decide +kernel)
theorem m_468 : (.code yX9_best cX9_best 5 (some .int) : Cond) ∈ BIG := inBIG 468 (by decide +kernel) (by decide +kernel)
theorem m_469 : (.methodLink RL 52 yX9_picture : Cond) ∈ BIG := inBIG 469 (by decide +kernel) (by decide +kernel)
theorem m_470 : (.instanceMethod yX9_picture : Cond) ∈ BIG := inBIG 470 (by decide +kernel) (by decide +kernel)
theorem m_471 : (.selects RX9 yX9_picture yX9_picture : Cond) ∈ BIG := inBIG 471 (by decide +kernel) (by decide +kernel)
theorem m_472 : (.code yX9_picture cX9_picture 3 (some .int) : Cond) ∈ BIG := inBIG 472 (by decide +kernel) (by decide +kernel)
theorem m_478 : (.methodLink RL 56 yX9_about : Cond) ∈ BIG := inBIG 478 (by decide +kernel) (by decide +kernel)
theorem m_479 : (.instanceMethod yX9_about : Cond) ∈ BIG := inBIG 479 (by decide +kernel) (by decide +kernel)
theorem m_480 : (.selects RX9 yX9_about yX9_about : Cond) ∈ BIG := inBIG 480 (by decide +kernel) (by decide +kernel)
theorem m_481 : (.code yX9_about cX9_about 3 (some .int) : Cond) ∈ BIG := inBIG 481 (by decide +kernel) (by decide +kernel)
theorem m_494 : (.methodLink RL 60 yX9_seen : Cond) ∈ BIG := inBIG 494 (by decide +kernel) (by decide +kernel)
theorem m_495 : (.instanceMethod yX9_seen : Cond) ∈ BIG := inBIG 495 (by decide +kernel) (by decide +kernel)
theorem m_496 : (.selects RX9 yX9_seen yX9_seen : Cond) ∈ BIG := inBIG 496 (by decide +kernel) (by decide +kernel)
theorem m_497 : (.code yX9_seen cX9_seen 3 (some .int) : Cond) ∈ BIG := inBIG 497 (by decide +kernel) (by decide +kernel)
theorem m_513 : (.methodLink RL 64 yX9_from : Cond) ∈ BIG := inBIG 513 (by decide +kernel) (by decide +kernel)
theorem m_514 : (.instanceMethod yX9_from : Cond) ∈ BIG := inBIG 514 (by decide +kernel) (by decide +kernel)
theorem m_515 : (.selects RX9 yX9_from yX9_from : Cond) ∈ BIG := inBIG 515 (by decide +kernel) (by decide +kernel)
theorem m_516 : (.code yX9_from cX9_from 2 (some .int) : Cond) ∈ BIG := inBIG 516 (by decide +kernel) (by decide +kernel)
theorem m_522 : (.methodLink RL 68 yX9_fewest : Cond) ∈ BIG := inBIG 522 (by decide +kernel) (by decide +kernel)
theorem m_523 : (.instanceMethod yX9_fewest : Cond) ∈ BIG := inBIG 523 (by decide +kernel) (by decide +kernel)
theorem m_524 : (.selects RX9 yX9_fewest yX9_fewest : Cond) ∈ BIG := inBIG 524 (by decide +kernel) (by decide +kernel)
theorem m_525 : (.code yX9_fewest cX9_fewest 1 (some .int) : Cond) ∈ BIG := inBIG 525 (by decide +kernel) (by decide +kernel)
theorem m_554 : (.methodLink RL 72 yX9_post : Cond) ∈ BIG := inBIG 554 (by decide +kernel) (by decide +kernel)
theorem m_555 : (.instanceMethod yX9_post : Cond) ∈ BIG := inBIG 555 (by decide +kernel) (by decide +kernel)
theorem m_556 : (.selects RX9 yX9_post yX9_post : Cond) ∈ BIG := inBIG 556 (by decide +kernel) (by decide +kernel)
theorem m_557 : (.code yX9_post cX9_post 2 (some .int) : Cond) ∈ BIG := inBIG 557 (by decide +kernel) (by decide +kernel)
theorem m_567 : (.methodLink RL 76 yX9_tour : Cond) ∈ BIG := inBIG 567 (by decide +kernel) (by decide +kernel)
theorem m_568 : (.instanceMethod yX9_tour : Cond) ∈ BIG := inBIG 568 (by decide +kernel) (by decide +kernel)
theorem m_569 : (.selects RX9 yX9_tour yX9_tour : Cond) ∈ BIG := inBIG 569 (by decide +kernel) (by decide +kernel)
theorem m_570 : (.code yX9_tour cX9_tour 2 (some .int) : Cond) ∈ BIG := inBIG 570 (by decide +kernel) (by decide +kernel)
theorem m_621 : (.methodLink RL 80 yX9_tourStep : Cond) ∈ BIG := inBIG 621 (by decide +kernel) (by decide +kernel)
theorem m_622 : (.instanceMethod yX9_tourStep : Cond) ∈ BIG := inBIG 622 (by decide +kernel) (by decide +kernel)
theorem m_623 : (.selects RX9 yX9_tourStep yX9_tourStep : Cond) ∈ BIG := inBIG 623 (by decide +kernel) (by decide +kernel)
theorem m_624 : (.code yX9_tourStep cX9_tourStep 3 (some .int) : Cond) ∈ BIG := inBIG 624 (by decide +kernel) (by decide +kernel)
theorem m_638 : (.methodLink RL 84 yX9_step : Cond) ∈ BIG := inBIG 638 (by decide +kernel) (by decide +kernel)
theorem m_639 : (.instanceMethod yX9_step : Cond) ∈ BIG := inBIG 639 (by decide +kernel) (by decide +kernel)
theorem m_640 : (.selects RX9 yX9_step yX9_step : Cond) ∈ BIG := inBIG 640 (by decide +kernel) (by decide +kernel)
theorem m_641 : (.code yX9_step cX9_step 4 (some .int) : Cond) ∈ BIG := inBIG 641 (by decide +kernel) (by decide +kernel)
theorem m_662 : (.methodLink RL 88 yX9_wipe : Cond) ∈ BIG := inBIG 662 (by decide +kernel) (by decide +kernel)
theorem m_663 : (.instanceMethod yX9_wipe : Cond) ∈ BIG := inBIG 663 (by decide +kernel) (by decide +kernel)
theorem m_664 : (.selects RX9 yX9_wipe yX9_wipe : Cond) ∈ BIG := inBIG 664 (by decide +kernel) (by decide +kernel)
theorem m_665 : (.code yX9_wipe cX9_wipe 2 (some .int) : Cond) ∈ BIG := inBIG 665 (by decide +kernel) (by decide +kernel)
theorem m_670 : (.methodLink RL 92 yX9_closed : Cond) ∈ BIG := inBIG 670 (by decide +kernel) (by decide +kernel)
theorem m_671 : (.instanceMethod yX9_closed : Cond) ∈ BIG := inBIG 671 (by decide +kernel) (by decide +kernel)
theorem m_672 : (.selects RX9 yX9_closed yX9_closed : Cond) ∈ BIG := inBIG 672 (by decide +kernel) (by decide +kernel)
theorem m_673 : (.code yX9_closed cX9_closed 4 (some .int) : Cond) ∈ BIG := inBIG 673 (by decide +kernel) (by decide +kernel)
theorem m_678 : (.methodLink RL 96 yX9_shift : Cond) ∈ BIG := inBIG 678 (by decide +kernel) (by decide +kernel)
theorem m_679 : (.instanceMethod yX9_shift : Cond) ∈ BIG := inBIG 679 (by decide +kernel) (by decide +kernel)
theorem m_680 : (.selects RX9 yX9_shift yX9_shift : Cond) ∈ BIG := inBIG 680 (by decide +kernel) (by decide +kernel)
theorem m_681 : (.code yX9_shift cX9_shift 4 (some .int) : Cond) ∈ BIG := inBIG 681 (by decide +kernel) (by decide +kernel)
theorem m_690 : (.methodLink RL 100 yX9_where : Cond) ∈ BIG := inBIG 690 (by decide +kernel) (by decide +kernel)
theorem m_691 : (.instanceMethod yX9_where : Cond) ∈ BIG := inBIG 691 (by decide +kernel) (by decide +kernel)
theorem m_692 : (.selects RX9 yX9_where yX9_where : Cond) ∈ BIG := inBIG 692 (by decide +kernel) (by decide +kernel)
theorem m_693 : (.code yX9_where cX9_where 3 (some .int) : Cond) ∈ BIG := inBIG 693 (by decide +kernel) (by decide +kernel)
theorem m_701 : (.methodLink RL 104 yX9_watched : Cond) ∈ BIG := inBIG 701 (by decide +kernel) (by decide +kernel)
theorem m_702 : (.instanceMethod yX9_watched : Cond) ∈ BIG := inBIG 702 (by decide +kernel) (by decide +kernel)
theorem m_703 : (.selects RX9 yX9_watched yX9_watched : Cond) ∈ BIG := inBIG 703 (by decide +kernel) (by decide +kernel)
theorem m_704 : (.code yX9_watched cX9_watched 5 (some .int) : Cond) ∈ BIG := inBIG 704 (by decide +kernel) (by decide +kernel)
theorem m_705 : (.methodLink RL 108 yX9_period : Cond) ∈ BIG := inBIG 705 (by decide +kernel) (by decide +kernel)
theorem m_706 : (.instanceMethod yX9_period : Cond) ∈ BIG := inBIG 706 (by decide +kernel) (by decide +kernel)
theorem m_707 : (.selects RX9 yX9_period yX9_period : Cond) ∈ BIG := inBIG 707 (by decide +kernel) (by decide +kernel)
theorem m_708 : (.code yX9_period cX9_period 1 (some .int) : Cond) ∈ BIG := inBIG 708 (by decide +kernel) (by decide +kernel)
theorem m_717 : (.methodLink RL 112 yX9_gap : Cond) ∈ BIG := inBIG 717 (by decide +kernel) (by decide +kernel)
theorem m_718 : (.instanceMethod yX9_gap : Cond) ∈ BIG := inBIG 718 (by decide +kernel) (by decide +kernel)
theorem m_719 : (.selects RX9 yX9_gap yX9_gap : Cond) ∈ BIG := inBIG 719 (by decide +kernel) (by decide +kernel)
theorem m_720 : (.code yX9_gap cX9_gap 2 (some .int) : Cond) ∈ BIG := inBIG 720 (by decide +kernel) (by decide +kernel)
theorem m_754 : (.methodLink RL 116 yX9_worst : Cond) ∈ BIG := inBIG 754 (by decide +kernel) (by decide +kernel)
theorem m_755 : (.instanceMethod yX9_worst : Cond) ∈ BIG := inBIG 755 (by decide +kernel) (by decide +kernel)
theorem m_756 : (.selects RX9 yX9_worst yX9_worst : Cond) ∈ BIG := inBIG 756 (by decide +kernel) (by decide +kernel)
theorem m_757 : (.code yX9_worst cX9_worst 1 (some .int) : Cond) ∈ BIG := inBIG 757 (by decide +kernel) (by decide +kernel)
theorem m_764 : (.methodLink RL 120 yX9_arrange : Cond) ∈ BIG := inBIG 764 (by decide +kernel) (by decide +kernel)
theorem m_765 : (.instanceMethod yX9_arrange : Cond) ∈ BIG := inBIG 765 (by decide +kernel) (by decide +kernel)
theorem m_766 : (.selects RX9 yX9_arrange yX9_arrange : Cond) ∈ BIG := inBIG 766 (by decide +kernel) (by decide +kernel)
theorem m_767 : (.code yX9_arrange cX9_arrange 1 (some .int) : Cond) ∈ BIG := inBIG 767 (by decide +kernel) (by decide +kernel)
theorem m_786 : (.methodLink RL 124 yX9_theft : Cond) ∈ BIG := inBIG 786 (by decide +kernel) (by decide +kernel)
theorem m_787 : (.instanceMethod yX9_theft : Cond) ∈ BIG := inBIG 787 (by decide +kernel) (by decide +kernel)
theorem m_788 : (.selects RX9 yX9_theft yX9_theft : Cond) ∈ BIG := inBIG 788 (by decide +kernel) (by decide +kernel)
theorem m_789 : (.code yX9_theft cX9_theft 4 (some .int) : Cond) ∈ BIG := inBIG 789 (by decide +kernel) (by decide +kernel)
theorem m_837 : (.methodLink RL 129 yX9_theftStep : Cond) ∈ BIG := inBIG 837 (by decide +kernel) (by decide +kernel)
theorem m_838 : (.instanceMethod yX9_theftStep : Cond) ∈ BIG := inBIG 838 (by decide +kernel) (by decide +kernel)
theorem m_839 : (.selects RX9 yX9_theftStep yX9_theftStep : Cond) ∈ BIG := inBIG 839 (by decide +kernel) (by decide +kernel)
theorem m_840 : (.code yX9_theftStep cX9_theftStep 5 (some .int) : Cond) ∈ BIG := inBIG 840 (by decide +kernel) (by decide +kernel)
theorem m_846 : (.methodLink RL 134 yX9_hours : Cond) ∈ BIG := inBIG 846 (by decide +kernel) (by decide +kernel)
theorem m_847 : (.instanceMethod yX9_hours : Cond) ∈ BIG := inBIG 847 (by decide +kernel) (by decide +kernel)
theorem m_848 : (.selects RX9 yX9_hours yX9_hours : Cond) ∈ BIG := inBIG 848 (by decide +kernel) (by decide +kernel)
theorem m_849 : (.code yX9_hours cX9_hours 3 (some .int) : Cond) ∈ BIG := inBIG 849 (by decide +kernel) (by decide +kernel)
theorem m_863 : (.methodLink RL 138 yX9_turn : Cond) ∈ BIG := inBIG 863 (by decide +kernel) (by decide +kernel)
theorem m_864 : (.instanceMethod yX9_turn : Cond) ∈ BIG := inBIG 864 (by decide +kernel) (by decide +kernel)
theorem m_865 : (.selects RX9 yX9_turn yX9_turn : Cond) ∈ BIG := inBIG 865 (by decide +kernel) (by decide +kernel)
theorem m_866 : (.code yX9_turn cX9_turn 2 (some .int) : Cond) ∈ BIG := inBIG 866 (by decide +kernel) (by decide +kernel)
theorem m_898 : (.methodLink RL 142 yX9_mirror : Cond) ∈ BIG := inBIG 898 (by decide +kernel) (by decide +kernel)
theorem m_899 : (.instanceMethod yX9_mirror : Cond) ∈ BIG := inBIG 899 (by decide +kernel) (by decide +kernel)
theorem m_900 : (.selects RX9 yX9_mirror yX9_mirror : Cond) ∈ BIG := inBIG 900 (by decide +kernel) (by decide +kernel)
theorem m_901 : (.code yX9_mirror cX9_mirror 2 (some .int) : Cond) ∈ BIG := inBIG 901 (by decide +kernel) (by decide +kernel)
theorem m_910 : (.methodLink RL 146 yX9_count : Cond) ∈ BIG := inBIG 910 (by decide +kernel) (by decide +kernel)
theorem m_911 : (.instanceMethod yX9_count : Cond) ∈ BIG := inBIG 911 (by decide +kernel) (by decide +kernel)
theorem m_912 : (.selects RX9 yX9_count yX9_count : Cond) ∈ BIG := inBIG 912 (by decide +kernel) (by decide +kernel)
theorem m_913 : (.code yX9_count cX9_count 2 (some .int) : Cond) ∈ BIG := inBIG 913 (by decide +kernel) (by decide +kernel)
theorem m_920 : (.classLink RL 10 RX10 : Cond) ∈ BIG := inBIG 920 (by decide +kernel) (by decide +kernel)
theorem m_921 : (.instantiable RX10 21 : Cond) ∈ BIG := inBIG 921 (by decide +kernel) (by decide +kernel)
theorem m_922 : (.methodLink RL 12 yX10_init : Cond) ∈ BIG := inBIG 922 (by decide +kernel) (by decide +kernel)
theorem m_923 : (.instanceMethod yX10_init : Cond) ∈ BIG := inBIG 923 (by decide +kernel) (by decide +kernel)
theorem m_924 : (.code yX10_init cX10_init 1 none : Cond) ∈ BIG := inBIG 924 (by decide +kernel) (by decide +kernel)
theorem m_996 : (.methodLink RL 17 yX10_hall : Cond) ∈ BIG := inBIG 996 (by decide +kernel) (by decide +kernel)
theorem m_997 : (.instanceMethod yX10_hall : Cond) ∈ BIG := inBIG 997 (by decide +kernel) (by decide +kernel)
theorem m_998 : (.selects RX10 yX10_hall yX10_hall : Cond) ∈ BIG := inBIG 998 (by decide +kernel) (by decide +kernel)
theorem m_999 : (.code yX10_hall cX10_hall 3 (some .int) : Cond) ∈ BIG := inBIG 999 (by decide +kernel) (by decide +kernel)
theorem m_1005 : (.methodLink RL 21 yX10_cell : Cond) ∈ BIG := inBIG 1005 (by decide +kernel) (by decide +kernel)
theorem m_1006 : (.instanceMethod yX10_cell : Cond) ∈ BIG := inBIG 1006 (by decide +kernel) (by decide +kernel)
theorem m_1007 : (.selects RX10 yX10_cell yX10_cell : Cond) ∈ BIG := inBIG 1007 (by decide +kernel) (by decide +kernel)
theorem m_1008 : (.code yX10_cell cX10_cell 4 (some .int) : Cond) ∈ BIG := inBIG 1008 (by decide +kernel) (by decide +kernel)
theorem m_1014 : (.methodLink RL 26 yX10_kind : Cond) ∈ BIG := inBIG 1014 (by decide +kernel) (by decide +kernel)
theorem m_1015 : (.instanceMethod yX10_kind : Cond) ∈ BIG := inBIG 1015 (by decide +kernel) (by decide +kernel)
theorem m_1016 : (.selects RX10 yX10_kind yX10_kind : Cond) ∈ BIG := inBIG 1016 (by decide +kernel) (by decide +kernel)
theorem m_1017 : (.code yX10_kind cX10_kind 2 (some .int) : Cond) ∈ BIG := inBIG 1017 (by decide +kernel) (by decide +kernel)
theorem m_1018 : (.methodLink RL 30 yX10_law : Cond) ∈ BIG := inBIG 1018 (by decide +kernel) (by decide +kernel)
theorem m_1019 : (.instanceMethod yX10_law : Cond) ∈ BIG := inBIG 1019 (by decide +kernel) (by decide +kernel)
theorem m_1020 : (.selects RX10 yX10_law yX10_law : Cond) ∈ BIG := inBIG 1020 (by decide +kernel) (by decide +kernel)
theorem m_1021 : (.code yX10_law cX10_law 3 (some .int) : Cond) ∈ BIG := inBIG 1021 (by decide +kernel) (by decide +kernel)
theorem m_1022 : (.methodLink RL 34 yX10_range : Cond) ∈ BIG := inBIG 1022 (by decide +kernel) (by decide +kernel)
theorem m_1023 : (.instanceMethod yX10_range : Cond) ∈ BIG := inBIG 1023 (by decide +kernel) (by decide +kernel)
theorem m_1024 : (.selects RX10 yX10_range yX10_range : Cond) ∈ BIG := inBIG 1024 (by decide +kernel) (by decide +kernel)
theorem m_1025 : (.code yX10_range cX10_range 3 (some .int) : Cond) ∈ BIG := inBIG 1025 (by decide +kernel) (by decide +kernel)
theorem m_1026 : (.methodLink RL 38 yX10_far : Cond) ∈ BIG := inBIG 1026 (by decide +kernel) (by decide +kernel)
theorem m_1027 : (.instanceMethod yX10_far : Cond) ∈ BIG := inBIG 1027 (by decide +kernel) (by decide +kernel)
theorem m_1028 : (.selects RX10 yX10_far yX10_far : Cond) ∈ BIG := inBIG 1028 (by decide +kernel) (by decide +kernel)
theorem m_1029 : (.code yX10_far cX10_far 3 (some .int) : Cond) ∈ BIG := inBIG 1029 (by decide +kernel) (by decide +kernel)
theorem m_1042 : (.methodLink RL 42 yX10_sees : Cond) ∈ BIG := inBIG 1042 (by decide +kernel) (by decide +kernel)
theorem m_1043 : (.instanceMethod yX10_sees : Cond) ∈ BIG := inBIG 1043 (by decide +kernel) (by decide +kernel)
theorem m_1044 : (.selects RX10 yX10_sees yX10_sees : Cond) ∈ BIG := inBIG 1044 (by decide +kernel) (by decide +kernel)
theorem m_1045 : (.code yX10_sees cX10_sees 3 (some .int) : Cond) ∈ BIG := inBIG 1045 (by decide +kernel) (by decide +kernel)
theorem m_1068 : (.methodLink RL 46 yX10_view : Cond) ∈ BIG := inBIG 1068 (by decide +kernel) (by decide +kernel)
theorem m_1069 : (.instanceMethod yX10_view : Cond) ∈ BIG := inBIG 1069 (by decide +kernel) (by decide +kernel)
theorem m_1070 : (.selects RX10 yX10_view yX10_view : Cond) ∈ BIG := inBIG 1070 (by decide +kernel) (by decide +kernel)
theorem m_1071 : (.code yX10_view cX10_view 2 (some .int) : Cond) ∈ BIG := inBIG 1071 (by decide +kernel) (by decide +kernel)
theorem m_1076 : (.methodLink RL 51 yX10_best : Cond) ∈ BIG := inBIG 1076 (by decide +kernel) (by decide +kernel)
theorem m_1077 : (.instanceMethod yX10_best : Cond) ∈ BIG := inBIG 1077 (by decide +kernel) (by decide +kernel)
theorem m_1078 : (.selects RX10 yX10_best yX10_best : Cond) ∈ BIG := inBIG 1078 (by decide +kernel) (by decide +kernel)
theorem m_1079 : (.code yX10_best cX10_best 5 (some .int) : Cond) ∈ BIG := inBIG 1079 (by decide +kernel) (by decide +kernel)
theorem m_1080 : (.methodLink RL 55 yX10_picture : Cond) ∈ BIG := inBIG 1080 (by decide +kernel) (by decide +kernel)
theorem m_1081 : (.instanceMethod yX10_picture : Cond) ∈ BIG := inBIG 1081 (by decide +kernel) (by decide +kernel)
theorem m_1082 : (.selects RX10 yX10_picture yX10_picture : Cond) ∈ BIG := inBIG 1082 (by decide +kernel) (by decide +kernel)
theorem m_1083 : (.code yX10_picture cX10_picture 3 (some .int) : Cond) ∈ BIG := inBIG 1083 (by decide +kernel) (by decide +kernel)
theorem m_1084 : (.methodLink RL 59 yX10_about : Cond) ∈ BIG := inBIG 1084 (by decide +kernel) (by decide +kernel)
theorem m_1085 : (.instanceMethod yX10_about : Cond) ∈ BIG := inBIG 1085 (by decide +kernel) (by decide +kernel)
theorem m_1086 : (.selects RX10 yX10_about yX10_about : Cond) ∈ BIG := inBIG 1086 (by decide +kernel) (by decide +kernel)
theorem m_1087 : (.code yX10_about cX10_about 3 (some .int) : Cond) ∈ BIG := inBIG 1087 (by decide +kernel) (by decide +kernel)
theorem m_1092 : (.methodLink RL 63 yX10_seen : Cond) ∈ BIG := inBIG 1092 (by decide +kernel) (by decide +kernel)
theorem m_1093 : (.instanceMethod yX10_seen : Cond) ∈ BIG := inBIG 1093 (by decide +kernel) (by decide +kernel)
theorem m_1094 : (.selects RX10 yX10_seen yX10_seen : Cond) ∈ BIG := inBIG 1094 (by decide +kernel) (by decide +kernel)
theorem m_1095 : (.code yX10_seen cX10_seen 3 (some .int) : Cond) ∈ BIG := inBIG 1095 (by decide +kernel) (by decide +kernel)
theorem m_1100 : (.methodLink RL 67 yX10_from : Cond) ∈ BIG := inBIG 1100 (by decide +kernel) (by decide +kernel)
theorem m_1101 : (.instanceMethod yX10_from : Cond) ∈ BIG := inBIG 1101 (by decide +kernel) (by decide +kernel)
theorem m_1102 : (.selects RX10 yX10_from yX10_from : Cond) ∈ BIG := inBIG 1102 (by decide +kernel) (by decide +kernel)
theorem m_1103 : (.code yX10_from cX10_from 2 (some .int) : Cond) ∈ BIG := inBIG 1103 (by decide +kernel) (by decide +kernel)
theorem m_1108 : (.methodLink RL 71 yX10_fewest : Cond) ∈ BIG := inBIG 1108 (by decide +kernel) (by decide +kernel)
theorem m_1109 : (.instanceMethod yX10_fewest : Cond) ∈ BIG := inBIG 1109 (by decide +kernel) (by decide +kernel)
theorem m_1110 : (.selects RX10 yX10_fewest yX10_fewest : Cond) ∈ BIG := inBIG 1110 (by decide +kernel) (by decide +kernel)
theorem m_1111 : (.code yX10_fewest cX10_fewest 1 (some .int) : Cond) ∈ BIG := inBIG 1111 (by decide +kernel) (by decide +kernel)
theorem m_1121 : (.methodLink RL 75 yX10_post : Cond) ∈ BIG := inBIG 1121 (by decide +kernel) (by decide +kernel)
theorem m_1122 : (.instanceMethod yX10_post : Cond) ∈ BIG := inBIG 1122 (by decide +kernel) (by decide +kernel)
theorem m_1123 : (.selects RX10 yX10_post yX10_post : Cond) ∈ BIG := inBIG 1123 (by decide +kernel) (by decide +kernel)
theorem m_1124 : (.code yX10_post cX10_post 2 (some .int) : Cond) ∈ BIG := inBIG 1124 (by decide +kernel) (by decide +kernel)
theorem m_1125 : (.methodLink RL 79 yX10_tour : Cond) ∈ BIG := inBIG 1125 (by decide +kernel) (by decide +kernel)
theorem m_1126 : (.instanceMethod yX10_tour : Cond) ∈ BIG := inBIG 1126 (by decide +kernel) (by decide +kernel)
theorem m_1127 : (.selects RX10 yX10_tour yX10_tour : Cond) ∈ BIG := inBIG 1127 (by decide +kernel) (by decide +kernel)
theorem m_1128 : (.code yX10_tour cX10_tour 3 (some .int) : Cond) ∈ BIG := inBIG 1128 (by decide +kernel) (by decide +kernel)
theorem m_1137 : (.methodLink RL 83 yX10_tourStep : Cond) ∈ BIG := inBIG 1137 (by decide +kernel) (by decide +kernel)
theorem m_1138 : (.instanceMethod yX10_tourStep : Cond) ∈ BIG := inBIG 1138 (by decide +kernel) (by decide +kernel)
theorem m_1139 : (.selects RX10 yX10_tourStep yX10_tourStep : Cond) ∈ BIG := inBIG 1139 (by decide +kernel) (by decide +kernel)
theorem m_1140 : (.code yX10_tourStep cX10_tourStep 8 (some .int) : Cond) ∈ BIG := inBIG 1140 (by decide +kernel) (by decide +kernel)
theorem m_1145 : (.methodLink RL 87 yX10_step : Cond) ∈ BIG := inBIG 1145 (by decide +kernel) (by decide +kernel)
theorem m_1146 : (.instanceMethod yX10_step : Cond) ∈ BIG := inBIG 1146 (by decide +kernel) (by decide +kernel)
theorem m_1147 : (.selects RX10 yX10_step yX10_step : Cond) ∈ BIG := inBIG 1147 (by decide +kernel) (by decide +kernel)
theorem m_1148 : (.code yX10_step cX10_step 4 (some .int) : Cond) ∈ BIG := inBIG 1148 (by decide +kernel) (by decide +kernel)
theorem m_1156 : (.methodLink RL 91 yX10_wipe : Cond) ∈ BIG := inBIG 1156 (by decide +kernel) (by decide +kernel)
theorem m_1157 : (.instanceMethod yX10_wipe : Cond) ∈ BIG := inBIG 1157 (by decide +kernel) (by decide +kernel)
theorem m_1158 : (.selects RX10 yX10_wipe yX10_wipe : Cond) ∈ BIG := inBIG 1158 (by decide +kernel) (by decide +kernel)
theorem m_1159 : (.code yX10_wipe cX10_wipe 3 (some .int) : Cond) ∈ BIG := inBIG 1159 (by decide +kernel) (by decide +kernel)
theorem m_1160 : (.methodLink RL 95 yX10_closed : Cond) ∈ BIG := inBIG 1160 (by decide +kernel) (by decide +kernel)
theorem m_1161 : (.instanceMethod yX10_closed : Cond) ∈ BIG := inBIG 1161 (by decide +kernel) (by decide +kernel)
theorem m_1162 : (.selects RX10 yX10_closed yX10_closed : Cond) ∈ BIG := inBIG 1162 (by decide +kernel) (by decide +kernel)
theorem m_1163 : (.code yX10_closed cX10_closed 2 (some .int) : Cond) ∈ BIG := inBIG 1163 (by decide +kernel) (by decide +kernel)
theorem m_1164 : (.methodLink RL 99 yX10_shift : Cond) ∈ BIG := inBIG 1164 (by decide +kernel) (by decide +kernel)
theorem m_1165 : (.instanceMethod yX10_shift : Cond) ∈ BIG := inBIG 1165 (by decide +kernel) (by decide +kernel)
theorem m_1166 : (.selects RX10 yX10_shift yX10_shift : Cond) ∈ BIG := inBIG 1166 (by decide +kernel) (by decide +kernel)
theorem m_1167 : (.code yX10_shift cX10_shift 4 (some .int) : Cond) ∈ BIG := inBIG 1167 (by decide +kernel) (by decide +kernel)
theorem m_1169 : (.methodLink RL 103 yX10_where : Cond) ∈ BIG := inBIG 1169 (by decide +kernel) (by decide +kernel)
theorem m_1170 : (.instanceMethod yX10_where : Cond) ∈ BIG := inBIG 1170 (by decide +kernel) (by decide +kernel)
theorem m_1171 : (.selects RX10 yX10_where yX10_where : Cond) ∈ BIG := inBIG 1171 (by decide +kernel) (by decide +kernel)
theorem m_1172 : (.code yX10_where cX10_where 3 (some .int) : Cond) ∈ BIG := inBIG 1172 (by decide +kernel) (by decide +kernel)
theorem m_1178 : (.methodLink RL 107 yX10_watched : Cond) ∈ BIG := inBIG 1178 (by decide +kernel) (by decide +kernel)
theorem m_1179 : (.instanceMethod yX10_watched : Cond) ∈ BIG := inBIG 1179 (by decide +kernel) (by decide +kernel)
theorem m_1180 : (.selects RX10 yX10_watched yX10_watched : Cond) ∈ BIG := inBIG 1180 (by decide +kernel) (by decide +kernel)
theorem m_1181 : (.code yX10_watched cX10_watched 3 (some .int) : Cond) ∈ BIG := inBIG 1181 (by decide +kernel) (by decide +kernel)
theorem m_1186 : (.methodLink RL 111 yX10_period : Cond) ∈ BIG := inBIG 1186 (by decide +kernel) (by decide +kernel)
theorem m_1187 : (.instanceMethod yX10_period : Cond) ∈ BIG := inBIG 1187 (by decide +kernel) (by decide +kernel)
theorem m_1188 : (.selects RX10 yX10_period yX10_period : Cond) ∈ BIG := inBIG 1188 (by decide +kernel) (by decide +kernel)
theorem m_1189 : (.code yX10_period cX10_period 1 (some .int) : Cond) ∈ BIG := inBIG 1189 (by decide +kernel) (by decide +kernel)
theorem m_1197 : (.methodLink RL 115 yX10_gap : Cond) ∈ BIG := inBIG 1197 (by decide +kernel) (by decide +kernel)
theorem m_1198 : (.instanceMethod yX10_gap : Cond) ∈ BIG := inBIG 1198 (by decide +kernel) (by decide +kernel)
theorem m_1199 : (.selects RX10 yX10_gap yX10_gap : Cond) ∈ BIG := inBIG 1199 (by decide +kernel) (by decide +kernel)
theorem m_1200 : (.code yX10_gap cX10_gap 2 (some .int) : Cond) ∈ BIG := inBIG 1200 (by decide +kernel) (by decide +kernel)
theorem m_1209 : (.methodLink RL 119 yX10_worst : Cond) ∈ BIG := inBIG 1209 (by decide +kernel) (by decide +kernel)
theorem m_1210 : (.instanceMethod yX10_worst : Cond) ∈ BIG := inBIG 1210 (by decide +kernel) (by decide +kernel)
theorem m_1211 : (.selects RX10 yX10_worst yX10_worst : Cond) ∈ BIG := inBIG 1211 (by decide +kernel) (by decide +kernel)
theorem m_1212 : (.code yX10_worst cX10_worst 2 (some .int) : Cond) ∈ BIG := inBIG 1212 (by decide +kernel) (by decide +kernel)
theorem m_1217 : (.methodLink RL 123 yX10_arrange : Cond) ∈ BIG := inBIG 1217 (by decide +kernel) (by decide +kernel)
theorem m_1218 : (.instanceMethod yX10_arrange : Cond) ∈ BIG := inBIG 1218 (by decide +kernel) (by decide +kernel)
theorem m_1219 : (.selects RX10 yX10_arrange yX10_arrange : Cond) ∈ BIG := inBIG 1219 (by decide +kernel) (by decide +kernel)
theorem m_1220 : (.code yX10_arrange cX10_arrange 6 (some .int) : Cond) ∈ BIG := inBIG 1220 (by decide +kernel) (by decide +kernel)
theorem m_1226 : (.methodLink RL 128 yX10_theft : Cond) ∈ BIG := inBIG 1226 (by decide +kernel) (by decide +kernel)
theorem m_1227 : (.instanceMethod yX10_theft : Cond) ∈ BIG := inBIG 1227 (by decide +kernel) (by decide +kernel)
theorem m_1228 : (.selects RX10 yX10_theft yX10_theft : Cond) ∈ BIG := inBIG 1228 (by decide +kernel) (by decide +kernel)
theorem m_1229 : (.code yX10_theft cX10_theft 5 (some .int) : Cond) ∈ BIG := inBIG 1229 (by decide +kernel) (by decide +kernel)
theorem m_1254 : (.methodLink RL 133 yX10_theftStep : Cond) ∈ BIG := inBIG 1254 (by decide +kernel) (by decide +kernel)
theorem m_1255 : (.instanceMethod yX10_theftStep : Cond) ∈ BIG := inBIG 1255 (by decide +kernel) (by decide +kernel)
theorem m_1256 : (.selects RX10 yX10_theftStep yX10_theftStep : Cond) ∈ BIG := inBIG 1256 (by decide +kernel) (by decide +kernel)
theorem m_1257 : (.code yX10_theftStep cX10_theftStep 9 (some .int) : Cond) ∈ BIG := inBIG 1257 (by decide +kernel) (by decide +kernel)
theorem m_1262 : (.methodLink RL 137 yX10_hours : Cond) ∈ BIG := inBIG 1262 (by decide +kernel) (by decide +kernel)
theorem m_1263 : (.instanceMethod yX10_hours : Cond) ∈ BIG := inBIG 1263 (by decide +kernel) (by decide +kernel)
theorem m_1264 : (.selects RX10 yX10_hours yX10_hours : Cond) ∈ BIG := inBIG 1264 (by decide +kernel) (by decide +kernel)
theorem m_1265 : (.code yX10_hours cX10_hours 6 (some .int) : Cond) ∈ BIG := inBIG 1265 (by decide +kernel) (by decide +kernel)
theorem m_1266 : (.methodLink RL 141 yX10_turn : Cond) ∈ BIG := inBIG 1266 (by decide +kernel) (by decide +kernel)
theorem m_1267 : (.instanceMethod yX10_turn : Cond) ∈ BIG := inBIG 1267 (by decide +kernel) (by decide +kernel)
theorem m_1268 : (.selects RX10 yX10_turn yX10_turn : Cond) ∈ BIG := inBIG 1268 (by decide +kernel) (by decide +kernel)
theorem m_1269 : (.code yX10_turn cX10_turn 2 (some .int) : Cond) ∈ BIG := inBIG 1269 (by decide +kernel) (by decide +kernel)
theorem m_1274 : (.methodLink RL 145 yX10_mirror : Cond) ∈ BIG := inBIG 1274 (by decide +kernel) (by decide +kernel)
theorem m_1275 : (.instanceMethod yX10_mirror : Cond) ∈ BIG := inBIG 1275 (by decide +kernel) (by decide +kernel)
theorem m_1276 : (.selects RX10 yX10_mirror yX10_mirror : Cond) ∈ BIG := inBIG 1276 (by decide +kernel) (by decide +kernel)
theorem m_1277 : (.code yX10_mirror cX10_mirror 3 (some .int) : Cond) ∈ BIG := inBIG 1277 (by decide +kernel) (by decide +kernel)
theorem m_1282 : (.methodLink RL 149 yX10_count : Cond) ∈ BIG := inBIG 1282 (by decide +kernel) (by decide +kernel)
theorem m_1283 : (.instanceMethod yX10_count : Cond) ∈ BIG := inBIG 1283 (by decide +kernel) (by decide +kernel)
theorem m_1284 : (.selects RX10 yX10_count yX10_count : Cond) ∈ BIG := inBIG 1284 (by decide +kernel) (by decide +kernel)
theorem m_1285 : (.code yX10_count cX10_count 5 (some .int) : Cond) ∈ BIG := inBIG 1285 (by decide +kernel) (by decide +kernel)
theorem gd_RL_13 {Ts : List Cond} (hB : ∀ w ∈ BIG, w ∈ Ts) : GoodIn Ts (wsV RL 13 RX9 yX9_hall wsX9_hall) := gdV hB m_328 m_329 m_330 m_59 m_331
theorem gd_RL_17 {Ts : List Cond} (hB : ∀ w ∈ BIG, w ∈ Ts) : GoodIn Ts (wsV RL 17 RX10 yX10_hall wsX10_hall) := gdV hB m_996 m_997 m_998 m_70 m_999
theorem gd_RL_18 {Ts : List Cond} (hB : ∀ w ∈ BIG, w ∈ Ts) : GoodIn Ts (wsV RL 18 RX9 yX9_cell wsX9_cell) := gdV hB m_349 m_350 m_351 m_59 m_352
theorem gd_RL_21 {Ts : List Cond} (hB : ∀ w ∈ BIG, w ∈ Ts) : GoodIn Ts (wsV RL 21 RX10 yX10_cell wsX10_cell) := gdV hB m_1005 m_1006 m_1007 m_70 m_1008
theorem gd_RL_22 {Ts : List Cond} (hB : ∀ w ∈ BIG, w ∈ Ts) : GoodIn Ts (wsV RL 22 RX9 yX9_kind wsX9_kind) := gdV hB m_365 m_366 m_367 m_59 m_368
theorem gd_RL_26 {Ts : List Cond} (hB : ∀ w ∈ BIG, w ∈ Ts) : GoodIn Ts (wsV RL 26 RX10 yX10_kind wsX10_kind) := gdV hB m_1014 m_1015 m_1016 m_70 m_1017
theorem gd_RL_27 {Ts : List Cond} (hB : ∀ w ∈ BIG, w ∈ Ts) : GoodIn Ts (wsV RL 27 RX9 yX9_law wsX9_law) := gdV hB m_369 m_370 m_371 m_59 m_372
theorem gd_RL_30 {Ts : List Cond} (hB : ∀ w ∈ BIG, w ∈ Ts) : GoodIn Ts (wsV RL 30 RX10 yX10_law wsX10_law) := gdV hB m_1018 m_1019 m_1020 m_70 m_1021
theorem gd_RL_31 {Ts : List Cond} (hB : ∀ w ∈ BIG, w ∈ Ts) : GoodIn Ts (wsV RL 31 RX9 yX9_range wsX9_range) := gdV hB m_377 m_378 m_379 m_59 m_380
theorem gd_RL_34 {Ts : List Cond} (hB : ∀ w ∈ BIG, w ∈ Ts) : GoodIn Ts (wsV RL 34 RX10 yX10_range wsX10_range) := gdV hB m_1022 m_1023 m_1024 m_70 m_1025
theorem gd_RL_35 {Ts : List Cond} (hB : ∀ w ∈ BIG, w ∈ Ts) : GoodIn Ts (wsV RL 35 RX9 yX9_far wsX9_far) := gdV hB m_385 m_386 m_387 m_59 m_388
theorem gd_RL_38 {Ts : List Cond} (hB : ∀ w ∈ BIG, w ∈ Ts) : GoodIn Ts (wsV RL 38 RX10 yX10_far wsX10_far) := gdV hB m_1026 m_1027 m_1028 m_70 m_1029
theorem gd_RL_39 {Ts : List Cond} (hB : ∀ w ∈ BIG, w ∈ Ts) : GoodIn Ts (wsV RL 39 RX9 yX9_sees wsX9_sees) := gdV hB m_401 m_402 m_403 m_59 m_404
theorem gd_RL_42 {Ts : List Cond} (hB : ∀ w ∈ BIG, w ∈ Ts) : GoodIn Ts (wsV RL 42 RX10 yX10_sees wsX10_sees) := gdV hB m_1042 m_1043 m_1044 m_70 m_1045
theorem gd_RL_43 {Ts : List Cond} (hB : ∀ w ∈ BIG, w ∈ Ts) : GoodIn Ts (wsV RL 43 RX9 yX9_view wsX9_view) := gdV hB m_449 m_450 m_451 m_59 m_452
theorem gd_RL_46 {Ts : List Cond} (hB : ∀ w ∈ BIG, w ∈ Ts) : GoodIn Ts (wsV RL 46 RX10 yX10_view wsX10_view) := gdV hB m_1068 m_1069 m_1070 m_70 m_1071
theorem gd_RL_47 {Ts : List Cond} (hB : ∀ w ∈ BIG, w ∈ Ts) : GoodIn Ts (wsV RL 47 RX9 yX9_best wsX9_best) := gdV hB m_465 m_466 m_467 m_59 m_468
theorem gd_RL_51 {Ts : List Cond} (hB : ∀ w ∈ BIG, w ∈ Ts) : GoodIn Ts (wsV RL 51 RX10 yX10_best wsX10_best) := gdV hB m_1076 m_1077 m_1078 m_70 m_1079
theorem gd_RL_52 {Ts : List Cond} (hB : ∀ w ∈ BIG, w ∈ Ts) : GoodIn Ts (wsV RL 52 RX9 yX9_picture wsX9_picture) := gdV hB m_469 m_470 m_471 m_59 m_472
theorem gd_RL_55 {Ts : List Cond} (hB : ∀ w ∈ BIG, w ∈ Ts) : GoodIn Ts (wsV RL 55 RX10 yX10_picture wsX10_picture) := gdV hB m_1080 m_1081 m_1082 m_70 m_1083
theorem gd_RL_56 {Ts : List Cond} (hB : ∀ w ∈ BIG, w ∈ Ts) : GoodIn Ts (wsV RL 56 RX9 yX9_about wsX9_about) := gdV hB m_478 m_479 m_480 m_59 m_481
theorem gd_RL_59 {Ts : List Cond} (hB : ∀ w ∈ BIG, w ∈ Ts) : GoodIn Ts (wsV RL 59 RX10 yX10_about wsX10_about) := gdV hB m_1084 m_1085 m_1086 m_70 m_1087
theorem gd_RL_60 {Ts : List Cond} (hB : ∀ w ∈ BIG, w ∈ Ts) : GoodIn Ts (wsV RL 60 RX9 yX9_seen wsX9_seen) := gdV hB m_494 m_495 m_496 m_59 m_497
theorem gd_RL_63 {Ts : List Cond} (hB : ∀ w ∈ BIG, w ∈ Ts) : GoodIn Ts (wsV RL 63 RX10 yX10_seen wsX10_seen) := gdV hB m_1092 m_1093 m_1094 m_70 m_1095
theorem gd_RL_64 {Ts : List Cond} (hB : ∀ w ∈ BIG, w ∈ Ts) : GoodIn Ts (wsV RL 64 RX9 yX9_from wsX9_from) := gdV hB m_513 m_514 m_515 m_59 m_516
theorem gd_RL_67 {Ts : List Cond} (hB : ∀ w ∈ BIG, w ∈ Ts) : GoodIn Ts (wsV RL 67 RX10 yX10_from wsX10_from) := gdV hB m_1100 m_1101 m_1102 m_70 m_1103
theorem gd_RL_68 {Ts : List Cond} (hB : ∀ w ∈ BIG, w ∈ Ts) : GoodIn Ts (wsV RL 68 RX9 yX9_fewest wsX9_fewest) := gdV hB m_522 m_523 m_524 m_59 m_525
theorem gd_RL_71 {Ts : List Cond} (hB : ∀ w ∈ BIG, w ∈ Ts) : GoodIn Ts (wsV RL 71 RX10 yX10_fewest wsX10_fewest) := gdV hB m_1108 m_1109 m_1110 m_70 m_1111
theorem gd_RL_72 {Ts : List Cond} (hB : ∀ w ∈ BIG, w ∈ Ts) : GoodIn Ts (wsV RL 72 RX9 yX9_post wsX9_post) := gdV hB m_554 m_555 m_556 m_59 m_557
theorem gd_RL_75 {Ts : List Cond} (hB : ∀ w ∈ BIG, w ∈ Ts) : GoodIn Ts (wsV RL 75 RX10 yX10_post wsX10_post) := gdV hB m_1121 m_1122 m_1123 m_70 m_1124
theorem gd_RL_76 {Ts : List Cond} (hB : ∀ w ∈ BIG, w ∈ Ts) : GoodIn Ts (wsV RL 76 RX9 yX9_tour wsX9_tour) := gdV hB m_567 m_568 m_569 m_59 m_570
theorem gd_RL_79 {Ts : List Cond} (hB : ∀ w ∈ BIG, w ∈ Ts) : GoodIn Ts (wsV RL 79 RX10 yX10_tour wsX10_tour) := gdV hB m_1125 m_1126 m_1127 m_70 m_1128
theorem gd_RL_80 {Ts : List Cond} (hB : ∀ w ∈ BIG, w ∈ Ts) : GoodIn Ts (wsV RL 80 RX9 yX9_tourStep wsX9_tourStep) := gdV hB m_621 m_622 m_623 m_59 m_624
theorem gd_RL_83 {Ts : List Cond} (hB : ∀ w ∈ BIG, w ∈ Ts) : GoodIn Ts (wsV RL 83 RX10 yX10_tourStep wsX10_tourStep) := gdV hB m_1137 m_1138 m_1139 m_70 m_1140
theorem gd_RL_84 {Ts : List Cond} (hB : ∀ w ∈ BIG, w ∈ Ts) : GoodIn Ts (wsV RL 84 RX9 yX9_step wsX9_step) := gdV hB m_638 m_639 m_640 m_59 m_641
theorem gd_RL_87 {Ts : List Cond} (hB : ∀ w ∈ BIG, w ∈ Ts) : GoodIn Ts (wsV RL 87 RX10 yX10_step wsX10_step) := gdV hB m_1145 m_1146 m_1147 m_70 m_1148
theorem gd_RL_88 {Ts : List Cond} (hB : ∀ w ∈ BIG, w ∈ Ts) : GoodIn Ts (wsV RL 88 RX9 yX9_wipe wsX9_wipe) := gdV hB m_662 m_663 m_664 m_59 m_665
theorem gd_RL_91 {Ts : List Cond} (hB : ∀ w ∈ BIG, w ∈ Ts) : GoodIn Ts (wsV RL 91 RX10 yX10_wipe wsX10_wipe) := gdV hB m_1156 m_1157 m_1158 m_70 m_1159
theorem gd_RL_92 {Ts : List Cond} (hB : ∀ w ∈ BIG, w ∈ Ts) : GoodIn Ts (wsV RL 92 RX9 yX9_closed wsX9_closed) := gdV hB m_670 m_671 m_672 m_59 m_673
theorem gd_RL_95 {Ts : List Cond} (hB : ∀ w ∈ BIG, w ∈ Ts) : GoodIn Ts (wsV RL 95 RX10 yX10_closed wsX10_closed) := gdV hB m_1160 m_1161 m_1162 m_70 m_1163
theorem gd_RL_96 {Ts : List Cond} (hB : ∀ w ∈ BIG, w ∈ Ts) : GoodIn Ts (wsV RL 96 RX9 yX9_shift wsX9_shift) := gdV hB m_678 m_679 m_680 m_59 m_681
theorem gd_RL_99 {Ts : List Cond} (hB : ∀ w ∈ BIG, w ∈ Ts) : GoodIn Ts (wsV RL 99 RX10 yX10_shift wsX10_shift) := gdV hB m_1164 m_1165 m_1166 m_70 m_1167
theorem gd_RL_100 {Ts : List Cond} (hB : ∀ w ∈ BIG, w ∈ Ts) : GoodIn Ts (wsV RL 100 RX9 yX9_where wsX9_where) := gdV hB m_690 m_691 m_692 m_59 m_693
theorem gd_RL_103 {Ts : List Cond} (hB : ∀ w ∈ BIG, w ∈ Ts) : GoodIn Ts (wsV RL 103 RX10 yX10_where wsX10_where) := gdV hB m_1169 m_1170 m_1171 m_70 m_1172
theorem gd_RL_104 {Ts : List Cond} (hB : ∀ w ∈ BIG, w ∈ Ts) : GoodIn Ts (wsV RL 104 RX9 yX9_watched wsX9_watched) := gdV hB m_701 m_702 m_703 m_59 m_704
theorem gd_RL_107 {Ts : List Cond} (hB : ∀ w ∈ BIG, w ∈ Ts) : GoodIn Ts (wsV RL 107 RX10 yX10_watched wsX10_watched) := gdV hB m_1178 m_1179 m_1180 m_70 m_1181
theorem gd_RL_108 {Ts : List Cond} (hB : ∀ w ∈ BIG, w ∈ Ts) : GoodIn Ts (wsV RL 108 RX9 yX9_period wsX9_period) := gdV hB m_705 m_706 m_707 m_59 m_708
theorem gd_RL_111 {Ts : List Cond} (hB : ∀ w ∈ BIG, w ∈ Ts) : GoodIn Ts (wsV RL 111 RX10 yX10_period wsX10_period) := gdV hB m_1186 m_1187 m_1188 m_70 m_1189
theorem gd_RL_112 {Ts : List Cond} (hB : ∀ w ∈ BIG, w ∈ Ts) : GoodIn Ts (wsV RL 112 RX9 yX9_gap wsX9_gap) := gdV hB m_717 m_718 m_719 m_59 m_720
theorem gd_RL_115 {Ts : List Cond} (hB : ∀ w ∈ BIG, w ∈ Ts) : GoodIn Ts (wsV RL 115 RX10 yX10_gap wsX10_gap) := gdV hB m_1197 m_1198 m_1199 m_70 m_1200
theorem gd_RL_116 {Ts : List Cond} (hB : ∀ w ∈ BIG, w ∈ Ts) : GoodIn Ts (wsV RL 116 RX9 yX9_worst wsX9_worst) := gdV hB m_754 m_755 m_756 m_59 m_757
theorem gd_RL_119 {Ts : List Cond} (hB : ∀ w ∈ BIG, w ∈ Ts) : GoodIn Ts (wsV RL 119 RX10 yX10_worst wsX10_worst) := gdV hB m_1209 m_1210 m_1211 m_70 m_1212
theorem gd_RL_120 {Ts : List Cond} (hB : ∀ w ∈ BIG, w ∈ Ts) : GoodIn Ts (wsV RL 120 RX9 yX9_arrange wsX9_arrange) := gdV hB m_764 m_765 m_766 m_59 m_767
theorem gd_RL_123 {Ts : List Cond} (hB : ∀ w ∈ BIG, w ∈ Ts) : GoodIn Ts (wsV RL 123 RX10 yX10_arrange wsX10_arrange) := gdV hB m_1217 m_1218 m_1219 m_70 m_1220
theorem gd_RL_124 {Ts : List Cond} (hB : ∀ w ∈ BIG, w ∈ Ts) : GoodIn Ts (wsV RL 124 RX9 yX9_theft wsX9_theft) := gdV hB m_786 m_787 m_788 m_59 m_789
theorem gd_RL_128 {Ts : List Cond} (hB : ∀ w ∈ BIG, w ∈ Ts) : GoodIn Ts (wsV RL 128 RX10 yX10_theft wsX10_theft) := gdV hB m_1226 m_1227 m_1228 m_70 m_1229
theorem gd_RL_129 {Ts : List Cond} (hB : ∀ w ∈ BIG, w ∈ Ts) : GoodIn Ts (wsV RL 129 RX9 yX9_theftStep wsX9_theftStep) := gdV hB m_837 m_838 m_839 m_59 m_840
theorem gd_RL_133 {Ts : List Cond} (hB : ∀ w ∈ BIG, w ∈ Ts) : GoodIn Ts (wsV RL 133 RX10 yX10_theftStep wsX10_theftStep) := gdV hB m_1254 m_1255 m_1256 m_70 m_1257
theorem gd_RL_134 {Ts : List Cond} (hB : ∀ w ∈ BIG, w ∈ Ts) : GoodIn Ts (wsV RL 134 RX9 yX9_hours wsX9_hours) := gdV hB m_846 m_847 m_848 m_59 m_849
theorem gd_RL_137 {Ts : List Cond} (hB : ∀ w ∈ BIG, w ∈ Ts) : GoodIn Ts (wsV RL 137 RX10 yX10_hours wsX10_hours) := gdV hB m_1262 m_1263 m_1264 m_70 m_1265
theorem gd_RL_138 {Ts : List Cond} (hB : ∀ w ∈ BIG, w ∈ Ts) : GoodIn Ts (wsV RL 138 RX9 yX9_turn wsX9_turn) := gdV hB m_863 m_864 m_865 m_59 m_866
theorem gd_RL_141 {Ts : List Cond} (hB : ∀ w ∈ BIG, w ∈ Ts) : GoodIn Ts (wsV RL 141 RX10 yX10_turn wsX10_turn) := gdV hB m_1266 m_1267 m_1268 m_70 m_1269
theorem gd_RL_142 {Ts : List Cond} (hB : ∀ w ∈ BIG, w ∈ Ts) : GoodIn Ts (wsV RL 142 RX9 yX9_mirror wsX9_mirror) := gdV hB m_898 m_899 m_900 m_59 m_901
theorem gd_RL_145 {Ts : List Cond} (hB : ∀ w ∈ BIG, w ∈ Ts) : GoodIn Ts (wsV RL 145 RX10 yX10_mirror wsX10_mirror) := gdV hB m_1274 m_1275 m_1276 m_70 m_1277
theorem gd_RL_146 {Ts : List Cond} (hB : ∀ w ∈ BIG, w ∈ Ts) : GoodIn Ts (wsV RL 146 RX9 yX9_count wsX9_count) := gdV hB m_910 m_911 m_912 m_59 m_913
theorem gd_RL_149 {Ts : List Cond} (hB : ∀ w ∈ BIG, w ∈ Ts) : GoodIn Ts (wsV RL 149 RX10 yX10_count wsX10_count) := gdV hB m_1282 m_1283 m_1284 m_70 m_1285
theorem gw_X9_init {Ts : List Cond} (hB : ∀ w ∈ BIG, w ∈ Ts) : GoodIn Ts wsX9_init := gdW hB m_78
theorem gw_X10_init {Ts : List Cond} (hB : ∀ w ∈ BIG, w ∈ Ts) : GoodIn Ts wsX10_init := gdW hB m_924
