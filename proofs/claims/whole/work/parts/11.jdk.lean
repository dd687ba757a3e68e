theorem Met_ofWF {l : Launch} {y : MethodName} {ws ws' : List Cond} {rm : Room} {Pc : Array Value → State → Prop} {Qc : Array Value → State → Outcome → State → Prop} {mc ms : Nat} {free : Addr → Prop} {cc : ByteArray} {maxL : Nat} {ret : Option FieldType}
    (hy : plainFor y = true) (hw : ws = Cond.code y cc maxL ret :: ws')
    (body : ∀ p e s m args below meth c s₁, BodyLoose p l y (headSpec ws rm) cc maxL ret e s m args below meth c s₁ → c.maxLocals = maxL → Pc args s →
      W p l e (headSpec ws rm).room s m args below meth c s.heap [] 0 0 (MQ below Qc args s mc ms free) (entryFrame m args maxL)) : Met l y ws rm Pc Qc mc ms free := by
  refine MetFree.of_bodySF (code := cc) (maxLocals := maxL) (ret := ret) hy ?_ ?_
  · intro args s m h hn
    obtain ⟨meth, c, h1, h2, h3, h4, h5, h6, -, -⟩ := Cond.code_spec hn (atoms_spec (ws := ws) h _ (by rw [hw]; exact List.mem_cons_self))
    exact ⟨meth, c, h1, h2, h3, h4, h5, h6⟩
  · intro p e s m args below meth c s₁ B hml hP _
    have hh0 : s₁.heap = s.heap := by rw [B.state]; rfl
    obtain ⟨t, a1, o, b1, b2, b3⟩ := body p e s m args below meth c s₁ B hml hP s₁ hh0 (Stand.of_body B)
    exact ⟨t, o, a1, b1, b2, ⟨b3.1, b3.2⟩⟩
def filli (n : Nat) (x : Int32) (f : Nat → Int32) : Nat → Int32 := fun j => if j < n then x else f j
def filll (n : Nat) (x : Int64) (f : Nat → Int64) : Nat → Int64 := fun j => if j < n then x else f j
theorem filli_0 (x : Int32) (f : Nat → Int32) : filli 0 x f = f := by funext j; simp [filli]
theorem filll_0 (x : Int64) (f : Nat → Int64) : filll 0 x f = f := by funext j; simp [filll]
theorem filli_s (i : Nat) (x : Int32) (f : Nat → Int32) : upd (filli i x f) i x = filli (i + 1) x f := by
  funext j
  simp only [upd, filli]
  by_cases h : j = i
  · subst h; simp
  · by_cases h2 : j < i
    · rw [if_neg h, if_pos h2, if_pos (by omega)]
    · rw [if_neg h, if_neg h2, if_neg (by omega)]
theorem filll_s (i : Nat) (x : Int64) (f : Nat → Int64) : vp_updL (filll i x f) i x = filll (i + 1) x f := by
  funext j
  simp only [vp_updL, filll]
  by_cases h : j = i
  · subst h; simp
  · by_cases h2 : j < i
    · rw [if_neg h, if_pos h2, if_pos (by omega)]
    · rw [if_neg h, if_neg h2, if_neg (by omega)]
theorem fl_same {α : Type} {w : List α} {q : Nat} {a : α} (h : w[q]? = some a) : w.set q a = w := by
  apply List.ext_getElem?
  intro i
  rw [List.getElem?_set]
  by_cases e : q = i
  · subst e
    have hl : q < w.length := (List.getElem?_eq_some_iff.mp h).1
    rw [if_pos rfl, if_pos hl, h]
  · rw [if_neg e]
theorem fl_get {α : Type} {w : List α} {q : Nat} {a b : α} (h : w[q]? = some a) : (w.set q b)[q]? = some b := by
  have hl : q < w.length := (List.getElem?_eq_some_iff.mp h).1
  rw [List.getElem?_set, if_pos rfl, if_pos hl]
def rm_fill : Room := { frames := 0, cells := 0, slots := 0, locals := 0 }
set_option maxHeartbeats 4000000 in
set_option maxRecDepth 100000 in
theorem c_fill_i {l : Launch} {D : va_G} {cI cL cZ : ClassId} {mx my : Nat} {A : Nat → Prop} {w : va_W} {q0 a n : Nat} {f : Nat → Int32} (x : Int32) (hq : w[q0]? = some (a, .inl (cI, n, .inl f))) (hn : n < 2 ^ 31) : Met l yJ7_fill_53178 wsJ7_fill_53178 rm_fill (va_Pc [.ref a, .int x] (WC D cI cL cZ mx my A w)) (va_Qv (fun (_ : Unit) => True) (fun (_ : Unit) t => PW D A (w.set q0 (a, .inl (cI, n, .inl (filli n x f)))) t.heap) A) 0 0 A := by
  refine Met.ofW (cc := cJ7_fill_53178) (maxL := 4) (ret := none) (by decide) rfl ?_
  intro p e s m args below meth c s₁ B hml hv
  obtain ⟨hav, hP0, hD0, hK⟩ := hv
  have hx := B.exec
  have hb := B.bytes
  have hr := B.returns
  have hlocks := B.notSynchronized
  obtain ⟨Z, hZ⟩ : ∃ Z : State → Prop, Z = MQ below (va_Qv (fun (_ : Unit) => True) (fun (_ : Unit) t => PW D A (w.set q0 (a, .inl (cI, n, .inl (filli n x f)))) t.heap) A) args s 0 0 A := ⟨_, rfl⟩
  rw [← hZ]
  have hw : SW D A s.heap (w.set q0 (a, .inl (cI, n, .inl (filli 0 x f)))) s.heap [] := by
    rw [filli_0, fl_same hq]; exact ⟨hP0, hD0, va_S.rf⟩
  clear hP0 hD0 B
  have J5 : ∀ (k i : Nat), i + k = n → ∀ (H : Heap) (locs : List Loc) (ls : Array Slot), SW D A s.heap (w.set q0 (a, .inl (cI, n, .inl (filli i x f)))) H locs → lv_has ls 4 [(0, .ref a), (1, .int x), (2, .int (nI i)), (3, .int (nI n))] → W p l e (headSpec wsJ7_fill_53178 rm_fill).room s m args below meth c H locs 0 0 Z (F0 m 5 ls []) := by
    intro k
    induction k with
    | zero =>
      intro i hi H locs ls hw hl
      refine lv_iload_n hx hb dJ7_fill_53178_5 rfl (lv_at hl 2 rfl) ?_
      refine lv_iload_n hx hb dJ7_fill_53178_6 rfl (lv_at hl 3 rfl) ?_
      refine lv_icmp_ge (tgt := 20) hx hb dJ7_fill_53178_7 (by decide) (fun hc => ?_) (fun hc => ?_)
      · rw [hZ]
        have e1 : i = n := by omega
        subst e1
        exact rt_v () hx hb hr hlocks hw trivial dJ7_fill_53178_20
      · exact absurd (nI_le (by omega) (by omega)) hc
    | succ k ih =>
      intro i hi H locs ls hw hl
      refine lv_iload_n hx hb dJ7_fill_53178_5 rfl (lv_at hl 2 rfl) ?_
      refine lv_iload_n hx hb dJ7_fill_53178_6 rfl (lv_at hl 3 rfl) ?_
      refine lv_icmp_ge (tgt := 20) hx hb dJ7_fill_53178_7 (by decide) (fun hc => ?_) (fun hc => ?_)
      · exact absurd hc (nI_ge (by omega) hn)
      · refine lv_aload_n hx hb dJ7_fill_53178_10 rfl (lv_at hl 0 rfl) ?_
        refine lv_iload_n hx hb dJ7_fill_53178_11 rfl (lv_at hl 2 rfl) ?_
        refine lv_iload_n hx hb dJ7_fill_53178_12 rfl (lv_at hl 1 rfl) ?_
        refine va_iast hx hb hK.1 hw.1 hw.2.1 hw.2.2 q0 0 (fl_get hq) rfl (vp_in_nI (by omega) hn) dJ7_fill_53178_13 (fun H locs h1 h2 h3 => ?_)
        rw [List.set_set, nI_clamp (by omega), filli_s] at h1 h2
        refine lv_iinc (v := nI (i + 1)) (lv' := [(2, .int (nI (i + 1))), (0, .ref a), (1, .int x), (3, .int (nI n))]) hx hb dJ7_fill_53178_14 hl (k := 2) rfl (nI_succ i).symm (by decide) rfl (fun ls hl => ?_)
        refine lv_goto (tgt := 5) hx hb dJ7_fill_53178_17 (by decide) ?_
        exact ih (i + 1) (by omega) _ _ _ ⟨h1, h2, h3⟩ (lv_sub hl [1, 2, 0, 3] rfl)
  have he : entryFrame m args 4 = entryFrame m ([.ref a, .int x] : List Value).toArray 4 := by rw [hav]
  refine W.eq he ?_
  have hl := lv_entry ([.ref a, .int x]) (n := 4) (Nat.le_of_ble_eq_true rfl)
  rw [lg_entry_eq]
  generalize (lg_sl ([.ref a, .int x]) ++ List.replicate (4 - (lg_sl ([.ref a, .int x])).length) Slot.unset).toArray = ls at hl ⊢
  have hl : lv_has ls 4 [(0, .ref a), (1, .int x)] := hl
  refine lv_iconst (v := 0) hx hb dJ7_fill_53178_0 (by decide) ?_
  refine lv_istore_n (lv' := [(2, .int 0), (0, .ref a), (1, .int x)]) hx hb dJ7_fill_53178_1 rfl hl (by decide) rfl (fun ls hl => ?_)
  refine lv_aload_n hx hb dJ7_fill_53178_2 rfl (lv_at hl 1 rfl) ?_
  refine va_alen (v := nI n) hx hb hK.1 hw.1 q0 0 (fl_get hq) rfl rfl dJ7_fill_53178_3 ?_
  refine lv_istore_n (lv' := [(3, .int (nI n)), (2, .int 0), (0, .ref a), (1, .int x)]) hx hb dJ7_fill_53178_4 rfl hl (by decide) rfl (fun ls hl => ?_)
  exact J5 n 0 (by omega) _ _ _ hw (by rw [nI_0]; exact lv_sub hl [2, 3, 1, 0] rfl)
set_option maxHeartbeats 4000000 in
set_option maxRecDepth 100000 in
theorem c_fill_l {l : Launch} {D : va_G} {cI cL cZ : ClassId} {mx my : Nat} {A : Nat → Prop} {w : va_W} {q0 a n : Nat} {f : Nat → Int64} (x : Int64) (hq : w[q0]? = some (a, .inl (cL, n, .inr (.inl f)))) (hn : n < 2 ^ 31) : Met l yJ7_fill_d0a16 wsJ7_fill_d0a16 rm_fill (va_Pc [.ref a, .long x] (WC D cI cL cZ mx my A w)) (va_Qv (fun (_ : Unit) => True) (fun (_ : Unit) t => PW D A (w.set q0 (a, .inl (cL, n, .inr (.inl (filll n x f))))) t.heap) A) 0 0 A := by
  refine Met.ofW (cc := cJ7_fill_d0a16) (maxL := 5) (ret := none) (by decide) rfl ?_
  intro p e s m args below meth c s₁ B hml hv
  obtain ⟨hav, hP0, hD0, hK⟩ := hv
  have hx := B.exec
  have hb := B.bytes
  have hr := B.returns
  have hlocks := B.notSynchronized
  obtain ⟨Z, hZ⟩ : ∃ Z : State → Prop, Z = MQ below (va_Qv (fun (_ : Unit) => True) (fun (_ : Unit) t => PW D A (w.set q0 (a, .inl (cL, n, .inr (.inl (filll n x f))))) t.heap) A) args s 0 0 A := ⟨_, rfl⟩
  rw [← hZ]
  have hw : SW D A s.heap (w.set q0 (a, .inl (cL, n, .inr (.inl (filll 0 x f))))) s.heap [] := by
    rw [filll_0, fl_same hq]; exact ⟨hP0, hD0, va_S.rf⟩
  clear hP0 hD0 B
  have J6 : ∀ (k i : Nat), i + k = n → ∀ (H : Heap) (locs : List Loc) (ls : Array Slot), SW D A s.heap (w.set q0 (a, .inl (cL, n, .inr (.inl (filll i x f))))) H locs → lv_has ls 5 [(0, .ref a), (1, .long x), (3, .int (nI i)), (4, .int (nI n))] → W p l e (headSpec wsJ7_fill_d0a16 rm_fill).room s m args below meth c H locs 0 0 Z (F0 m 6 ls []) := by
    intro k
    induction k with
    | zero =>
      intro i hi H locs ls hw hl
      refine lv_iload_n hx hb dJ7_fill_d0a16_6 rfl (lv_at hl 2 rfl) ?_
      refine lv_iload hx hb dJ7_fill_d0a16_7 (lv_at hl 3 rfl) ?_
      refine lv_icmp_ge (tgt := 22) hx hb dJ7_fill_d0a16_9 (by decide) (fun hc => ?_) (fun hc => ?_)
      · rw [hZ]
        have e1 : i = n := by omega
        subst e1
        exact rt_v () hx hb hr hlocks hw trivial dJ7_fill_d0a16_22
      · exact absurd (nI_le (by omega) (by omega)) hc
    | succ k ih =>
      intro i hi H locs ls hw hl
      refine lv_iload_n hx hb dJ7_fill_d0a16_6 rfl (lv_at hl 2 rfl) ?_
      refine lv_iload hx hb dJ7_fill_d0a16_7 (lv_at hl 3 rfl) ?_
      refine lv_icmp_ge (tgt := 22) hx hb dJ7_fill_d0a16_9 (by decide) (fun hc => ?_) (fun hc => ?_)
      · exact absurd hc (nI_ge (by omega) hn)
      · refine lv_aload_n hx hb dJ7_fill_d0a16_12 rfl (lv_at hl 0 rfl) ?_
        refine lv_iload_n hx hb dJ7_fill_d0a16_13 rfl (lv_at hl 2 rfl) ?_
        refine lv_lload_n hx hb dJ7_fill_d0a16_14 rfl (lv_at hl 1 rfl) ?_
        refine va_last hx hb hK.1 hw.1 hw.2.1 hw.2.2 q0 1 (fl_get hq) rfl (vp_in_nI (by omega) hn) dJ7_fill_d0a16_15 (fun H locs h1 h2 h3 => ?_)
        rw [List.set_set, nI_clamp (by omega), filll_s] at h1 h2
        refine lv_iinc (v := nI (i + 1)) (lv' := [(3, .int (nI (i + 1))), (0, .ref a), (1, .long x), (4, .int (nI n))]) hx hb dJ7_fill_d0a16_16 hl (k := 2) rfl (nI_succ i).symm (by decide) rfl (fun ls hl => ?_)
        refine lv_goto (tgt := 6) hx hb dJ7_fill_d0a16_19 (by decide) ?_
        exact ih (i + 1) (by omega) _ _ _ ⟨h1, h2, h3⟩ (lv_sub hl [1, 2, 0, 3] rfl)
  have he : entryFrame m args 5 = entryFrame m ([.ref a, .long x] : List Value).toArray 5 := by rw [hav]
  refine W.eq he ?_
  have hl := lv_entry ([.ref a, .long x]) (n := 5) (Nat.le_of_ble_eq_true rfl)
  rw [lg_entry_eq]
  generalize (lg_sl ([.ref a, .long x]) ++ List.replicate (5 - (lg_sl ([.ref a, .long x])).length) Slot.unset).toArray = ls at hl ⊢
  have hl : lv_has ls 5 [(0, .ref a), (1, .long x)] := hl
  refine lv_iconst (v := 0) hx hb dJ7_fill_d0a16_0 (by decide) ?_
  refine lv_istore_n (lv' := [(3, .int 0), (0, .ref a), (1, .long x)]) hx hb dJ7_fill_d0a16_1 rfl hl (by decide) rfl (fun ls hl => ?_)
  refine lv_aload_n hx hb dJ7_fill_d0a16_2 rfl (lv_at hl 1 rfl) ?_
  refine va_alen (v := nI n) hx hb hK.1 hw.1 q0 1 (fl_get hq) rfl rfl dJ7_fill_d0a16_3 ?_
  refine lv_istore (lv' := [(4, .int (nI n)), (3, .int 0), (0, .ref a), (1, .long x)]) hx hb dJ7_fill_d0a16_4 hl (by decide) rfl (fun ls hl => ?_)
  exact J6 n 0 (by omega) _ _ _ hw (by rw [nI_0]; exact lv_sub hl [2, 3, 1, 0] rfl)
