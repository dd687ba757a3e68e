def rm_mo_put : Room := { frames := 0, cells := 0, slots := 0, locals := 0 }
set_option maxHeartbeats 4000000 in
set_option maxRecDepth 100000 in
theorem c_mo_put {l : Launch} {D : va_G} {cI cL cZ : ClassId} {mx my : Nat} {A : Nat → Prop} {ad : Nat → Nat} {mo_wide mo_tall mo_law mo_range mo_pictures mo_postMany : Int32} {mo_kind mo_queue mo_far mo_pictureCell mo_facing mo_sights mo_fewest mo_posts mo_left mo_roundMany mo_round mo_shift mo_thief mo_danger mo_old : Nat → Int32} (x1 : Int32) (x2 : Int32) (x3 : Int32) (x4 : Int32) {Q : Int32 → (Nat → Int32) → (Nat → Int32) → Prop} (h : P_mo_put mo_queue mo_thief x1 x2 x3 x4 Q) : Met l yX10_put wsX10_put rm_mo_put (va_Pc [.ref (ad 0), .int x1, .int x2, .int x3, .int x4] (WC D cI cL cZ mx my A (wdM cI cL cZ ad mo_wide mo_tall mo_kind mo_law mo_range mo_queue mo_far mo_pictures mo_pictureCell mo_facing mo_sights mo_fewest mo_posts mo_postMany mo_left mo_roundMany mo_round mo_shift mo_thief mo_danger mo_old))) (va_Qi (fun (r : Int32) (u : (Nat → Int32) × (Nat → Int32)) => Q r u.1 u.2) (fun (u : (Nat → Int32) × (Nat → Int32)) t => PW D A (wdM cI cL cZ ad mo_wide mo_tall mo_kind mo_law mo_range u.1 mo_far mo_pictures mo_pictureCell mo_facing mo_sights mo_fewest mo_posts mo_postMany mo_left mo_roundMany mo_round mo_shift u.2 mo_danger mo_old) t.heap) A) 0 0 A := by
  refine Met.ofW (cc := cX10_put) (maxL := 5) (ret := (some .int)) (by decide) rfl ?_
  intro p e s m args below meth c s₁ B hml hv
  obtain ⟨hav, hP0, hD0, hK⟩ := hv
  have hx := B.exec
  have hb := B.bytes
  have hr := B.returns
  have hts := atoms_spec (ws := wsX10_put) B.pre
  have hown : s.vm.findClass RX10 = some m.cls := findClass_of_methodNamed B.named
  have hlocks := B.notSynchronized
  have hB : ∀ w ∈ BIG, w ∈ wsX10_put := fun _ h => List.mem_cons_of_mem _ h
  have hin : ∀ w ∈ wsX100, w ∈ wsX10_put := fun w h => hB w (inB_X10 w h)
  have lk21 := hts _ (hB _ m_936)
  have lk54 := hts _ (hB _ m_949)
  obtain ⟨Z, hZ⟩ : ∃ Z : State → Prop, Z = MQ below (va_Qi (fun (r : Int32) (u : (Nat → Int32) × (Nat → Int32)) => Q r u.1 u.2) (fun (u : (Nat → Int32) × (Nat → Int32)) t => PW D A (wdM cI cL cZ ad mo_wide mo_tall mo_kind mo_law mo_range u.1 mo_far mo_pictures mo_pictureCell mo_facing mo_sights mo_fewest mo_posts mo_postMany mo_left mo_roundMany mo_round mo_shift u.2 mo_danger mo_old) t.heap) A) args s 0 0 A := ⟨_, rfl⟩
  rw [← hZ]
  have hw : SW D A s.heap (wdM cI cL cZ ad mo_wide mo_tall mo_kind mo_law mo_range mo_queue mo_far mo_pictures mo_pictureCell mo_facing mo_sights mo_fewest mo_posts mo_postMany mo_left mo_roundMany mo_round mo_shift mo_thief mo_danger mo_old) s.heap [] := ⟨hP0, hD0, va_S.rf⟩
  clear hP0 hD0 B
  unfold P_mo_put at h
  have he : entryFrame m args 5 = entryFrame m ([.ref (ad 0), .int x1, .int x2, .int x3, .int x4] : List Value).toArray 5 := by rw [hav]
  refine W.eq he ?_
  have hl := lv_entry ([.ref (ad 0), .int x1, .int x2, .int x3, .int x4]) (n := 5) (Nat.le_of_ble_eq_true rfl)
  rw [lg_entry_eq]
  generalize (lg_sl ([.ref (ad 0), .int x1, .int x2, .int x3, .int x4]) ++ List.replicate (5 - (lg_sl ([.ref (ad 0), .int x1, .int x2, .int x3, .int x4])).length) Slot.unset).toArray = ls at hl ⊢
  have hl : lv_has ls 5 [(0, .ref (ad 0)), (1, .int x1), (2, .int x2), (3, .int x3), (4, .int x4)] := hl
  refine lv_iload_n hx hb dX10_put_0 rfl (lv_at hl 2 rfl) ?_
  refine lv_if_eq (tgt := 15) hx hb dX10_put_1 (by decide) (fun hc => ?_) (fun hc => ?_)
  · replace h := h.1 hc
    refine lv_iload hx hb dX10_put_15 (lv_at hl 4 rfl) ?_
    rw [hZ]
    exact rt_i (mo_queue, mo_thief) hx hb hr hlocks hw h dX10_put_17
  · replace h := h.2 hc
    refine lv_aload_n hx hb dX10_put_4 rfl (lv_at hl 0 rfl) ?_
    refine gM_mo_thief hx hb hts hin hown hK hw lk54 dX10_put_5 ?_
    refine lv_iload_n hx hb dX10_put_8 rfl (lv_at hl 1 rfl) ?_
    refine aM_mo_thief hx hb hK hw h.1 dX10_put_9 ?_
    replace h := h.2
    refine lv_bipush (v := (-9)) hx hb dX10_put_10 (by decide) ?_
    refine lv_icmp_eq (tgt := 18) hx hb dX10_put_12 (by decide) (fun hc => ?_) (fun hc => ?_)
    · replace h := h.1 hc
      refine lv_aload_n hx hb dX10_put_18 rfl (lv_at hl 0 rfl) ?_
      refine gM_mo_thief hx hb hts hin hown hK hw lk54 dX10_put_19 ?_
      refine lv_iload_n hx hb dX10_put_22 rfl (lv_at hl 1 rfl) ?_
      refine lv_aload_n hx hb dX10_put_23 rfl (lv_at hl 0 rfl) ?_
      refine gM_mo_thief hx hb hts hin hown hK hw lk54 dX10_put_24 ?_
      refine lv_iload_n hx hb dX10_put_27 rfl (lv_at hl 3 rfl) ?_
      refine aM_mo_thief hx hb hK hw h.1 dX10_put_28 ?_
      replace h := h.2
      refine lv_iconst (v := 1) hx hb dX10_put_29 (by decide) ?_
      refine lv_iadd hx hb dX10_put_30 ?_
      refine tM_mo_thief hx hb hK hw h.1 dX10_put_31 (fun H locs hw => ?_)
      replace h := h.2
      refine lv_aload_n hx hb dX10_put_32 rfl (lv_at hl 0 rfl) ?_
      refine gM_mo_queue hx hb hts hin hown hK hw lk21 dX10_put_33 ?_
      refine lv_iload hx hb dX10_put_36 (lv_at hl 4 rfl) ?_
      refine lv_iload_n hx hb dX10_put_38 rfl (lv_at hl 1 rfl) ?_
      refine tM_mo_queue hx hb hK hw h.1 dX10_put_39 (fun H locs hw => ?_)
      replace h := h.2
      refine lv_iload hx hb dX10_put_40 (lv_at hl 4 rfl) ?_
      refine lv_iconst (v := 1) hx hb dX10_put_42 (by decide) ?_
      refine lv_iadd hx hb dX10_put_43 ?_
      rw [hZ]
      exact rt_i ((upd mo_queue x4.toNatClampNeg x1), (upd mo_thief x1.toNatClampNeg ((mo_thief x3.toNatClampNeg) + (1 : Int32)))) hx hb hr hlocks hw h dX10_put_44
    · replace h := h.2 hc
      refine lv_iload hx hb dX10_put_15 (lv_at hl 4 rfl) ?_
      rw [hZ]
      exact rt_i (mo_queue, mo_thief) hx hb hr hlocks hw h dX10_put_17
def rm_mo_layTheft : Room := { frames := 5, cells := 0, slots := 0, locals := 126 }
set_option maxHeartbeats 4000000 in
set_option maxRecDepth 100000 in
theorem c_mo_layTheft {l : Launch} {D : va_G} {cI cL cZ : ClassId} {mx my : Nat} {A : Nat → Prop} {ad : Nat → Nat} {mo_wide mo_tall mo_law mo_range mo_pictures mo_postMany : Int32} {mo_kind mo_queue mo_far mo_pictureCell mo_facing mo_sights mo_fewest mo_posts mo_left mo_roundMany mo_round mo_shift mo_thief mo_danger mo_old : Nat → Int32} (x1 : Int32) (x2 : Int32) {Q : (Nat → Int32) → (Nat → Int32) → (Nat → Int32) → Prop} (h : P_mo_layTheft mo_wide mo_tall mo_kind mo_law mo_range mo_queue mo_pictureCell mo_roundMany mo_round mo_shift mo_thief mo_danger x1 x2 Q) : Met l yX10_layTheft wsX10_layTheft rm_mo_layTheft (va_Pc [.ref (ad 0), .int x1, .int x2] (WC D cI cL cZ mx my A (wdM cI cL cZ ad mo_wide mo_tall mo_kind mo_law mo_range mo_queue mo_far mo_pictures mo_pictureCell mo_facing mo_sights mo_fewest mo_posts mo_postMany mo_left mo_roundMany mo_round mo_shift mo_thief mo_danger mo_old))) (va_Qv (fun (u : (Nat → Int32) × (Nat → Int32) × (Nat → Int32)) => Q u.1 u.2.1 u.2.2) (fun (u : (Nat → Int32) × (Nat → Int32) × (Nat → Int32)) t => PW D A (wdM cI cL cZ ad mo_wide mo_tall mo_kind mo_law mo_range u.1 mo_far mo_pictures mo_pictureCell mo_facing mo_sights mo_fewest mo_posts mo_postMany mo_left mo_roundMany mo_round mo_shift u.2.1 u.2.2 mo_old) t.heap) A) 0 0 A := by
  refine Met.ofW (cc := cX10_layTheft) (maxL := 13) (ret := none) (by decide) rfl ?_
  intro p e s m args below meth c s₁ B hml hv
  obtain ⟨hav, hP0, hD0, hK⟩ := hv
  have hx := B.exec
  have hb := B.bytes
  have hr := B.returns
  have hts := atoms_spec (ws := wsX10_layTheft) B.pre
  have hown : s.vm.findClass RX10 = some m.cls := findClass_of_methodNamed B.named
  have hlocks := B.notSynchronized
  have hB : ∀ w ∈ BIG, w ∈ wsX10_layTheft := fun _ h => List.mem_cons_of_mem _ h
  have hin : ∀ w ∈ wsX100, w ∈ wsX10_layTheft := fun w h => hB w (inB_X10 w h)
  have lk21 := hts _ (hB _ m_936)
  have lk27 := hts _ (hB _ m_939)
  have lk54 := hts _ (hB _ m_949)
  have lk57 := hts _ (hB _ m_950)
  obtain ⟨Z, hZ⟩ : ∃ Z : State → Prop, Z = MQ below (va_Qv (fun (u : (Nat → Int32) × (Nat → Int32) × (Nat → Int32)) => Q u.1 u.2.1 u.2.2) (fun (u : (Nat → Int32) × (Nat → Int32) × (Nat → Int32)) t => PW D A (wdM cI cL cZ ad mo_wide mo_tall mo_kind mo_law mo_range u.1 mo_far mo_pictures mo_pictureCell mo_facing mo_sights mo_fewest mo_posts mo_postMany mo_left mo_roundMany mo_round mo_shift u.2.1 u.2.2 mo_old) t.heap) A) args s 0 0 A := ⟨_, rfl⟩
  rw [← hZ]
  have hw : SW D A s.heap (wdM cI cL cZ ad mo_wide mo_tall mo_kind mo_law mo_range mo_queue mo_far mo_pictures mo_pictureCell mo_facing mo_sights mo_fewest mo_posts mo_postMany mo_left mo_roundMany mo_round mo_shift mo_thief mo_danger mo_old) s.heap [] := ⟨hP0, hD0, va_S.rf⟩
  clear hP0 hD0 B
  have J325 : ∀ (_ : True) (k190 : (Nat → Int32) → (Nat → Int32) → (Nat → Int32) → Int32 → Int32 → Int32 → Int32 → Int32 → Int32 → Int32 → Int32 → Prop) (hk190 : ∀ (mo_queue : (Nat → Int32)) (mo_thief : (Nat → Int32)) (mo_danger : (Nat → Int32)) (x1 : Int32) (x3 : Int32) (x4 : Int32) (x5 : Int32) (x7 : Int32) (x8 : Int32) (x9 : Int32) (x10 : Int32) , k190 mo_queue mo_thief mo_danger x1 x3 x4 x5 x7 x8 x9 x10 → ∀ (H : Heap) (locs : List Loc) (ls : Array Slot), SW D A s.heap (wdM cI cL cZ ad mo_wide mo_tall mo_kind mo_law mo_range mo_queue mo_far mo_pictures mo_pictureCell mo_facing mo_sights mo_fewest mo_posts mo_postMany mo_left mo_roundMany mo_round mo_shift mo_thief mo_danger mo_old) H locs → lv_has ls 13 [(0, .ref (ad 0)), (1, .int x1), (3, .int x3), (4, .int x4), (5, .int x5), (7, .int x7), (8, .int x8), (9, .int x9), (10, .int x10)] → W p l e (headSpec wsX10_layTheft rm_mo_layTheft).room s m args below meth c H locs 0 0 Z (F0 m 190 ls [])) (mo_queue : (Nat → Int32)) (mo_thief : (Nat → Int32)) (mo_danger : (Nat → Int32)) (x1 : Int32) (x3 : Int32) (x4 : Int32) (x5 : Int32) (x7 : Int32) (x8 : Int32) (x9 : Int32) (x10 : Int32) (y1 : Int32) (y2 : Int32) , B_mo_layTheft_325 mo_wide mo_tall mo_kind mo_pictureCell Q k190 mo_queue mo_thief mo_danger x1 x3 x4 x5 x7 x8 x9 x10 y1 y2 → ∀ (H : Heap) (locs : List Loc) (ls : Array Slot), SW D A s.heap (wdM cI cL cZ ad mo_wide mo_tall mo_kind mo_law mo_range mo_queue mo_far mo_pictures mo_pictureCell mo_facing mo_sights mo_fewest mo_posts mo_postMany mo_left mo_roundMany mo_round mo_shift mo_thief mo_danger mo_old) H locs → lv_has ls 13 [(0, .ref (ad 0)), (1, .int x1), (3, .int x3), (4, .int x4), (5, .int x5), (7, .int x7), (8, .int x8), (9, .int x9), (10, .int x10)] → W p l e (headSpec wsX10_layTheft rm_mo_layTheft).room s m args below meth c H locs 0 0 Z (F0 m 325 ls [.int y2, .int y1, .ref (ad 0)]) := by
    intro _ k190 hk190 mo_queue mo_thief mo_danger x1 x3 x4 x5 x7 x8 x9 x10 y1 y2 h H locs ls hw hl
    unfold B_mo_layTheft_325 at h
    refine lv_aload_n hx hb dX10_layTheft_325 rfl (lv_at hl 0 rfl) ?_
    refine gM_mo_queue hx hb hts hin hown hK hw lk21 dX10_layTheft_326 ?_
    refine lv_iload hx hb dX10_layTheft_329 (lv_at hl 4 rfl) ?_
    refine aM_mo_queue hx hb hK hw h.1 dX10_layTheft_331 ?_
    replace h := h.2
    refine lv_iload hx hb dX10_layTheft_332 (lv_at hl 3 rfl) ?_
    refine cV_i (b := (ad 0)) (As := [.int y1, .int y2, .int (mo_queue x5.toNatClampNeg), .int x4]) (rest := []) ⟨hx, hb, hml, hown, hts⟩ hK hw (c_mo_put y1 y2 (mo_queue x5.toNatClampNeg) x4 h) (cwV 4 hts (gd_RX10_192 hB) rfl rfl rfl (by decide +kernel) ⟨Nat.le_of_ble_eq_true rfl, Nat.le_of_ble_eq_true rfl⟩) (rM_mo hK hw) hl.1 ⟨Nat.zero_le _, Nat.zero_le _⟩ rfl rfl (Nat.le_of_ble_eq_true rfl) dX10_layTheft_334 (fun r334 u334 H locs h hw => ?_)
    obtain ⟨mo_queue_334, mo_thief_334⟩ := u334
    refine lv_istore (lv' := [(4, .int r334), (0, .ref (ad 0)), (1, .int x1), (3, .int x3), (5, .int x5), (7, .int x7), (8, .int x8), (9, .int x9), (10, .int x10)]) hx hb dX10_layTheft_337 hl (by decide) rfl (fun ls hl => ?_)
    refine lv_iinc (v := (x10 + (1 : Int32))) (lv' := [(10, .int (x10 + (1 : Int32))), (4, .int r334), (0, .ref (ad 0)), (1, .int x1), (3, .int x3), (5, .int x5), (7, .int x7), (8, .int x8), (9, .int x9)]) hx hb dX10_layTheft_339 hl (k := 8) rfl rfl (by decide) rfl (fun ls hl => ?_)
    refine lv_goto (tgt := 190) hx hb dX10_layTheft_342 (by decide) ?_
    exact hk190 _ _ _ _ _ _ _ _ _ _ _ h _ _ _ hw (lv_sub hl [2, 3, 4, 1, 5, 6, 7, 8, 0] rfl)
  have J310 : ∀ (_ : True) (k190 : (Nat → Int32) → (Nat → Int32) → (Nat → Int32) → Int32 → Int32 → Int32 → Int32 → Int32 → Int32 → Int32 → Int32 → Prop) (hk190 : ∀ (mo_queue : (Nat → Int32)) (mo_thief : (Nat → Int32)) (mo_danger : (Nat → Int32)) (x1 : Int32) (x3 : Int32) (x4 : Int32) (x5 : Int32) (x7 : Int32) (x8 : Int32) (x9 : Int32) (x10 : Int32) , k190 mo_queue mo_thief mo_danger x1 x3 x4 x5 x7 x8 x9 x10 → ∀ (H : Heap) (locs : List Loc) (ls : Array Slot), SW D A s.heap (wdM cI cL cZ ad mo_wide mo_tall mo_kind mo_law mo_range mo_queue mo_far mo_pictures mo_pictureCell mo_facing mo_sights mo_fewest mo_posts mo_postMany mo_left mo_roundMany mo_round mo_shift mo_thief mo_danger mo_old) H locs → lv_has ls 13 [(0, .ref (ad 0)), (1, .int x1), (3, .int x3), (4, .int x4), (5, .int x5), (7, .int x7), (8, .int x8), (9, .int x9), (10, .int x10)] → W p l e (headSpec wsX10_layTheft rm_mo_layTheft).room s m args below meth c H locs 0 0 Z (F0 m 190 ls [])) (mo_queue : (Nat → Int32)) (mo_thief : (Nat → Int32)) (mo_danger : (Nat → Int32)) (x1 : Int32) (x3 : Int32) (x4 : Int32) (x5 : Int32) (x7 : Int32) (x8 : Int32) (x9 : Int32) (x10 : Int32) (x12 : Int32) (y1 : Int32) , B_mo_layTheft_310 mo_wide mo_tall mo_kind mo_pictureCell Q k190 mo_queue mo_thief mo_danger x1 x3 x4 x5 x7 x8 x9 x10 x12 y1 → ∀ (H : Heap) (locs : List Loc) (ls : Array Slot), SW D A s.heap (wdM cI cL cZ ad mo_wide mo_tall mo_kind mo_law mo_range mo_queue mo_far mo_pictures mo_pictureCell mo_facing mo_sights mo_fewest mo_posts mo_postMany mo_left mo_roundMany mo_round mo_shift mo_thief mo_danger mo_old) H locs → lv_has ls 13 [(0, .ref (ad 0)), (1, .int x1), (3, .int x3), (4, .int x4), (5, .int x5), (7, .int x7), (8, .int x8), (9, .int x9), (10, .int x10), (12, .int x12)] → W p l e (headSpec wsX10_layTheft rm_mo_layTheft).room s m args below meth c H locs 0 0 Z (F0 m 310 ls [.int y1, .ref (ad 0)]) := by
    intro _ k190 hk190 mo_queue mo_thief mo_danger x1 x3 x4 x5 x7 x8 x9 x10 x12 y1 h H locs ls hw hl
    unfold B_mo_layTheft_310 at h
    refine lv_iload hx hb dX10_layTheft_310 (lv_at hl 6 rfl) ?_
    refine lv_if_ne (tgt := 324) hx hb dX10_layTheft_312 (by decide) (fun hc => ?_) (fun hc => ?_)
    · replace h := h.2 hc
      refine lv_iconst (v := 0) hx hb dX10_layTheft_324 (by decide) ?_
      exact J325 trivial k190 hk190 _ _ _ _ _ _ _ _ _ _ _ _ _ h _ _ _ hw (lv_sub hl [0, 1, 2, 3, 4, 5, 6, 7, 8] rfl)
    · replace h := h.1 hc
      refine lv_iload hx hb dX10_layTheft_315 (lv_at hl 9 rfl) ?_
      refine lv_if_ne (tgt := 324) hx hb dX10_layTheft_317 (by decide) (fun hc => ?_) (fun hc => ?_)
      · replace h := h.2 hc
        refine lv_iconst (v := 0) hx hb dX10_layTheft_324 (by decide) ?_
        exact J325 trivial k190 hk190 _ _ _ _ _ _ _ _ _ _ _ _ _ h _ _ _ hw (lv_sub hl [0, 1, 2, 3, 4, 5, 6, 7, 8] rfl)
      · replace h := h.1 hc
        refine lv_iconst (v := 1) hx hb dX10_layTheft_320 (by decide) ?_
        refine lv_goto (tgt := 325) hx hb dX10_layTheft_321 (by decide) ?_
        exact J325 trivial k190 hk190 _ _ _ _ _ _ _ _ _ _ _ _ _ h _ _ _ hw (lv_sub hl [0, 1, 2, 3, 4, 5, 6, 7, 8] rfl)
  have J256 : ∀ (_ : True) (k190 : (Nat → Int32) → (Nat → Int32) → (Nat → Int32) → Int32 → Int32 → Int32 → Int32 → Int32 → Int32 → Int32 → Int32 → Prop) (hk190 : ∀ (mo_queue : (Nat → Int32)) (mo_thief : (Nat → Int32)) (mo_danger : (Nat → Int32)) (x1 : Int32) (x3 : Int32) (x4 : Int32) (x5 : Int32) (x7 : Int32) (x8 : Int32) (x9 : Int32) (x10 : Int32) , k190 mo_queue mo_thief mo_danger x1 x3 x4 x5 x7 x8 x9 x10 → ∀ (H : Heap) (locs : List Loc) (ls : Array Slot), SW D A s.heap (wdM cI cL cZ ad mo_wide mo_tall mo_kind mo_law mo_range mo_queue mo_far mo_pictures mo_pictureCell mo_facing mo_sights mo_fewest mo_posts mo_postMany mo_left mo_roundMany mo_round mo_shift mo_thief mo_danger mo_old) H locs → lv_has ls 13 [(0, .ref (ad 0)), (1, .int x1), (3, .int x3), (4, .int x4), (5, .int x5), (7, .int x7), (8, .int x8), (9, .int x9), (10, .int x10)] → W p l e (headSpec wsX10_layTheft rm_mo_layTheft).room s m args below meth c H locs 0 0 Z (F0 m 190 ls [])) (mo_queue : (Nat → Int32)) (mo_thief : (Nat → Int32)) (mo_danger : (Nat → Int32)) (x1 : Int32) (x3 : Int32) (x4 : Int32) (x5 : Int32) (x7 : Int32) (x8 : Int32) (x9 : Int32) (x10 : Int32) (x11 : Int32) (y0 : Int32) , B_mo_layTheft_256 mo_wide mo_tall mo_kind mo_pictureCell Q k190 mo_queue mo_thief mo_danger x1 x3 x4 x5 x7 x8 x9 x10 x11 y0 → ∀ (H : Heap) (locs : List Loc) (ls : Array Slot), SW D A s.heap (wdM cI cL cZ ad mo_wide mo_tall mo_kind mo_law mo_range mo_queue mo_far mo_pictures mo_pictureCell mo_facing mo_sights mo_fewest mo_posts mo_postMany mo_left mo_roundMany mo_round mo_shift mo_thief mo_danger mo_old) H locs → lv_has ls 13 [(0, .ref (ad 0)), (1, .int x1), (3, .int x3), (4, .int x4), (5, .int x5), (7, .int x7), (8, .int x8), (9, .int x9), (10, .int x10), (11, .int x11)] → W p l e (headSpec wsX10_layTheft rm_mo_layTheft).room s m args below meth c H locs 0 0 Z (F0 m 256 ls [.int y0]) := by
    intro _ k190 hk190 mo_queue mo_thief mo_danger x1 x3 x4 x5 x7 x8 x9 x10 x11 y0 h H locs ls hw hl
    unfold B_mo_layTheft_256 at h
    refine lv_istore (lv' := [(12, .int y0), (0, .ref (ad 0)), (1, .int x1), (3, .int x3), (4, .int x4), (5, .int x5), (7, .int x7), (8, .int x8), (9, .int x9), (10, .int x10), (11, .int x11)]) hx hb dX10_layTheft_256 hl (by decide) rfl (fun ls hl => ?_)
    refine lv_aload_n hx hb dX10_layTheft_258 rfl (lv_at hl 1 rfl) ?_
    refine lv_sipush (v := 128) hx hb dX10_layTheft_259 (by decide) ?_
    refine lv_iload hx hb dX10_layTheft_262 (lv_at hl 8 rfl) ?_
    refine lv_imul hx hb dX10_layTheft_264 ?_
    refine lv_iconst (v := 2) hx hb dX10_layTheft_265 (by decide) ?_
    refine lv_iload hx hb dX10_layTheft_266 (lv_at hl 10 rfl) ?_
    refine lv_imul hx hb dX10_layTheft_268 ?_
    refine lv_iadd hx hb dX10_layTheft_269 ?_
    refine lv_iconst (v := 1) hx hb dX10_layTheft_270 (by decide) ?_
    refine lv_iadd hx hb dX10_layTheft_271 ?_
    refine lv_iload hx hb dX10_layTheft_272 (lv_at hl 7 rfl) ?_
    refine lv_aload_n hx hb dX10_layTheft_274 rfl (lv_at hl 1 rfl) ?_
    refine gM_mo_queue hx hb hts hin hown hK hw lk21 dX10_layTheft_275 ?_
    refine lv_iload hx hb dX10_layTheft_278 (lv_at hl 5 rfl) ?_
    refine aM_mo_queue hx hb hK hw h.1 dX10_layTheft_280 ?_
    replace h := h.2
    refine lv_iload hx hb dX10_layTheft_281 (lv_at hl 4 rfl) ?_
    refine cV_i (b := (ad 0)) (As := [.int ((((128 : Int32) * x9) + ((2 : Int32) * x11)) + (1 : Int32)), .int x8, .int (mo_queue x5.toNatClampNeg), .int x4]) (rest := []) ⟨hx, hb, hml, hown, hts⟩ hK hw (c_mo_put ((((128 : Int32) * x9) + ((2 : Int32) * x11)) + (1 : Int32)) x8 (mo_queue x5.toNatClampNeg) x4 h) (cwV 4 hts (gd_RX10_192 hB) rfl rfl rfl (by decide +kernel) ⟨Nat.le_of_ble_eq_true rfl, Nat.le_of_ble_eq_true rfl⟩) (rM_mo hK hw) hl.1 ⟨Nat.zero_le _, Nat.zero_le _⟩ rfl rfl (Nat.le_of_ble_eq_true rfl) dX10_layTheft_283 (fun r283 u283 H locs h hw => ?_)
    obtain ⟨mo_queue_283, mo_thief_283⟩ := u283
    refine lv_istore (lv' := [(4, .int r283), (12, .int y0), (0, .ref (ad 0)), (1, .int x1), (3, .int x3), (5, .int x5), (7, .int x7), (8, .int x8), (9, .int x9), (10, .int x10), (11, .int x11)]) hx hb dX10_layTheft_286 hl (by decide) rfl (fun ls hl => ?_)
    refine lv_aload_n hx hb dX10_layTheft_288 rfl (lv_at hl 2 rfl) ?_
    refine lv_sipush (v := 128) hx hb dX10_layTheft_289 (by decide) ?_
    refine lv_iload hx hb dX10_layTheft_292 (lv_at hl 8 rfl) ?_
    refine lv_imul hx hb dX10_layTheft_294 ?_
    refine lv_iconst (v := 2) hx hb dX10_layTheft_295 (by decide) ?_
    refine lv_iload hx hb dX10_layTheft_296 (lv_at hl 10 rfl) ?_
    refine lv_imul hx hb dX10_layTheft_298 ?_
    refine lv_iadd hx hb dX10_layTheft_299 ?_
    refine lv_iload hx hb dX10_layTheft_300 (lv_at hl 7 rfl) ?_
    refine lv_if_eq (tgt := 310) hx hb dX10_layTheft_302 (by decide) (fun hc => ?_) (fun hc => ?_)
    · replace h := h.1 hc
      exact J310 trivial k190 hk190 _ _ _ _ _ _ _ _ _ _ _ _ _ h _ _ _ hw (lv_sub hl [2, 3, 4, 0, 5, 6, 7, 8, 9, 1] rfl)
    · replace h := h.2 hc
      refine lv_iload hx hb dX10_layTheft_305 (lv_at hl 1 rfl) ?_
      refine lv_if_ne (tgt := 320) hx hb dX10_layTheft_307 (by decide) (fun hc => ?_) (fun hc => ?_)
      · replace h := h.2 hc
        refine lv_iconst (v := 1) hx hb dX10_layTheft_320 (by decide) ?_
        refine lv_goto (tgt := 325) hx hb dX10_layTheft_321 (by decide) ?_
        exact J325 trivial k190 hk190 _ _ _ _ _ _ _ _ _ _ _ _ _ h _ _ _ hw (lv_sub hl [2, 3, 4, 0, 5, 6, 7, 8, 9] rfl)
      · replace h := h.1 hc
        exact J310 trivial k190 hk190 _ _ _ _ _ _ _ _ _ _ _ _ _ h _ _ _ hw (lv_sub hl [2, 3, 4, 0, 5, 6, 7, 8, 9, 1] rfl)
  have J215 : ∀ (_ : True) (k190 : (Nat → Int32) → (Nat → Int32) → (Nat → Int32) → Int32 → Int32 → Int32 → Int32 → Int32 → Int32 → Int32 → Int32 → Prop) (hk190 : ∀ (mo_queue : (Nat → Int32)) (mo_thief : (Nat → Int32)) (mo_danger : (Nat → Int32)) (x1 : Int32) (x3 : Int32) (x4 : Int32) (x5 : Int32) (x7 : Int32) (x8 : Int32) (x9 : Int32) (x10 : Int32) , k190 mo_queue mo_thief mo_danger x1 x3 x4 x5 x7 x8 x9 x10 → ∀ (H : Heap) (locs : List Loc) (ls : Array Slot), SW D A s.heap (wdM cI cL cZ ad mo_wide mo_tall mo_kind mo_law mo_range mo_queue mo_far mo_pictures mo_pictureCell mo_facing mo_sights mo_fewest mo_posts mo_postMany mo_left mo_roundMany mo_round mo_shift mo_thief mo_danger mo_old) H locs → lv_has ls 13 [(0, .ref (ad 0)), (1, .int x1), (3, .int x3), (4, .int x4), (5, .int x5), (7, .int x7), (8, .int x8), (9, .int x9), (10, .int x10)] → W p l e (headSpec wsX10_layTheft rm_mo_layTheft).room s m args below meth c H locs 0 0 Z (F0 m 190 ls [])) (mo_queue : (Nat → Int32)) (mo_thief : (Nat → Int32)) (mo_danger : (Nat → Int32)) (x1 : Int32) (x3 : Int32) (x4 : Int32) (x5 : Int32) (x7 : Int32) (x8 : Int32) (x9 : Int32) (x10 : Int32) (y0 : Int32) , B_mo_layTheft_215 mo_wide mo_tall mo_kind mo_pictureCell Q k190 mo_queue mo_thief mo_danger x1 x3 x4 x5 x7 x8 x9 x10 y0 → ∀ (H : Heap) (locs : List Loc) (ls : Array Slot), SW D A s.heap (wdM cI cL cZ ad mo_wide mo_tall mo_kind mo_law mo_range mo_queue mo_far mo_pictures mo_pictureCell mo_facing mo_sights mo_fewest mo_posts mo_postMany mo_left mo_roundMany mo_round mo_shift mo_thief mo_danger mo_old) H locs → lv_has ls 13 [(0, .ref (ad 0)), (1, .int x1), (3, .int x3), (4, .int x4), (5, .int x5), (7, .int x7), (8, .int x8), (9, .int x9), (10, .int x10)] → W p l e (headSpec wsX10_layTheft rm_mo_layTheft).room s m args below meth c H locs 0 0 Z (F0 m 215 ls [.int y0]) := by
    intro _ k190 hk190 mo_queue mo_thief mo_danger x1 x3 x4 x5 x7 x8 x9 x10 y0 h H locs ls hw hl
    unfold B_mo_layTheft_215 at h
    refine lv_istore (lv' := [(11, .int y0), (0, .ref (ad 0)), (1, .int x1), (3, .int x3), (4, .int x4), (5, .int x5), (7, .int x7), (8, .int x8), (9, .int x9), (10, .int x10)]) hx hb dX10_layTheft_215 hl (by decide) rfl (fun ls hl => ?_)
    refine lv_iload hx hb dX10_layTheft_217 (lv_at hl 0 rfl) ?_
    refine lv_bipush (v := (-9)) hx hb dX10_layTheft_219 (by decide) ?_
    refine lv_icmp_eq (tgt := 339) hx hb dX10_layTheft_221 (by decide) (fun hc => ?_) (fun hc => ?_)
    · replace h := h.1 hc
      refine lv_iinc (v := (x10 + (1 : Int32))) (lv' := [(10, .int (x10 + (1 : Int32))), (11, .int y0), (0, .ref (ad 0)), (1, .int x1), (3, .int x3), (4, .int x4), (5, .int x5), (7, .int x7), (8, .int x8), (9, .int x9)]) hx hb dX10_layTheft_339 hl (k := 9) rfl rfl (by decide) rfl (fun ls hl => ?_)
      refine lv_goto (tgt := 190) hx hb dX10_layTheft_342 (by decide) ?_
      exact hk190 _ _ _ _ _ _ _ _ _ _ _ h _ _ _ hw (lv_sub hl [2, 3, 4, 5, 6, 7, 8, 9, 0] rfl)
    · replace h := h.2 hc
      refine lv_aload_n hx hb dX10_layTheft_224 rfl (lv_at hl 1 rfl) ?_
      refine gM_mo_danger hx hb hts hin hown hK hw lk57 dX10_layTheft_225 ?_
      refine lv_bipush (v := 64) hx hb dX10_layTheft_228 (by decide) ?_
      refine lv_iload hx hb dX10_layTheft_230 (lv_at hl 8 rfl) ?_
      refine lv_imul hx hb dX10_layTheft_232 ?_
      refine lv_iload hx hb dX10_layTheft_233 (lv_at hl 0 rfl) ?_
      refine lv_iadd hx hb dX10_layTheft_235 ?_
      refine aM_mo_danger hx hb hK hw h.1 dX10_layTheft_236 ?_
      replace h := h.2
      refine lv_if_ne (tgt := 339) hx hb dX10_layTheft_237 (by decide) (fun hc => ?_) (fun hc => ?_)
      · replace h := h.2 hc
        refine lv_iinc (v := (x10 + (1 : Int32))) (lv' := [(10, .int (x10 + (1 : Int32))), (11, .int y0), (0, .ref (ad 0)), (1, .int x1), (3, .int x3), (4, .int x4), (5, .int x5), (7, .int x7), (8, .int x8), (9, .int x9)]) hx hb dX10_layTheft_339 hl (k := 9) rfl rfl (by decide) rfl (fun ls hl => ?_)
        refine lv_goto (tgt := 190) hx hb dX10_layTheft_342 (by decide) ?_
        exact hk190 _ _ _ _ _ _ _ _ _ _ _ h _ _ _ hw (lv_sub hl [2, 3, 4, 5, 6, 7, 8, 9, 0] rfl)
      · replace h := h.1 hc
        refine lv_iload hx hb dX10_layTheft_240 (lv_at hl 6 rfl) ?_
        refine lv_aload_n hx hb dX10_layTheft_242 rfl (lv_at hl 1 rfl) ?_
        refine gM_mo_pictureCell hx hb hts hin hown hK hw lk27 dX10_layTheft_243 ?_
        refine lv_iload_n hx hb dX10_layTheft_246 rfl (lv_at hl 2 rfl) ?_
        refine aM_mo_pictureCell hx hb hK hw h.1 dX10_layTheft_247 ?_
        replace h := h.2
        refine lv_icmp_ne (tgt := 255) hx hb dX10_layTheft_248 (by decide) (fun hc => ?_) (fun hc => ?_)
        · replace h := h.2 hc
          refine lv_iconst (v := 0) hx hb dX10_layTheft_255 (by decide) ?_
          exact J256 trivial k190 hk190 _ _ _ _ _ _ _ _ _ _ _ _ _ h _ _ _ hw (lv_sub hl [1, 2, 3, 4, 5, 6, 7, 8, 9, 0] rfl)
        · replace h := h.1 hc
          refine lv_iconst (v := 1) hx hb dX10_layTheft_251 (by decide) ?_
          refine lv_goto (tgt := 256) hx hb dX10_layTheft_252 (by decide) ?_
          exact J256 trivial k190 hk190 _ _ _ _ _ _ _ _ _ _ _ _ _ h _ _ _ hw (lv_sub hl [1, 2, 3, 4, 5, 6, 7, 8, 9, 0] rfl)
  have J190 : ∀ (k122 : (Nat → Int32) → (Nat → Int32) → (Nat → Int32) → Int32 → Int32 → Int32 → Int32 → Prop) (hk122 : ∀ (mo_queue : (Nat → Int32)) (mo_thief : (Nat → Int32)) (mo_danger : (Nat → Int32)) (x1 : Int32) (x3 : Int32) (x4 : Int32) (x5 : Int32) , k122 mo_queue mo_thief mo_danger x1 x3 x4 x5 → ∀ (H : Heap) (locs : List Loc) (ls : Array Slot), SW D A s.heap (wdM cI cL cZ ad mo_wide mo_tall mo_kind mo_law mo_range mo_queue mo_far mo_pictures mo_pictureCell mo_facing mo_sights mo_fewest mo_posts mo_postMany mo_left mo_roundMany mo_round mo_shift mo_thief mo_danger mo_old) H locs → lv_has ls 13 [(0, .ref (ad 0)), (1, .int x1), (3, .int x3), (4, .int x4), (5, .int x5)] → W p l e (headSpec wsX10_layTheft rm_mo_layTheft).room s m args below meth c H locs 0 0 Z (F0 m 122 ls [])) (n : Nat) (mo_queue : (Nat → Int32)) (mo_thief : (Nat → Int32)) (mo_danger : (Nat → Int32)) (x1 : Int32) (x3 : Int32) (x4 : Int32) (x5 : Int32) (x7 : Int32) (x8 : Int32) (x9 : Int32) (x10 : Int32) , L_mo_layTheft_190 mo_wide mo_tall mo_kind mo_pictureCell Q k122 n mo_queue mo_thief mo_danger x1 x3 x4 x5 x7 x8 x9 x10 → ∀ (H : Heap) (locs : List Loc) (ls : Array Slot), SW D A s.heap (wdM cI cL cZ ad mo_wide mo_tall mo_kind mo_law mo_range mo_queue mo_far mo_pictures mo_pictureCell mo_facing mo_sights mo_fewest mo_posts mo_postMany mo_left mo_roundMany mo_round mo_shift mo_thief mo_danger mo_old) H locs → lv_has ls 13 [(0, .ref (ad 0)), (1, .int x1), (3, .int x3), (4, .int x4), (5, .int x5), (7, .int x7), (8, .int x8), (9, .int x9), (10, .int x10)] → W p l e (headSpec wsX10_layTheft rm_mo_layTheft).room s m args below meth c H locs 0 0 Z (F0 m 190 ls []) := by
    intro k122 hk122 n
    induction n with
    | zero => intro mo_queue mo_thief mo_danger x1 x3 x4 x5 x7 x8 x9 x10 h; exact h.elim
    | succ n ih =>
    intro mo_queue mo_thief mo_danger x1 x3 x4 x5 x7 x8 x9 x10 h H locs ls hw hl
    unfold L_mo_layTheft_190 at h
    refine lv_iload hx hb dX10_layTheft_190 (lv_at hl 8 rfl) ?_
    refine lv_iconst (v := 5) hx hb dX10_layTheft_192 (by decide) ?_
    refine lv_icmp_ge (tgt := 345) hx hb dX10_layTheft_193 (by decide) (fun hc => ?_) (fun hc => ?_)
    · replace h := h.1 hc
      refine lv_iinc (v := (x5 + (1 : Int32))) (lv' := [(5, .int (x5 + (1 : Int32))), (0, .ref (ad 0)), (1, .int x1), (3, .int x3), (4, .int x4), (7, .int x7), (8, .int x8), (9, .int x9), (10, .int x10)]) hx hb dX10_layTheft_345 hl (k := 4) rfl rfl (by decide) rfl (fun ls hl => ?_)
      refine lv_goto (tgt := 122) hx hb dX10_layTheft_348 (by decide) ?_
      exact hk122 _ _ _ _ _ _ _ h _ _ _ hw (lv_sub hl [1, 2, 3, 4, 0] rfl)
    · replace h := h.2 hc
      refine lv_iload hx hb dX10_layTheft_196 (lv_at hl 8 rfl) ?_
      refine lv_iconst (v := 4) hx hb dX10_layTheft_198 (by decide) ?_
      refine lv_icmp_ne (tgt := 207) hx hb dX10_layTheft_199 (by decide) (fun hc => ?_) (fun hc => ?_)
      · replace h := h.2 hc
        refine lv_aload_n hx hb dX10_layTheft_207 rfl (lv_at hl 0 rfl) ?_
        refine lv_iload hx hb dX10_layTheft_208 (lv_at hl 5 rfl) ?_
        refine lv_iload hx hb dX10_layTheft_210 (lv_at hl 8 rfl) ?_
        refine cV_i (b := (ad 0)) (As := [.int x7, .int x10]) (rest := []) ⟨hx, hb, hml, hown, hts⟩ hK hw (c_mo_beside x7 x10 h) (cwV 2 hts (gd_RX10_94 hB) rfl rfl rfl (by decide +kernel) ⟨Nat.le_of_ble_eq_true rfl, Nat.le_of_ble_eq_true rfl⟩) (rM_mo hK hw) hl.1 ⟨Nat.zero_le _, Nat.zero_le _⟩ rfl rfl (Nat.le_of_ble_eq_true rfl) dX10_layTheft_212 (fun r212 _ H locs h hw => ?_)
        exact J215 trivial (L_mo_layTheft_190 mo_wide mo_tall mo_kind mo_pictureCell Q k122 n) ih _ _ _ _ _ _ _ _ _ _ _ _ h _ _ _ hw (lv_sub hl [0, 1, 2, 3, 4, 5, 6, 7, 8] rfl)
      · replace h := h.1 hc
        refine lv_iload hx hb dX10_layTheft_202 (lv_at hl 5 rfl) ?_
        refine lv_goto (tgt := 215) hx hb dX10_layTheft_204 (by decide) ?_
        exact J215 trivial (L_mo_layTheft_190 mo_wide mo_tall mo_kind mo_pictureCell Q k122 n) ih _ _ _ _ _ _ _ _ _ _ _ _ h _ _ _ hw (lv_sub hl [0, 1, 2, 3, 4, 5, 6, 7, 8] rfl)
  have J175 : ∀ (_ : True) (k122 : (Nat → Int32) → (Nat → Int32) → (Nat → Int32) → Int32 → Int32 → Int32 → Int32 → Prop) (hk122 : ∀ (mo_queue : (Nat → Int32)) (mo_thief : (Nat → Int32)) (mo_danger : (Nat → Int32)) (x1 : Int32) (x3 : Int32) (x4 : Int32) (x5 : Int32) , k122 mo_queue mo_thief mo_danger x1 x3 x4 x5 → ∀ (H : Heap) (locs : List Loc) (ls : Array Slot), SW D A s.heap (wdM cI cL cZ ad mo_wide mo_tall mo_kind mo_law mo_range mo_queue mo_far mo_pictures mo_pictureCell mo_facing mo_sights mo_fewest mo_posts mo_postMany mo_left mo_roundMany mo_round mo_shift mo_thief mo_danger mo_old) H locs → lv_has ls 13 [(0, .ref (ad 0)), (1, .int x1), (3, .int x3), (4, .int x4), (5, .int x5)] → W p l e (headSpec wsX10_layTheft rm_mo_layTheft).room s m args below meth c H locs 0 0 Z (F0 m 122 ls [])) (mo_queue : (Nat → Int32)) (mo_thief : (Nat → Int32)) (mo_danger : (Nat → Int32)) (x1 : Int32) (x3 : Int32) (x4 : Int32) (x5 : Int32) (x6 : Int32) (x7 : Int32) (y0 : Int32) , B_mo_layTheft_175 mo_wide mo_tall mo_kind mo_pictureCell Q k122 mo_queue mo_thief mo_danger x1 x3 x4 x5 x6 x7 y0 → ∀ (H : Heap) (locs : List Loc) (ls : Array Slot), SW D A s.heap (wdM cI cL cZ ad mo_wide mo_tall mo_kind mo_law mo_range mo_queue mo_far mo_pictures mo_pictureCell mo_facing mo_sights mo_fewest mo_posts mo_postMany mo_left mo_roundMany mo_round mo_shift mo_thief mo_danger mo_old) H locs → lv_has ls 13 [(0, .ref (ad 0)), (1, .int x1), (3, .int x3), (4, .int x4), (5, .int x5), (6, .int x6), (7, .int x7)] → W p l e (headSpec wsX10_layTheft rm_mo_layTheft).room s m args below meth c H locs 0 0 Z (F0 m 175 ls [.int y0]) := by
    intro _ k122 hk122 mo_queue mo_thief mo_danger x1 x3 x4 x5 x6 x7 y0 h H locs ls hw hl
    unfold B_mo_layTheft_175 at h
    refine lv_istore (lv' := [(8, .int y0), (0, .ref (ad 0)), (1, .int x1), (3, .int x3), (4, .int x4), (5, .int x5), (6, .int x6), (7, .int x7)]) hx hb dX10_layTheft_175 hl (by decide) rfl (fun ls hl => ?_)
    refine lv_iload hx hb dX10_layTheft_177 (lv_at hl 6 rfl) ?_
    refine lv_iload_n hx hb dX10_layTheft_179 rfl (lv_at hl 3 rfl) ?_
    refine lv_iadd hx hb dX10_layTheft_180 ?_
    refine lv_iconst (v := 1) hx hb dX10_layTheft_181 (by decide) ?_
    refine lv_isub hx hb dX10_layTheft_182 ?_
    refine lv_iload_n hx hb dX10_layTheft_183 rfl (lv_at hl 3 rfl) ?_
    refine lv_irem hx hb dX10_layTheft_184 h.1 ?_
    replace h := h.2
    refine lv_topi (fun x9_185 ex9_185 => ?_)
    replace h := h x9_185 ex9_185
    refine lv_istore (lv' := [(9, .int x9_185), (8, .int y0), (0, .ref (ad 0)), (1, .int x1), (3, .int x3), (4, .int x4), (5, .int x5), (6, .int x6), (7, .int x7)]) hx hb dX10_layTheft_185 hl (by decide) rfl (fun ls hl => ?_)
    refine lv_iconst (v := 0) hx hb dX10_layTheft_187 (by decide) ?_
    refine lv_istore (lv' := [(10, .int (0 : Int32)), (9, .int x9_185), (8, .int y0), (0, .ref (ad 0)), (1, .int x1), (3, .int x3), (4, .int x4), (5, .int x5), (6, .int x6), (7, .int x7)]) hx hb dX10_layTheft_188 hl (by decide) rfl (fun ls hl => ?_)
    obtain ⟨n190, h⟩ := h
    exact J190 k122 hk122 n190 _ _ _ _ _ _ _ _ _ _ _ h _ _ _ hw (lv_sub hl [3, 4, 5, 6, 7, 9, 2, 1, 0] rfl)
  have J122 : ∀ (n : Nat) (mo_queue : (Nat → Int32)) (mo_thief : (Nat → Int32)) (mo_danger : (Nat → Int32)) (x1 : Int32) (x3 : Int32) (x4 : Int32) (x5 : Int32) , L_mo_layTheft_122 mo_wide mo_tall mo_kind mo_pictureCell Q n mo_queue mo_thief mo_danger x1 x3 x4 x5 → ∀ (H : Heap) (locs : List Loc) (ls : Array Slot), SW D A s.heap (wdM cI cL cZ ad mo_wide mo_tall mo_kind mo_law mo_range mo_queue mo_far mo_pictures mo_pictureCell mo_facing mo_sights mo_fewest mo_posts mo_postMany mo_left mo_roundMany mo_round mo_shift mo_thief mo_danger mo_old) H locs → lv_has ls 13 [(0, .ref (ad 0)), (1, .int x1), (3, .int x3), (4, .int x4), (5, .int x5)] → W p l e (headSpec wsX10_layTheft rm_mo_layTheft).room s m args below meth c H locs 0 0 Z (F0 m 122 ls []) := by
    intro  n
    induction n with
    | zero => intro mo_queue mo_thief mo_danger x1 x3 x4 x5 h; exact h.elim
    | succ n ih =>
    intro mo_queue mo_thief mo_danger x1 x3 x4 x5 h H locs ls hw hl
    unfold L_mo_layTheft_122 at h
    refine lv_iload hx hb dX10_layTheft_122 (lv_at hl 4 rfl) ?_
    refine lv_iload hx hb dX10_layTheft_124 (lv_at hl 3 rfl) ?_
    refine lv_icmp_ge (tgt := 351) hx hb dX10_layTheft_126 (by decide) (fun hc => ?_) (fun hc => ?_)
    · replace h := h.1 hc
      rw [hZ]
      exact rt_v (mo_queue, mo_thief, mo_danger) hx hb hr hlocks hw h dX10_layTheft_351
    · replace h := h.2 hc
      refine lv_aload_n hx hb dX10_layTheft_129 rfl (lv_at hl 0 rfl) ?_
      refine gM_mo_queue hx hb hts hin hown hK hw lk21 dX10_layTheft_130 ?_
      refine lv_iload hx hb dX10_layTheft_133 (lv_at hl 4 rfl) ?_
      refine aM_mo_queue hx hb hK hw h.1 dX10_layTheft_135 ?_
      replace h := h.2
      refine lv_sipush (v := 128) hx hb dX10_layTheft_136 (by decide) ?_
      refine lv_idiv hx hb dX10_layTheft_139 h.1 ?_
      replace h := h.2
      refine lv_topi (fun x6_140 ex6_140 => ?_)
      replace h := h x6_140 ex6_140
      refine lv_istore (lv' := [(6, .int x6_140), (0, .ref (ad 0)), (1, .int x1), (3, .int x3), (4, .int x4), (5, .int x5)]) hx hb dX10_layTheft_140 hl (by decide) rfl (fun ls hl => ?_)
      refine lv_aload_n hx hb dX10_layTheft_142 rfl (lv_at hl 1 rfl) ?_
      refine gM_mo_queue hx hb hts hin hown hK hw lk21 dX10_layTheft_143 ?_
      refine lv_iload hx hb dX10_layTheft_146 (lv_at hl 5 rfl) ?_
      refine aM_mo_queue hx hb hK hw h.1 dX10_layTheft_148 ?_
      replace h := h.2
      refine lv_sipush (v := 128) hx hb dX10_layTheft_149 (by decide) ?_
      refine lv_irem hx hb dX10_layTheft_152 h.1 ?_
      replace h := h.2
      refine lv_iconst (v := 2) hx hb dX10_layTheft_153 (by decide) ?_
      refine lv_idiv hx hb dX10_layTheft_154 h.1 ?_
      replace h := h.2
      refine lv_topi (fun x7_155 ex7_155 => ?_)
      replace h := h x7_155 ex7_155
      refine lv_istore (lv' := [(7, .int x7_155), (6, .int x6_140), (0, .ref (ad 0)), (1, .int x1), (3, .int x3), (4, .int x4), (5, .int x5)]) hx hb dX10_layTheft_155 hl (by decide) rfl (fun ls hl => ?_)
      refine lv_aload_n hx hb dX10_layTheft_157 rfl (lv_at hl 2 rfl) ?_
      refine gM_mo_queue hx hb hts hin hown hK hw lk21 dX10_layTheft_158 ?_
      refine lv_iload hx hb dX10_layTheft_161 (lv_at hl 6 rfl) ?_
      refine aM_mo_queue hx hb hK hw h.1 dX10_layTheft_163 ?_
      replace h := h.2
      refine lv_iconst (v := 2) hx hb dX10_layTheft_164 (by decide) ?_
      refine lv_irem hx hb dX10_layTheft_165 h.1 ?_
      replace h := h.2
      refine lv_iconst (v := 1) hx hb dX10_layTheft_166 (by decide) ?_
      refine lv_icmp_ne (tgt := 174) hx hb dX10_layTheft_167 (by decide) (fun hc => ?_) (fun hc => ?_)
      · replace h := h.2 hc
        refine lv_iconst (v := 0) hx hb dX10_layTheft_174 (by decide) ?_
        exact J175 trivial (L_mo_layTheft_122 mo_wide mo_tall mo_kind mo_pictureCell Q n) ih _ _ _ _ _ _ _ _ _ _ h _ _ _ hw (lv_sub hl [2, 3, 4, 5, 6, 1, 0] rfl)
      · replace h := h.1 hc
        refine lv_iconst (v := 1) hx hb dX10_layTheft_170 (by decide) ?_
        refine lv_goto (tgt := 175) hx hb dX10_layTheft_171 (by decide) ?_
        exact J175 trivial (L_mo_layTheft_122 mo_wide mo_tall mo_kind mo_pictureCell Q n) ih _ _ _ _ _ _ _ _ _ _ h _ _ _ hw (lv_sub hl [2, 3, 4, 5, 6, 1, 0] rfl)
  have J44 : ∀ (n : Nat) (mo_queue : (Nat → Int32)) (mo_thief : (Nat → Int32)) (mo_danger : (Nat → Int32)) (x1 : Int32) (x2 : Int32) (x3 : Int32) (x4 : Int32) (x5 : Int32) , L_mo_layTheft_44 mo_wide mo_tall mo_kind mo_pictureCell Q n mo_queue mo_thief mo_danger x1 x2 x3 x4 x5 → ∀ (H : Heap) (locs : List Loc) (ls : Array Slot), SW D A s.heap (wdM cI cL cZ ad mo_wide mo_tall mo_kind mo_law mo_range mo_queue mo_far mo_pictures mo_pictureCell mo_facing mo_sights mo_fewest mo_posts mo_postMany mo_left mo_roundMany mo_round mo_shift mo_thief mo_danger mo_old) H locs → lv_has ls 13 [(0, .ref (ad 0)), (1, .int x1), (2, .int x2), (3, .int x3), (4, .int x4), (5, .int x5)] → W p l e (headSpec wsX10_layTheft rm_mo_layTheft).room s m args below meth c H locs 0 0 Z (F0 m 44 ls []) := by
    intro  n
    induction n with
    | zero => intro mo_queue mo_thief mo_danger x1 x2 x3 x4 x5 h; exact h.elim
    | succ n ih =>
    intro mo_queue mo_thief mo_danger x1 x2 x3 x4 x5 h H locs ls hw hl
    unfold L_mo_layTheft_44 at h
    refine lv_iload hx hb dX10_layTheft_44 (lv_at hl 5 rfl) ?_
    refine lv_iload_n hx hb dX10_layTheft_46 rfl (lv_at hl 3 rfl) ?_
    refine lv_icmp_ge (tgt := 119) hx hb dX10_layTheft_47 (by decide) (fun hc => ?_) (fun hc => ?_)
    · replace h := h.1 hc
      refine lv_iconst (v := 0) hx hb dX10_layTheft_119 (by decide) ?_
      refine lv_istore (lv' := [(5, .int (0 : Int32)), (0, .ref (ad 0)), (1, .int x1), (2, .int x2), (3, .int x3), (4, .int x4)]) hx hb dX10_layTheft_120 hl (by decide) rfl (fun ls hl => ?_)
      obtain ⟨n122, h⟩ := h
      exact J122  n122 _ _ _ _ _ _ _ h _ _ _ hw (lv_sub hl [1, 2, 4, 5, 0] rfl)
    · replace h := h.2 hc
      refine lv_aload_n hx hb dX10_layTheft_50 rfl (lv_at hl 0 rfl) ?_
      refine lv_iload_n hx hb dX10_layTheft_51 rfl (lv_at hl 2 rfl) ?_
      refine cV_i (b := (ad 0)) (As := [.int x2]) (rest := []) ⟨hx, hb, hml, hown, hts⟩ hK hw (c_mo_stands x2 h) (cwV 1 hts (gd_RX10_91 hB) rfl rfl rfl (by decide +kernel) ⟨Nat.le_of_ble_eq_true rfl, Nat.le_of_ble_eq_true rfl⟩) (rM_mo hK hw) hl.1 ⟨Nat.zero_le _, Nat.zero_le _⟩ rfl rfl (Nat.le_of_ble_eq_true rfl) dX10_layTheft_52 (fun r52 _ H locs h hw => ?_)
      refine lv_if_eq (tgt := 113) hx hb dX10_layTheft_55 (by decide) (fun hc => ?_) (fun hc => ?_)
      · replace h := h.1 hc
        refine lv_iinc (v := (x5 + (1 : Int32))) (lv' := [(5, .int (x5 + (1 : Int32))), (0, .ref (ad 0)), (1, .int x1), (2, .int x2), (3, .int x3), (4, .int x4)]) hx hb dX10_layTheft_113 hl (k := 5) rfl rfl (by decide) rfl (fun ls hl => ?_)
        refine lv_goto (tgt := 44) hx hb dX10_layTheft_116 (by decide) ?_
        exact ih _ _ _ _ _ _ _ _ h _ _ _ hw (lv_sub hl [1, 2, 3, 4, 5, 0] rfl)
      · replace h := h.2 hc
        refine lv_aload_n hx hb dX10_layTheft_58 rfl (lv_at hl 0 rfl) ?_
        refine gM_mo_danger hx hb hts hin hown hK hw lk57 dX10_layTheft_59 ?_
        refine lv_bipush (v := 64) hx hb dX10_layTheft_62 (by decide) ?_
        refine lv_iload hx hb dX10_layTheft_64 (lv_at hl 5 rfl) ?_
        refine lv_imul hx hb dX10_layTheft_66 ?_
        refine lv_iload_n hx hb dX10_layTheft_67 rfl (lv_at hl 2 rfl) ?_
        refine lv_iadd hx hb dX10_layTheft_68 ?_
        refine aM_mo_danger hx hb hK hw h.1 dX10_layTheft_69 ?_
        replace h := h.2
        refine lv_if_ne (tgt := 113) hx hb dX10_layTheft_70 (by decide) (fun hc => ?_) (fun hc => ?_)
        · replace h := h.2 hc
          refine lv_iinc (v := (x5 + (1 : Int32))) (lv' := [(5, .int (x5 + (1 : Int32))), (0, .ref (ad 0)), (1, .int x1), (2, .int x2), (3, .int x3), (4, .int x4)]) hx hb dX10_layTheft_113 hl (k := 5) rfl rfl (by decide) rfl (fun ls hl => ?_)
          refine lv_goto (tgt := 44) hx hb dX10_layTheft_116 (by decide) ?_
          exact ih _ _ _ _ _ _ _ _ h _ _ _ hw (lv_sub hl [1, 2, 3, 4, 5, 0] rfl)
        · replace h := h.1 hc
          refine lv_aload_n hx hb dX10_layTheft_73 rfl (lv_at hl 0 rfl) ?_
          refine gM_mo_thief hx hb hts hin hown hK hw lk54 dX10_layTheft_74 ?_
          refine lv_sipush (v := 128) hx hb dX10_layTheft_77 (by decide) ?_
          refine lv_iload hx hb dX10_layTheft_80 (lv_at hl 5 rfl) ?_
          refine lv_imul hx hb dX10_layTheft_82 ?_
          refine lv_iconst (v := 2) hx hb dX10_layTheft_83 (by decide) ?_
          refine lv_iload_n hx hb dX10_layTheft_84 rfl (lv_at hl 2 rfl) ?_
          refine lv_imul hx hb dX10_layTheft_85 ?_
          refine lv_iadd hx hb dX10_layTheft_86 ?_
          refine lv_iconst (v := 1) hx hb dX10_layTheft_87 (by decide) ?_
          refine lv_iadd hx hb dX10_layTheft_88 ?_
          refine lv_iconst (v := 0) hx hb dX10_layTheft_89 (by decide) ?_
          refine tM_mo_thief hx hb hK hw h.1 dX10_layTheft_90 (fun H locs hw => ?_)
          replace h := h.2
          refine lv_aload_n hx hb dX10_layTheft_91 rfl (lv_at hl 0 rfl) ?_
          refine gM_mo_queue hx hb hts hin hown hK hw lk21 dX10_layTheft_92 ?_
          refine lv_iload hx hb dX10_layTheft_95 (lv_at hl 4 rfl) ?_
          refine lv_sipush (v := 128) hx hb dX10_layTheft_97 (by decide) ?_
          refine lv_iload hx hb dX10_layTheft_100 (lv_at hl 5 rfl) ?_
          refine lv_imul hx hb dX10_layTheft_102 ?_
          refine lv_iconst (v := 2) hx hb dX10_layTheft_103 (by decide) ?_
          refine lv_iload_n hx hb dX10_layTheft_104 rfl (lv_at hl 2 rfl) ?_
          refine lv_imul hx hb dX10_layTheft_105 ?_
          refine lv_iadd hx hb dX10_layTheft_106 ?_
          refine lv_iconst (v := 1) hx hb dX10_layTheft_107 (by decide) ?_
          refine lv_iadd hx hb dX10_layTheft_108 ?_
          refine tM_mo_queue hx hb hK hw h.1 dX10_layTheft_109 (fun H locs hw => ?_)
          replace h := h.2
          refine lv_iinc (v := (x4 + (1 : Int32))) (lv' := [(4, .int (x4 + (1 : Int32))), (0, .ref (ad 0)), (1, .int x1), (2, .int x2), (3, .int x3), (5, .int x5)]) hx hb dX10_layTheft_110 hl (k := 4) rfl rfl (by decide) rfl (fun ls hl => ?_)
          refine lv_iinc (v := (x5 + (1 : Int32))) (lv' := [(5, .int (x5 + (1 : Int32))), (4, .int (x4 + (1 : Int32))), (0, .ref (ad 0)), (1, .int x1), (2, .int x2), (3, .int x3)]) hx hb dX10_layTheft_113 hl (k := 5) rfl rfl (by decide) rfl (fun ls hl => ?_)
          refine lv_goto (tgt := 44) hx hb dX10_layTheft_116 (by decide) ?_
          exact ih _ _ _ _ _ _ _ _ h _ _ _ hw (lv_sub hl [2, 3, 4, 5, 1, 0] rfl)
  have J13 : ∀ (n : Nat) (mo_queue : (Nat → Int32)) (mo_thief : (Nat → Int32)) (mo_danger : (Nat → Int32)) (x1 : Int32) (x2 : Int32) (x3 : Int32) (x4 : Int32) , L_mo_layTheft_13 mo_wide mo_tall mo_kind mo_pictureCell Q n mo_queue mo_thief mo_danger x1 x2 x3 x4 → ∀ (H : Heap) (locs : List Loc) (ls : Array Slot), SW D A s.heap (wdM cI cL cZ ad mo_wide mo_tall mo_kind mo_law mo_range mo_queue mo_far mo_pictures mo_pictureCell mo_facing mo_sights mo_fewest mo_posts mo_postMany mo_left mo_roundMany mo_round mo_shift mo_thief mo_danger mo_old) H locs → lv_has ls 13 [(0, .ref (ad 0)), (1, .int x1), (2, .int x2), (3, .int x3), (4, .int x4)] → W p l e (headSpec wsX10_layTheft rm_mo_layTheft).room s m args below meth c H locs 0 0 Z (F0 m 13 ls []) := by
    intro  n
    induction n with
    | zero => intro mo_queue mo_thief mo_danger x1 x2 x3 x4 h; exact h.elim
    | succ n ih =>
    intro mo_queue mo_thief mo_danger x1 x2 x3 x4 h H locs ls hw hl
    unfold L_mo_layTheft_13 at h
    refine lv_iload hx hb dX10_layTheft_13 (lv_at hl 4 rfl) ?_
    refine lv_sipush (v := 128) hx hb dX10_layTheft_15 (by decide) ?_
    refine lv_iload_n hx hb dX10_layTheft_18 rfl (lv_at hl 3 rfl) ?_
    refine lv_imul hx hb dX10_layTheft_19 ?_
    refine lv_icmp_ge (tgt := 38) hx hb dX10_layTheft_20 (by decide) (fun hc => ?_) (fun hc => ?_)
    · replace h := h.1 hc
      refine lv_iconst (v := 0) hx hb dX10_layTheft_38 (by decide) ?_
      refine lv_istore (lv' := [(4, .int (0 : Int32)), (0, .ref (ad 0)), (1, .int x1), (2, .int x2), (3, .int x3)]) hx hb dX10_layTheft_39 hl (by decide) rfl (fun ls hl => ?_)
      refine lv_iconst (v := 0) hx hb dX10_layTheft_41 (by decide) ?_
      refine lv_istore (lv' := [(5, .int (0 : Int32)), (4, .int (0 : Int32)), (0, .ref (ad 0)), (1, .int x1), (2, .int x2), (3, .int x3)]) hx hb dX10_layTheft_42 hl (by decide) rfl (fun ls hl => ?_)
      obtain ⟨n44, h⟩ := h
      exact J44  n44 _ _ _ _ _ _ _ _ h _ _ _ hw (lv_sub hl [2, 3, 4, 5, 1, 0] rfl)
    · replace h := h.2 hc
      refine lv_aload_n hx hb dX10_layTheft_23 rfl (lv_at hl 0 rfl) ?_
      refine gM_mo_thief hx hb hts hin hown hK hw lk54 dX10_layTheft_24 ?_
      refine lv_iload hx hb dX10_layTheft_27 (lv_at hl 4 rfl) ?_
      refine lv_bipush (v := (-9)) hx hb dX10_layTheft_29 (by decide) ?_
      refine tM_mo_thief hx hb hK hw h.1 dX10_layTheft_31 (fun H locs hw => ?_)
      replace h := h.2
      refine lv_iinc (v := (x4 + (1 : Int32))) (lv' := [(4, .int (x4 + (1 : Int32))), (0, .ref (ad 0)), (1, .int x1), (2, .int x2), (3, .int x3)]) hx hb dX10_layTheft_32 hl (k := 4) rfl rfl (by decide) rfl (fun ls hl => ?_)
      refine lv_goto (tgt := 13) hx hb dX10_layTheft_35 (by decide) ?_
      exact ih _ _ _ _ _ _ _ h _ _ _ hw (lv_sub hl [1, 2, 3, 4, 0] rfl)
  unfold P_mo_layTheft at h
  have he : entryFrame m args 13 = entryFrame m ([.ref (ad 0), .int x1, .int x2] : List Value).toArray 13 := by rw [hav]
  refine W.eq he ?_
  have hl := lv_entry ([.ref (ad 0), .int x1, .int x2]) (n := 13) (Nat.le_of_ble_eq_true rfl)
  rw [lg_entry_eq]
  generalize (lg_sl ([.ref (ad 0), .int x1, .int x2]) ++ List.replicate (13 - (lg_sl ([.ref (ad 0), .int x1, .int x2])).length) Slot.unset).toArray = ls at hl ⊢
  have hl : lv_has ls 13 [(0, .ref (ad 0)), (1, .int x1), (2, .int x2)] := hl
  refine lv_aload_n hx hb dX10_layTheft_0 rfl (lv_at hl 0 rfl) ?_
  refine cV_i (b := (ad 0)) (As := []) (rest := []) ⟨hx, hb, hml, hown, hts⟩ hK hw (c_mo_periodNow h) (cwV 0 hts (gd_RX10_172 hB) rfl rfl rfl (by decide +kernel) ⟨Nat.le_of_ble_eq_true rfl, Nat.le_of_ble_eq_true rfl⟩) (rM_mo hK hw) hl.1 ⟨Nat.zero_le _, Nat.zero_le _⟩ rfl rfl (Nat.le_of_ble_eq_true rfl) dX10_layTheft_1 (fun r1 _ H locs h hw => ?_)
  refine lv_istore_n (lv' := [(3, .int r1), (0, .ref (ad 0)), (1, .int x1), (2, .int x2)]) hx hb dX10_layTheft_4 rfl hl (by decide) rfl (fun ls hl => ?_)
  refine lv_aload_n hx hb dX10_layTheft_5 rfl (lv_at hl 1 rfl) ?_
  refine lv_iload_n hx hb dX10_layTheft_6 rfl (lv_at hl 0 rfl) ?_
  refine cV_v (b := (ad 0)) (As := [.int r1]) (rest := []) ⟨hx, hb, hml, hown, hts⟩ hK hw (c_mo_layDanger r1 h) (cwV 1 hts (gd_RX10_189 hB) rfl rfl rfl (by decide +kernel) ⟨Nat.le_of_ble_eq_true rfl, Nat.le_of_ble_eq_true rfl⟩) (rM_mo hK hw) hl.1 ⟨Nat.zero_le _, Nat.zero_le _⟩ rfl rfl (Nat.le_of_ble_eq_true rfl) dX10_layTheft_7 (fun mo_danger_7 H locs h hw => ?_)
  refine lv_iconst (v := 0) hx hb dX10_layTheft_10 (by decide) ?_
  refine lv_istore (lv' := [(4, .int (0 : Int32)), (3, .int r1), (0, .ref (ad 0)), (1, .int x1), (2, .int x2)]) hx hb dX10_layTheft_11 hl (by decide) rfl (fun ls hl => ?_)
  obtain ⟨n13, h⟩ := h
  exact J13  n13 _ _ _ _ _ _ _ h _ _ _ hw (lv_sub hl [2, 3, 4, 1, 0] rfl)
def rm_mo_beginOf : Room := { frames := 2, cells := 0, slots := 0, locals := 46 }
set_option maxHeartbeats 4000000 in
set_option maxRecDepth 100000 in
theorem c_mo_beginOf {l : Launch} {D : va_G} {cI cL cZ : ClassId} {mx my : Nat} {A : Nat → Prop} {ad : Nat → Nat} {mo_wide mo_tall mo_law mo_range mo_pictures mo_postMany : Int32} {mo_kind mo_queue mo_far mo_pictureCell mo_facing mo_sights mo_fewest mo_posts mo_left mo_roundMany mo_round mo_shift mo_thief mo_danger mo_old : Nat → Int32} (x1 : Int32) (x2 : Int32) (x3 : Int32) {Q : Int32 → Prop} (h : P_mo_beginOf mo_pictureCell mo_roundMany x1 x2 x3 Q) : Met l yX10_beginOf wsX10_beginOf rm_mo_beginOf (va_Pc [.ref (ad 0), .int x1, .int x2, .int x3] (WC D cI cL cZ mx my A (wdM cI cL cZ ad mo_wide mo_tall mo_kind mo_law mo_range mo_queue mo_far mo_pictures mo_pictureCell mo_facing mo_sights mo_fewest mo_posts mo_postMany mo_left mo_roundMany mo_round mo_shift mo_thief mo_danger mo_old))) (va_Qi (fun (r : Int32) (u : Unit) => Q r) (fun (u : Unit) t => PW D A (wdM cI cL cZ ad mo_wide mo_tall mo_kind mo_law mo_range mo_queue mo_far mo_pictures mo_pictureCell mo_facing mo_sights mo_fewest mo_posts mo_postMany mo_left mo_roundMany mo_round mo_shift mo_thief mo_danger mo_old) t.heap) A) 0 0 A := by
  refine Met.ofW (cc := cX10_beginOf) (maxL := 4) (ret := (some .int)) (by decide) rfl ?_
  intro p e s m args below meth c s₁ B hml hv
  obtain ⟨hav, hP0, hD0, hK⟩ := hv
  have hx := B.exec
  have hb := B.bytes
  have hr := B.returns
  have hts := atoms_spec (ws := wsX10_beginOf) B.pre
  have hown : s.vm.findClass RX10 = some m.cls := findClass_of_methodNamed B.named
  have hlocks := B.notSynchronized
  have hB : ∀ w ∈ BIG, w ∈ wsX10_beginOf := fun _ h => List.mem_cons_of_mem _ h
  have hin : ∀ w ∈ wsX100, w ∈ wsX10_beginOf := fun w h => hB w (inB_X10 w h)
  have lk27 := hts _ (hB _ m_939)
  obtain ⟨Z, hZ⟩ : ∃ Z : State → Prop, Z = MQ below (va_Qi (fun (r : Int32) (u : Unit) => Q r) (fun (u : Unit) t => PW D A (wdM cI cL cZ ad mo_wide mo_tall mo_kind mo_law mo_range mo_queue mo_far mo_pictures mo_pictureCell mo_facing mo_sights mo_fewest mo_posts mo_postMany mo_left mo_roundMany mo_round mo_shift mo_thief mo_danger mo_old) t.heap) A) args s 0 0 A := ⟨_, rfl⟩
  rw [← hZ]
  have hw : SW D A s.heap (wdM cI cL cZ ad mo_wide mo_tall mo_kind mo_law mo_range mo_queue mo_far mo_pictures mo_pictureCell mo_facing mo_sights mo_fewest mo_posts mo_postMany mo_left mo_roundMany mo_round mo_shift mo_thief mo_danger mo_old) s.heap [] := ⟨hP0, hD0, va_S.rf⟩
  clear hP0 hD0 B
  unfold P_mo_beginOf at h
  have he : entryFrame m args 4 = entryFrame m ([.ref (ad 0), .int x1, .int x2, .int x3] : List Value).toArray 4 := by rw [hav]
  refine W.eq he ?_
  have hl := lv_entry ([.ref (ad 0), .int x1, .int x2, .int x3]) (n := 4) (Nat.le_of_ble_eq_true rfl)
  rw [lg_entry_eq]
  generalize (lg_sl ([.ref (ad 0), .int x1, .int x2, .int x3]) ++ List.replicate (4 - (lg_sl ([.ref (ad 0), .int x1, .int x2, .int x3])).length) Slot.unset).toArray = ls at hl ⊢
  have hl : lv_has ls 4 [(0, .ref (ad 0)), (1, .int x1), (2, .int x2), (3, .int x3)] := hl
  refine lv_sipush (v := 128) hx hb dX10_beginOf_0 (by decide) ?_
  refine lv_iload_n hx hb dX10_beginOf_3 rfl (lv_at hl 3 rfl) ?_
  refine lv_aload_n hx hb dX10_beginOf_4 rfl (lv_at hl 0 rfl) ?_
  refine cV_i (b := (ad 0)) (As := []) (rest := [.int x3, .int (128 : Int32)]) ⟨hx, hb, hml, hown, hts⟩ hK hw (c_mo_periodNow h) (cwV 0 hts (gd_RX10_172 hB) rfl rfl rfl (by decide +kernel) ⟨Nat.le_of_ble_eq_true rfl, Nat.le_of_ble_eq_true rfl⟩) (rM_mo hK hw) hl.1 ⟨Nat.zero_le _, Nat.zero_le _⟩ rfl rfl (Nat.le_of_ble_eq_true rfl) dX10_beginOf_5 (fun r5 _ H locs h hw => ?_)
  refine lv_irem hx hb dX10_beginOf_8 h.1 ?_
  replace h := h.2
  refine lv_imul hx hb dX10_beginOf_9 ?_
  refine lv_iconst (v := 2) hx hb dX10_beginOf_10 (by decide) ?_
  refine lv_iload_n hx hb dX10_beginOf_11 rfl (lv_at hl 2 rfl) ?_
  refine lv_imul hx hb dX10_beginOf_12 ?_
  refine lv_iadd hx hb dX10_beginOf_13 ?_
  refine lv_iload_n hx hb dX10_beginOf_14 rfl (lv_at hl 2 rfl) ?_
  refine lv_aload_n hx hb dX10_beginOf_15 rfl (lv_at hl 0 rfl) ?_
  refine gM_mo_pictureCell hx hb hts hin hown hK hw lk27 dX10_beginOf_16 ?_
  refine lv_iload_n hx hb dX10_beginOf_19 rfl (lv_at hl 1 rfl) ?_
  refine aM_mo_pictureCell hx hb hK hw h.1 dX10_beginOf_20 ?_
  replace h := h.2
  refine lv_icmp_ne (tgt := 28) hx hb dX10_beginOf_21 (by decide) (fun hc => ?_) (fun hc => ?_)
  · replace h := h.2 hc
    refine lv_iconst (v := 0) hx hb dX10_beginOf_28 (by decide) ?_
    refine lv_iadd hx hb dX10_beginOf_29 ?_
    rw [hZ]
    exact rt_i () hx hb hr hlocks hw h dX10_beginOf_30
  · replace h := h.1 hc
    refine lv_iconst (v := 1) hx hb dX10_beginOf_24 (by decide) ?_
    refine lv_goto (tgt := 29) hx hb dX10_beginOf_25 (by decide) ?_
    refine lv_iadd hx hb dX10_beginOf_29 ?_
    rw [hZ]
    exact rt_i () hx hb hr hlocks hw h dX10_beginOf_30
def rm_mo_mayBegin : Room := { frames := 4, cells := 0, slots := 0, locals := 104 }
set_option maxHeartbeats 4000000 in
set_option maxRecDepth 100000 in
theorem c_mo_mayBegin {l : Launch} {D : va_G} {cI cL cZ : ClassId} {mx my : Nat} {A : Nat → Prop} {ad : Nat → Nat} {mo_wide mo_tall mo_law mo_range mo_pictures mo_postMany : Int32} {mo_kind mo_queue mo_far mo_pictureCell mo_facing mo_sights mo_fewest mo_posts mo_left mo_roundMany mo_round mo_shift mo_thief mo_danger mo_old : Nat → Int32} (x1 : Int32) (x2 : Int32) {Q : Int32 → Prop} (h : P_mo_mayBegin mo_wide mo_kind mo_law mo_range mo_roundMany mo_round mo_shift x1 x2 Q) : Met l yX10_mayBegin wsX10_mayBegin rm_mo_mayBegin (va_Pc [.ref (ad 0), .int x1, .int x2] (WC D cI cL cZ mx my A (wdM cI cL cZ ad mo_wide mo_tall mo_kind mo_law mo_range mo_queue mo_far mo_pictures mo_pictureCell mo_facing mo_sights mo_fewest mo_posts mo_postMany mo_left mo_roundMany mo_round mo_shift mo_thief mo_danger mo_old))) (va_Qi (fun (r : Int32) (u : Unit) => Q r) (fun (u : Unit) t => PW D A (wdM cI cL cZ ad mo_wide mo_tall mo_kind mo_law mo_range mo_queue mo_far mo_pictures mo_pictureCell mo_facing mo_sights mo_fewest mo_posts mo_postMany mo_left mo_roundMany mo_round mo_shift mo_thief mo_danger mo_old) t.heap) A) 0 0 A := by
  refine Met.ofW (cc := cX10_mayBegin) (maxL := 3) (ret := (some .boolean)) (by decide) rfl ?_
  intro p e s m args below meth c s₁ B hml hv
  obtain ⟨hav, hP0, hD0, hK⟩ := hv
  have hx := B.exec
  have hb := B.bytes
  have hr := B.returns
  have hts := atoms_spec (ws := wsX10_mayBegin) B.pre
  have hown : s.vm.findClass RX10 = some m.cls := findClass_of_methodNamed B.named
  have hlocks := B.notSynchronized
  have hB : ∀ w ∈ BIG, w ∈ wsX10_mayBegin := fun _ h => List.mem_cons_of_mem _ h
  obtain ⟨Z, hZ⟩ : ∃ Z : State → Prop, Z = MQ below (va_Qi (fun (r : Int32) (u : Unit) => Q r) (fun (u : Unit) t => PW D A (wdM cI cL cZ ad mo_wide mo_tall mo_kind mo_law mo_range mo_queue mo_far mo_pictures mo_pictureCell mo_facing mo_sights mo_fewest mo_posts mo_postMany mo_left mo_roundMany mo_round mo_shift mo_thief mo_danger mo_old) t.heap) A) args s 0 0 A := ⟨_, rfl⟩
  rw [← hZ]
  have hw : SW D A s.heap (wdM cI cL cZ ad mo_wide mo_tall mo_kind mo_law mo_range mo_queue mo_far mo_pictures mo_pictureCell mo_facing mo_sights mo_fewest mo_posts mo_postMany mo_left mo_roundMany mo_round mo_shift mo_thief mo_danger mo_old) s.heap [] := ⟨hP0, hD0, va_S.rf⟩
  clear hP0 hD0 B
  unfold P_mo_mayBegin at h
  have he : entryFrame m args 3 = entryFrame m ([.ref (ad 0), .int x1, .int x2] : List Value).toArray 3 := by rw [hav]
  refine W.eq he ?_
  have hl := lv_entry ([.ref (ad 0), .int x1, .int x2]) (n := 3) (Nat.le_of_ble_eq_true rfl)
  rw [lg_entry_eq]
  generalize (lg_sl ([.ref (ad 0), .int x1, .int x2]) ++ List.replicate (3 - (lg_sl ([.ref (ad 0), .int x1, .int x2])).length) Slot.unset).toArray = ls at hl ⊢
  have hl : lv_has ls 3 [(0, .ref (ad 0)), (1, .int x1), (2, .int x2)] := hl
  refine lv_aload_n hx hb dX10_mayBegin_0 rfl (lv_at hl 0 rfl) ?_
  refine lv_iload_n hx hb dX10_mayBegin_1 rfl (lv_at hl 1 rfl) ?_
  refine cV_i (b := (ad 0)) (As := [.int x1]) (rest := []) ⟨hx, hb, hml, hown, hts⟩ hK hw (c_mo_stands x1 h) (cwV 1 hts (gd_RX10_91 hB) rfl rfl rfl (by decide +kernel) ⟨Nat.le_of_ble_eq_true rfl, Nat.le_of_ble_eq_true rfl⟩) (rM_mo hK hw) hl.1 ⟨Nat.zero_le _, Nat.zero_le _⟩ rfl rfl (Nat.le_of_ble_eq_true rfl) dX10_mayBegin_2 (fun r2 _ H locs h hw => ?_)
  refine lv_if_eq (tgt := 21) hx hb dX10_mayBegin_5 (by decide) (fun hc => ?_) (fun hc => ?_)
  · replace h := h.1 hc
    refine lv_iconst (v := 0) hx hb dX10_mayBegin_21 (by decide) ?_
    rw [hZ]
    exact rt_z () hx hb hr hlocks hw (by decide) h dX10_mayBegin_22
  · replace h := h.2 hc
    refine lv_aload_n hx hb dX10_mayBegin_8 rfl (lv_at hl 0 rfl) ?_
    refine lv_iload_n hx hb dX10_mayBegin_9 rfl (lv_at hl 1 rfl) ?_
    refine lv_iload_n hx hb dX10_mayBegin_10 rfl (lv_at hl 2 rfl) ?_
    refine cV_i (b := (ad 0)) (As := [.int x1, .int x2]) (rest := []) ⟨hx, hb, hml, hown, hts⟩ hK hw (c_mo_isWatched x1 x2 h) (cwV 2 hts (gd_RX10_166 hB) rfl rfl rfl (by decide +kernel) ⟨Nat.le_of_ble_eq_true rfl, Nat.le_of_ble_eq_true rfl⟩) (rM_mo hK hw) hl.1 ⟨Nat.zero_le _, Nat.zero_le _⟩ rfl rfl (Nat.le_of_ble_eq_true rfl) dX10_mayBegin_11 (fun r11 _ H locs h hw => ?_)
    refine lv_if_ne (tgt := 21) hx hb dX10_mayBegin_14 (by decide) (fun hc => ?_) (fun hc => ?_)
    · replace h := h.2 hc
      refine lv_iconst (v := 0) hx hb dX10_mayBegin_21 (by decide) ?_
      rw [hZ]
      exact rt_z () hx hb hr hlocks hw (by decide) h dX10_mayBegin_22
    · replace h := h.1 hc
      refine lv_iconst (v := 1) hx hb dX10_mayBegin_17 (by decide) ?_
      refine lv_goto (tgt := 22) hx hb dX10_mayBegin_18 (by decide) ?_
      rw [hZ]
      exact rt_z () hx hb hr hlocks hw (by decide) h dX10_mayBegin_22
def rm_mo_mayAsk : Room := { frames := 2, cells := 0, slots := 0, locals := 46 }
set_option maxHeartbeats 4000000 in
set_option maxRecDepth 100000 in
theorem c_mo_mayAsk {l : Launch} {D : va_G} {cI cL cZ : ClassId} {mx my : Nat} {A : Nat → Prop} {ad : Nat → Nat} {mo_wide mo_tall mo_law mo_range mo_pictures mo_postMany : Int32} {mo_kind mo_queue mo_far mo_pictureCell mo_facing mo_sights mo_fewest mo_posts mo_left mo_roundMany mo_round mo_shift mo_thief mo_danger mo_old : Nat → Int32} (x1 : Int32) (x2 : Int32) (x3 : Int32) {Q : Int32 → Prop} (h : P_mo_mayAsk mo_wide mo_tall mo_pictures x1 x2 x3 Q) : Met l yX10_mayAsk wsX10_mayAsk rm_mo_mayAsk (va_Pc [.ref (ad 0), .int x1, .int x2, .int x3] (WC D cI cL cZ mx my A (wdM cI cL cZ ad mo_wide mo_tall mo_kind mo_law mo_range mo_queue mo_far mo_pictures mo_pictureCell mo_facing mo_sights mo_fewest mo_posts mo_postMany mo_left mo_roundMany mo_round mo_shift mo_thief mo_danger mo_old))) (va_Qi (fun (r : Int32) (u : Unit) => Q r) (fun (u : Unit) t => PW D A (wdM cI cL cZ ad mo_wide mo_tall mo_kind mo_law mo_range mo_queue mo_far mo_pictures mo_pictureCell mo_facing mo_sights mo_fewest mo_posts mo_postMany mo_left mo_roundMany mo_round mo_shift mo_thief mo_danger mo_old) t.heap) A) 0 0 A := by
  refine Met.ofW (cc := cX10_mayAsk) (maxL := 4) (ret := (some .int)) (by decide) rfl ?_
  intro p e s m args below meth c s₁ B hml hv
  obtain ⟨hav, hP0, hD0, hK⟩ := hv
  have hx := B.exec
  have hb := B.bytes
  have hr := B.returns
  have hts := atoms_spec (ws := wsX10_mayAsk) B.pre
  have hown : s.vm.findClass RX10 = some m.cls := findClass_of_methodNamed B.named
  have hlocks := B.notSynchronized
  have hB : ∀ w ∈ BIG, w ∈ wsX10_mayAsk := fun _ h => List.mem_cons_of_mem _ h
  obtain ⟨Z, hZ⟩ : ∃ Z : State → Prop, Z = MQ below (va_Qi (fun (r : Int32) (u : Unit) => Q r) (fun (u : Unit) t => PW D A (wdM cI cL cZ ad mo_wide mo_tall mo_kind mo_law mo_range mo_queue mo_far mo_pictures mo_pictureCell mo_facing mo_sights mo_fewest mo_posts mo_postMany mo_left mo_roundMany mo_round mo_shift mo_thief mo_danger mo_old) t.heap) A) args s 0 0 A := ⟨_, rfl⟩
  rw [← hZ]
  have hw : SW D A s.heap (wdM cI cL cZ ad mo_wide mo_tall mo_kind mo_law mo_range mo_queue mo_far mo_pictures mo_pictureCell mo_facing mo_sights mo_fewest mo_posts mo_postMany mo_left mo_roundMany mo_round mo_shift mo_thief mo_danger mo_old) s.heap [] := ⟨hP0, hD0, va_S.rf⟩
  clear hP0 hD0 B
  unfold P_mo_mayAsk at h
  have he : entryFrame m args 4 = entryFrame m ([.ref (ad 0), .int x1, .int x2, .int x3] : List Value).toArray 4 := by rw [hav]
  refine W.eq he ?_
  have hl := lv_entry ([.ref (ad 0), .int x1, .int x2, .int x3]) (n := 4) (Nat.le_of_ble_eq_true rfl)
  rw [lg_entry_eq]
  generalize (lg_sl ([.ref (ad 0), .int x1, .int x2, .int x3]) ++ List.replicate (4 - (lg_sl ([.ref (ad 0), .int x1, .int x2, .int x3])).length) Slot.unset).toArray = ls at hl ⊢
  have hl : lv_has ls 4 [(0, .ref (ad 0)), (1, .int x1), (2, .int x2), (3, .int x3)] := hl
  refine lv_aload_n hx hb dX10_mayAsk_0 rfl (lv_at hl 0 rfl) ?_
  refine lv_iload_n hx hb dX10_mayAsk_1 rfl (lv_at hl 1 rfl) ?_
  refine cV_i (b := (ad 0)) (As := [.int x1]) (rest := []) ⟨hx, hb, hml, hown, hts⟩ hK hw (c_mo_isPicture x1 h) (cwV 1 hts (gd_RX10_125 hB) rfl rfl rfl (by decide +kernel) ⟨Nat.le_of_ble_eq_true rfl, Nat.le_of_ble_eq_true rfl⟩) (rM_mo hK hw) hl.1 ⟨Nat.zero_le _, Nat.zero_le _⟩ rfl rfl (Nat.le_of_ble_eq_true rfl) dX10_mayAsk_2 (fun r2 _ H locs h hw => ?_)
  refine lv_if_eq (tgt := 16) hx hb dX10_mayAsk_5 (by decide) (fun hc => ?_) (fun hc => ?_)
  · replace h := h.1 hc
    refine lv_iconst (v := (-1)) hx hb dX10_mayAsk_16 (by decide) ?_
    refine lv_goto (tgt := 38) hx hb dX10_mayAsk_17 (by decide) ?_
    rw [hZ]
    exact rt_i () hx hb hr hlocks hw h dX10_mayAsk_38
  · replace h := h.2 hc
    refine lv_aload_n hx hb dX10_mayAsk_8 rfl (lv_at hl 0 rfl) ?_
    refine lv_iload_n hx hb dX10_mayAsk_9 rfl (lv_at hl 2 rfl) ?_
    refine cV_i (b := (ad 0)) (As := [.int x2]) (rest := []) ⟨hx, hb, hml, hown, hts⟩ hK hw (c_mo_isCell x2 h) (cwV 1 hts (gd_RX10_85 hB) rfl rfl rfl (by decide +kernel) ⟨Nat.le_of_ble_eq_true rfl, Nat.le_of_ble_eq_true rfl⟩) (rM_mo hK hw) hl.1 ⟨Nat.zero_le _, Nat.zero_le _⟩ rfl rfl (Nat.le_of_ble_eq_true rfl) dX10_mayAsk_10 (fun r10 _ H locs h hw => ?_)
    refine lv_if_ne (tgt := 20) hx hb dX10_mayAsk_13 (by decide) (fun hc => ?_) (fun hc => ?_)
    · replace h := h.2 hc
      refine lv_iload_n hx hb dX10_mayAsk_20 rfl (lv_at hl 3 rfl) ?_
      refine lv_i2l hx hb dX10_mayAsk_21 rfl ?_
      refine lv_lconst (v := 0) hx hb dX10_mayAsk_22 (by decide) ?_
      refine lv_ldc2 (v := (9999)) hx hb hown (hts _ (hB _ m_1173)) dX10_mayAsk_23 ?_
      refine cS_i (As := [.long (Int32.toInt64 x3), .long (0 : Int64), .long (9999 : Int64)]) (rest := []) ⟨hx, hb, hml, hown, hts⟩ hK hw (c_mo_in (Int32.toInt64 x3) (0 : Int64) (9999 : Int64) h) (va_cwS 3 hts (gd_RX10_77 hB) rfl rfl rfl (by decide +kernel) ⟨Nat.le_of_ble_eq_true rfl, Nat.le_of_ble_eq_true rfl⟩) hl.1 ⟨Nat.zero_le _, Nat.zero_le _⟩ rfl rfl (Nat.le_of_ble_eq_true rfl) dX10_mayAsk_26 (fun r26 _ H locs h hw => ?_)
      refine lv_if_eq (tgt := 36) hx hb dX10_mayAsk_29 (by decide) (fun hc => ?_) (fun hc => ?_)
      · replace h := h.1 hc
        refine lv_bipush (v := (-2)) hx hb dX10_mayAsk_36 (by decide) ?_
        rw [hZ]
        exact rt_i () hx hb hr hlocks hw h dX10_mayAsk_38
      · replace h := h.2 hc
        refine lv_iconst (v := 0) hx hb dX10_mayAsk_32 (by decide) ?_
        refine lv_goto (tgt := 38) hx hb dX10_mayAsk_33 (by decide) ?_
        rw [hZ]
        exact rt_i () hx hb hr hlocks hw h dX10_mayAsk_38
    · replace h := h.1 hc
      refine lv_iconst (v := (-1)) hx hb dX10_mayAsk_16 (by decide) ?_
      refine lv_goto (tgt := 38) hx hb dX10_mayAsk_17 (by decide) ?_
      rw [hZ]
      exact rt_i () hx hb hr hlocks hw h dX10_mayAsk_38
def rm_mo_theft : Room := { frames := 6, cells := 0, slots := 0, locals := 158 }
set_option maxHeartbeats 4000000 in
set_option maxRecDepth 100000 in
theorem c_mo_theft {l : Launch} {D : va_G} {cI cL cZ : ClassId} {mx my : Nat} {A : Nat → Prop} {ad : Nat → Nat} {mo_wide mo_tall mo_law mo_range mo_pictures mo_postMany : Int32} {mo_kind mo_queue mo_far mo_pictureCell mo_facing mo_sights mo_fewest mo_posts mo_left mo_roundMany mo_round mo_shift mo_thief mo_danger mo_old : Nat → Int32} (x1 : Int32) (x2 : Int32) (x3 : Int32) {Q : Int32 → (Nat → Int32) → (Nat → Int32) → (Nat → Int32) → Prop} (h : P_mo_theft mo_wide mo_tall mo_kind mo_law mo_range mo_queue mo_pictures mo_pictureCell mo_roundMany mo_round mo_shift mo_thief mo_danger x1 x2 x3 Q) : Met l yX10_theft wsX10_theft rm_mo_theft (va_Pc [.ref (ad 0), .int x1, .int x2, .int x3] (WC D cI cL cZ mx my A (wdM cI cL cZ ad mo_wide mo_tall mo_kind mo_law mo_range mo_queue mo_far mo_pictures mo_pictureCell mo_facing mo_sights mo_fewest mo_posts mo_postMany mo_left mo_roundMany mo_round mo_shift mo_thief mo_danger mo_old))) (va_Qi (fun (r : Int32) (u : (Nat → Int32) × (Nat → Int32) × (Nat → Int32)) => Q r u.1 u.2.1 u.2.2) (fun (u : (Nat → Int32) × (Nat → Int32) × (Nat → Int32)) t => PW D A (wdM cI cL cZ ad mo_wide mo_tall mo_kind mo_law mo_range u.1 mo_far mo_pictures mo_pictureCell mo_facing mo_sights mo_fewest mo_posts mo_postMany mo_left mo_roundMany mo_round mo_shift u.2.1 u.2.2 mo_old) t.heap) A) 0 0 A := by
  refine Met.ofW (cc := cX10_theft) (maxL := 5) (ret := (some .int)) (by decide) rfl ?_
  intro p e s m args below meth c s₁ B hml hv
  obtain ⟨hav, hP0, hD0, hK⟩ := hv
  have hx := B.exec
  have hb := B.bytes
  have hr := B.returns
  have hts := atoms_spec (ws := wsX10_theft) B.pre
  have hown : s.vm.findClass RX10 = some m.cls := findClass_of_methodNamed B.named
  have hlocks := B.notSynchronized
  have hB : ∀ w ∈ BIG, w ∈ wsX10_theft := fun _ h => List.mem_cons_of_mem _ h
  have hin : ∀ w ∈ wsX100, w ∈ wsX10_theft := fun w h => hB w (inB_X10 w h)
  have lk54 := hts _ (hB _ m_949)
  obtain ⟨Z, hZ⟩ : ∃ Z : State → Prop, Z = MQ below (va_Qi (fun (r : Int32) (u : (Nat → Int32) × (Nat → Int32) × (Nat → Int32)) => Q r u.1 u.2.1 u.2.2) (fun (u : (Nat → Int32) × (Nat → Int32) × (Nat → Int32)) t => PW D A (wdM cI cL cZ ad mo_wide mo_tall mo_kind mo_law mo_range u.1 mo_far mo_pictures mo_pictureCell mo_facing mo_sights mo_fewest mo_posts mo_postMany mo_left mo_roundMany mo_round mo_shift u.2.1 u.2.2 mo_old) t.heap) A) args s 0 0 A := ⟨_, rfl⟩
  rw [← hZ]
  have hw : SW D A s.heap (wdM cI cL cZ ad mo_wide mo_tall mo_kind mo_law mo_range mo_queue mo_far mo_pictures mo_pictureCell mo_facing mo_sights mo_fewest mo_posts mo_postMany mo_left mo_roundMany mo_round mo_shift mo_thief mo_danger mo_old) s.heap [] := ⟨hP0, hD0, va_S.rf⟩
  clear hP0 hD0 B
  unfold P_mo_theft at h
  have he : entryFrame m args 5 = entryFrame m ([.ref (ad 0), .int x1, .int x2, .int x3] : List Value).toArray 5 := by rw [hav]
  refine W.eq he ?_
  have hl := lv_entry ([.ref (ad 0), .int x1, .int x2, .int x3]) (n := 5) (Nat.le_of_ble_eq_true rfl)
  rw [lg_entry_eq]
  generalize (lg_sl ([.ref (ad 0), .int x1, .int x2, .int x3]) ++ List.replicate (5 - (lg_sl ([.ref (ad 0), .int x1, .int x2, .int x3])).length) Slot.unset).toArray = ls at hl ⊢
  have hl : lv_has ls 5 [(0, .ref (ad 0)), (1, .int x1), (2, .int x2), (3, .int x3)] := hl
  refine lv_aload_n hx hb dX10_theft_0 rfl (lv_at hl 0 rfl) ?_
  refine lv_iload_n hx hb dX10_theft_1 rfl (lv_at hl 1 rfl) ?_
  refine lv_iload_n hx hb dX10_theft_2 rfl (lv_at hl 2 rfl) ?_
  refine lv_iload_n hx hb dX10_theft_3 rfl (lv_at hl 3 rfl) ?_
  refine cV_i (b := (ad 0)) (As := [.int x1, .int x2, .int x3]) (rest := []) ⟨hx, hb, hml, hown, hts⟩ hK hw (c_mo_mayAsk x1 x2 x3 h) (cwV 3 hts (gd_RX10_196 hB) rfl rfl rfl (by decide +kernel) ⟨Nat.le_of_ble_eq_true rfl, Nat.le_of_ble_eq_true rfl⟩) (rM_mo hK hw) hl.1 ⟨Nat.zero_le _, Nat.zero_le _⟩ rfl rfl (Nat.le_of_ble_eq_true rfl) dX10_theft_4 (fun r4 _ H locs h hw => ?_)
  refine lv_istore (lv' := [(4, .int r4), (0, .ref (ad 0)), (1, .int x1), (2, .int x2), (3, .int x3)]) hx hb dX10_theft_7 hl (by decide) rfl (fun ls hl => ?_)
  refine lv_iload hx hb dX10_theft_9 (lv_at hl 0 rfl) ?_
  refine lv_if_ge (tgt := 17) hx hb dX10_theft_11 (by decide) (fun hc => ?_) (fun hc => ?_)
  · replace h := h.1 hc
    refine lv_aload_n hx hb dX10_theft_17 rfl (lv_at hl 1 rfl) ?_
    refine lv_iload_n hx hb dX10_theft_18 rfl (lv_at hl 3 rfl) ?_
    refine lv_iload_n hx hb dX10_theft_19 rfl (lv_at hl 4 rfl) ?_
    refine cV_i (b := (ad 0)) (As := [.int x2, .int x3]) (rest := []) ⟨hx, hb, hml, hown, hts⟩ hK hw (c_mo_mayBegin x2 x3 h) (cwV 2 hts (gd_RX10_200 hB) rfl rfl rfl (by decide +kernel) ⟨Nat.le_of_ble_eq_true rfl, Nat.le_of_ble_eq_true rfl⟩) (rM_mo hK hw) hl.1 ⟨Nat.zero_le _, Nat.zero_le _⟩ rfl rfl (Nat.le_of_ble_eq_true rfl) dX10_theft_20 (fun r20 _ H locs h hw => ?_)
    refine lv_if_ne (tgt := 29) hx hb dX10_theft_23 (by decide) (fun hc => ?_) (fun hc => ?_)
    · replace h := h.2 hc
      refine lv_aload_n hx hb dX10_theft_29 rfl (lv_at hl 1 rfl) ?_
      refine lv_iload_n hx hb dX10_theft_30 rfl (lv_at hl 2 rfl) ?_
      refine lv_iload_n hx hb dX10_theft_31 rfl (lv_at hl 3 rfl) ?_
      refine cV_v (b := (ad 0)) (As := [.int x1, .int x2]) (rest := []) ⟨hx, hb, hml, hown, hts⟩ hK hw (c_mo_layTheft x1 x2 h) (cwV 2 hts (gd_RX10_203 hB) rfl rfl rfl (by decide +kernel) ⟨Nat.le_of_ble_eq_true rfl, Nat.le_of_ble_eq_true rfl⟩) (rM_mo hK hw) hl.1 ⟨Nat.zero_le _, Nat.zero_le _⟩ rfl rfl (Nat.le_of_ble_eq_true rfl) dX10_theft_32 (fun u32 H locs h hw => ?_)
      obtain ⟨mo_queue_32, mo_thief_32, mo_danger_32⟩ := u32
      refine lv_aload_n hx hb dX10_theft_35 rfl (lv_at hl 1 rfl) ?_
      refine gM_mo_thief hx hb hts hin hown hK hw lk54 dX10_theft_36 ?_
      refine lv_aload_n hx hb dX10_theft_39 rfl (lv_at hl 1 rfl) ?_
      refine lv_iload_n hx hb dX10_theft_40 rfl (lv_at hl 2 rfl) ?_
      refine lv_iload_n hx hb dX10_theft_41 rfl (lv_at hl 3 rfl) ?_
      refine lv_iload_n hx hb dX10_theft_42 rfl (lv_at hl 4 rfl) ?_
      refine cV_i (b := (ad 0)) (As := [.int x1, .int x2, .int x3]) (rest := [.ref (ad 13)]) ⟨hx, hb, hml, hown, hts⟩ hK hw (c_mo_beginOf x1 x2 x3 h) (cwV 3 hts (gd_RX10_206 hB) rfl rfl rfl (by decide +kernel) ⟨Nat.le_of_ble_eq_true rfl, Nat.le_of_ble_eq_true rfl⟩) (rM_mo hK hw) hl.1 ⟨Nat.zero_le _, Nat.zero_le _⟩ rfl rfl (Nat.le_of_ble_eq_true rfl) dX10_theft_43 (fun r43 _ H locs h hw => ?_)
      refine aM_mo_thief hx hb hK hw h.1 dX10_theft_46 ?_
      replace h := h.2
      rw [hZ]
      exact rt_i (mo_queue_32, mo_thief_32, mo_danger_32) hx hb hr hlocks hw h dX10_theft_47
    · replace h := h.1 hc
      refine lv_bipush (v := (-9)) hx hb dX10_theft_26 (by decide) ?_
      rw [hZ]
      exact rt_i (mo_queue, mo_thief, mo_danger) hx hb hr hlocks hw h dX10_theft_28
  · replace h := h.2 hc
    refine lv_iload hx hb dX10_theft_14 (lv_at hl 0 rfl) ?_
    rw [hZ]
    exact rt_i (mo_queue, mo_thief, mo_danger) hx hb hr hlocks hw h dX10_theft_16
def rm_mo_thenAt : Room := { frames := 2, cells := 0, slots := 0, locals := 50 }
set_option maxHeartbeats 4000000 in
set_option maxRecDepth 100000 in
theorem c_mo_thenAt {l : Launch} {D : va_G} {cI cL cZ : ClassId} {mx my : Nat} {A : Nat → Prop} {ad : Nat → Nat} {mo_wide mo_tall mo_law mo_range mo_pictures mo_postMany : Int32} {mo_kind mo_queue mo_far mo_pictureCell mo_facing mo_sights mo_fewest mo_posts mo_left mo_roundMany mo_round mo_shift mo_thief mo_danger mo_old : Nat → Int32} (x1 : Int32) (x2 : Int32) (x3 : Int32) {Q : Int32 → Prop} (h : P_mo_thenAt mo_wide mo_tall mo_kind mo_pictureCell mo_roundMany mo_danger x1 x2 x3 Q) : Met l yX10_thenAt wsX10_thenAt rm_mo_thenAt (va_Pc [.ref (ad 0), .int x1, .int x2, .int x3] (WC D cI cL cZ mx my A (wdM cI cL cZ ad mo_wide mo_tall mo_kind mo_law mo_range mo_queue mo_far mo_pictures mo_pictureCell mo_facing mo_sights mo_fewest mo_posts mo_postMany mo_left mo_roundMany mo_round mo_shift mo_thief mo_danger mo_old))) (va_Qi (fun (r : Int32) (u : Unit) => Q r) (fun (u : Unit) t => PW D A (wdM cI cL cZ ad mo_wide mo_tall mo_kind mo_law mo_range mo_queue mo_far mo_pictures mo_pictureCell mo_facing mo_sights mo_fewest mo_posts mo_postMany mo_left mo_roundMany mo_round mo_shift mo_thief mo_danger mo_old) t.heap) A) 0 0 A := by
  refine Met.ofW (cc := cX10_thenAt) (maxL := 8) (ret := (some .int)) (by decide) rfl ?_
  intro p e s m args below meth c s₁ B hml hv
  obtain ⟨hav, hP0, hD0, hK⟩ := hv
  have hx := B.exec
  have hb := B.bytes
  have hr := B.returns
  have hts := atoms_spec (ws := wsX10_thenAt) B.pre
  have hown : s.vm.findClass RX10 = some m.cls := findClass_of_methodNamed B.named
  have hlocks := B.notSynchronized
  have hB : ∀ w ∈ BIG, w ∈ wsX10_thenAt := fun _ h => List.mem_cons_of_mem _ h
  have hin : ∀ w ∈ wsX100, w ∈ wsX10_thenAt := fun w h => hB w (inB_X10 w h)
  have lk27 := hts _ (hB _ m_939)
  have lk57 := hts _ (hB _ m_950)
  obtain ⟨Z, hZ⟩ : ∃ Z : State → Prop, Z = MQ below (va_Qi (fun (r : Int32) (u : Unit) => Q r) (fun (u : Unit) t => PW D A (wdM cI cL cZ ad mo_wide mo_tall mo_kind mo_law mo_range mo_queue mo_far mo_pictures mo_pictureCell mo_facing mo_sights mo_fewest mo_posts mo_postMany mo_left mo_roundMany mo_round mo_shift mo_thief mo_danger mo_old) t.heap) A) args s 0 0 A := ⟨_, rfl⟩
  rw [← hZ]
  have hw : SW D A s.heap (wdM cI cL cZ ad mo_wide mo_tall mo_kind mo_law mo_range mo_queue mo_far mo_pictures mo_pictureCell mo_facing mo_sights mo_fewest mo_posts mo_postMany mo_left mo_roundMany mo_round mo_shift mo_thief mo_danger mo_old) s.heap [] := ⟨hP0, hD0, va_S.rf⟩
  clear hP0 hD0 B
  have J44 : ∀ (_ : True) (x1 : Int32) (x2 : Int32) (x5 : Int32) (y0 : Int32) , B_mo_thenAt_44 mo_pictureCell mo_danger Q x1 x2 x5 y0 → ∀ (H : Heap) (locs : List Loc) (ls : Array Slot), SW D A s.heap (wdM cI cL cZ ad mo_wide mo_tall mo_kind mo_law mo_range mo_queue mo_far mo_pictures mo_pictureCell mo_facing mo_sights mo_fewest mo_posts mo_postMany mo_left mo_roundMany mo_round mo_shift mo_thief mo_danger mo_old) H locs → lv_has ls 8 [(0, .ref (ad 0)), (1, .int x1), (2, .int x2), (5, .int x5)] → W p l e (headSpec wsX10_thenAt rm_mo_thenAt).room s m args below meth c H locs 0 0 Z (F0 m 44 ls [.int y0]) := by
    intro _  x1 x2 x5 y0 h H locs ls hw hl
    unfold B_mo_thenAt_44 at h
    refine lv_istore (lv' := [(7, .int y0), (0, .ref (ad 0)), (1, .int x1), (2, .int x2), (5, .int x5)]) hx hb dX10_thenAt_44 hl (by decide) rfl (fun ls hl => ?_)
    refine lv_iload hx hb dX10_thenAt_46 (lv_at hl 0 rfl) ?_
    refine lv_bipush (v := (-9)) hx hb dX10_thenAt_48 (by decide) ?_
    refine lv_icmp_eq (tgt := 69) hx hb dX10_thenAt_50 (by decide) (fun hc => ?_) (fun hc => ?_)
    · replace h := h.1 hc
      refine lv_bipush (v := (-9)) hx hb dX10_thenAt_69 (by decide) ?_
      rw [hZ]
      exact rt_i () hx hb hr hlocks hw h dX10_thenAt_71
    · replace h := h.2 hc
      refine lv_aload_n hx hb dX10_thenAt_53 rfl (lv_at hl 1 rfl) ?_
      refine gM_mo_danger hx hb hts hin hown hK hw lk57 dX10_thenAt_54 ?_
      refine lv_bipush (v := 64) hx hb dX10_thenAt_57 (by decide) ?_
      refine lv_iload hx hb dX10_thenAt_59 (lv_at hl 4 rfl) ?_
      refine lv_imul hx hb dX10_thenAt_61 ?_
      refine lv_iload hx hb dX10_thenAt_62 (lv_at hl 0 rfl) ?_
      refine lv_iadd hx hb dX10_thenAt_64 ?_
      refine aM_mo_danger hx hb hK hw h.1 dX10_thenAt_65 ?_
      replace h := h.2
      refine lv_if_eq (tgt := 72) hx hb dX10_thenAt_66 (by decide) (fun hc => ?_) (fun hc => ?_)
      · replace h := h.1 hc
        refine lv_sipush (v := 128) hx hb dX10_thenAt_72 (by decide) ?_
        refine lv_iload hx hb dX10_thenAt_75 (lv_at hl 4 rfl) ?_
        refine lv_imul hx hb dX10_thenAt_77 ?_
        refine lv_iconst (v := 2) hx hb dX10_thenAt_78 (by decide) ?_
        refine lv_iload hx hb dX10_thenAt_79 (lv_at hl 0 rfl) ?_
        refine lv_imul hx hb dX10_thenAt_81 ?_
        refine lv_iadd hx hb dX10_thenAt_82 ?_
        refine lv_iload_n hx hb dX10_thenAt_83 rfl (lv_at hl 3 rfl) ?_
        refine lv_iconst (v := 2) hx hb dX10_thenAt_84 (by decide) ?_
        refine lv_irem hx hb dX10_thenAt_85 h.1 ?_
        replace h := h.2
        refine lv_iconst (v := 1) hx hb dX10_thenAt_86 (by decide) ?_
        refine lv_icmp_eq (tgt := 101) hx hb dX10_thenAt_87 (by decide) (fun hc => ?_) (fun hc => ?_)
        · replace h := h.1 hc
          refine lv_iconst (v := 1) hx hb dX10_thenAt_101 (by decide) ?_
          refine lv_goto (tgt := 106) hx hb dX10_thenAt_102 (by decide) ?_
          refine lv_iadd hx hb dX10_thenAt_106 ?_
          rw [hZ]
          exact rt_i () hx hb hr hlocks hw h dX10_thenAt_107
        · replace h := h.2 hc
          refine lv_iload hx hb dX10_thenAt_90 (lv_at hl 0 rfl) ?_
          refine lv_aload_n hx hb dX10_thenAt_92 rfl (lv_at hl 1 rfl) ?_
          refine gM_mo_pictureCell hx hb hts hin hown hK hw lk27 dX10_thenAt_93 ?_
          refine lv_iload_n hx hb dX10_thenAt_96 rfl (lv_at hl 2 rfl) ?_
          refine aM_mo_pictureCell hx hb hK hw h.1 dX10_thenAt_97 ?_
          replace h := h.2
          refine lv_icmp_ne (tgt := 105) hx hb dX10_thenAt_98 (by decide) (fun hc => ?_) (fun hc => ?_)
          · replace h := h.2 hc
            refine lv_iconst (v := 0) hx hb dX10_thenAt_105 (by decide) ?_
            refine lv_iadd hx hb dX10_thenAt_106 ?_
            rw [hZ]
            exact rt_i () hx hb hr hlocks hw h dX10_thenAt_107
          · replace h := h.1 hc
            refine lv_iconst (v := 1) hx hb dX10_thenAt_101 (by decide) ?_
            refine lv_goto (tgt := 106) hx hb dX10_thenAt_102 (by decide) ?_
            refine lv_iadd hx hb dX10_thenAt_106 ?_
            rw [hZ]
            exact rt_i () hx hb hr hlocks hw h dX10_thenAt_107
      · replace h := h.2 hc
        refine lv_bipush (v := (-9)) hx hb dX10_thenAt_69 (by decide) ?_
        rw [hZ]
        exact rt_i () hx hb hr hlocks hw h dX10_thenAt_71
  unfold P_mo_thenAt at h
  have he : entryFrame m args 8 = entryFrame m ([.ref (ad 0), .int x1, .int x2, .int x3] : List Value).toArray 8 := by rw [hav]
  refine W.eq he ?_
  have hl := lv_entry ([.ref (ad 0), .int x1, .int x2, .int x3]) (n := 8) (Nat.le_of_ble_eq_true rfl)
  rw [lg_entry_eq]
  generalize (lg_sl ([.ref (ad 0), .int x1, .int x2, .int x3]) ++ List.replicate (8 - (lg_sl ([.ref (ad 0), .int x1, .int x2, .int x3])).length) Slot.unset).toArray = ls at hl ⊢
  have hl : lv_has ls 8 [(0, .ref (ad 0)), (1, .int x1), (2, .int x2), (3, .int x3)] := hl
  refine lv_aload_n hx hb dX10_thenAt_0 rfl (lv_at hl 0 rfl) ?_
  refine cV_i (b := (ad 0)) (As := []) (rest := []) ⟨hx, hb, hml, hown, hts⟩ hK hw (c_mo_periodNow h) (cwV 0 hts (gd_RX10_172 hB) rfl rfl rfl (by decide +kernel) ⟨Nat.le_of_ble_eq_true rfl, Nat.le_of_ble_eq_true rfl⟩) (rM_mo hK hw) hl.1 ⟨Nat.zero_le _, Nat.zero_le _⟩ rfl rfl (Nat.le_of_ble_eq_true rfl) dX10_thenAt_1 (fun r1 _ H locs h hw => ?_)
  refine lv_istore (lv' := [(4, .int r1), (0, .ref (ad 0)), (1, .int x1), (2, .int x2), (3, .int x3)]) hx hb dX10_thenAt_4 hl (by decide) rfl (fun ls hl => ?_)
  refine lv_iload_n hx hb dX10_thenAt_6 rfl (lv_at hl 3 rfl) ?_
  refine lv_sipush (v := 128) hx hb dX10_thenAt_7 (by decide) ?_
  refine lv_idiv hx hb dX10_thenAt_10 h.1 ?_
  replace h := h.2
  refine lv_iconst (v := 1) hx hb dX10_thenAt_11 (by decide) ?_
  refine lv_iadd hx hb dX10_thenAt_12 ?_
  refine lv_iload hx hb dX10_thenAt_13 (lv_at hl 0 rfl) ?_
  refine lv_irem hx hb dX10_thenAt_15 h.1 ?_
  replace h := h.2
  refine lv_topi (fun x5_16 ex5_16 => ?_)
  replace h := h x5_16 ex5_16
  refine lv_istore (lv' := [(5, .int x5_16), (4, .int r1), (0, .ref (ad 0)), (1, .int x1), (2, .int x2), (3, .int x3)]) hx hb dX10_thenAt_16 hl (by decide) rfl (fun ls hl => ?_)
  refine lv_iload_n hx hb dX10_thenAt_18 rfl (lv_at hl 4 rfl) ?_
  refine lv_sipush (v := 128) hx hb dX10_thenAt_19 (by decide) ?_
  refine lv_irem hx hb dX10_thenAt_22 h.1 ?_
  replace h := h.2
  refine lv_iconst (v := 2) hx hb dX10_thenAt_23 (by decide) ?_
  refine lv_idiv hx hb dX10_thenAt_24 h.1 ?_
  replace h := h.2
  refine lv_topi (fun x6_25 ex6_25 => ?_)
  replace h := h x6_25 ex6_25
  refine lv_istore (lv' := [(6, .int x6_25), (5, .int x5_16), (4, .int r1), (0, .ref (ad 0)), (1, .int x1), (2, .int x2), (3, .int x3)]) hx hb dX10_thenAt_25 hl (by decide) rfl (fun ls hl => ?_)
  refine lv_iload_n hx hb dX10_thenAt_27 rfl (lv_at hl 6 rfl) ?_
  refine lv_iconst (v := 4) hx hb dX10_thenAt_28 (by decide) ?_
  refine lv_icmp_ne (tgt := 37) hx hb dX10_thenAt_29 (by decide) (fun hc => ?_) (fun hc => ?_)
  · replace h := h.2 hc
    refine lv_aload_n hx hb dX10_thenAt_37 rfl (lv_at hl 3 rfl) ?_
    refine lv_iload hx hb dX10_thenAt_38 (lv_at hl 0 rfl) ?_
    refine lv_iload_n hx hb dX10_thenAt_40 rfl (lv_at hl 6 rfl) ?_
    refine cV_i (b := (ad 0)) (As := [.int x6_25, .int x3]) (rest := []) ⟨hx, hb, hml, hown, hts⟩ hK hw (c_mo_beside x6_25 x3 h) (cwV 2 hts (gd_RX10_94 hB) rfl rfl rfl (by decide +kernel) ⟨Nat.le_of_ble_eq_true rfl, Nat.le_of_ble_eq_true rfl⟩) (rM_mo hK hw) hl.1 ⟨Nat.zero_le _, Nat.zero_le _⟩ rfl rfl (Nat.le_of_ble_eq_true rfl) dX10_thenAt_41 (fun r41 _ H locs h hw => ?_)
    exact J44 trivial  _ _ _ _ h _ _ _ hw (lv_sub hl [3, 4, 5, 1] rfl)
  · replace h := h.1 hc
    refine lv_iload hx hb dX10_thenAt_32 (lv_at hl 0 rfl) ?_
    refine lv_goto (tgt := 44) hx hb dX10_thenAt_34 (by decide) ?_
    exact J44 trivial  _ _ _ _ h _ _ _ hw (lv_sub hl [3, 4, 5, 1] rfl)
def rm_mo_theftStep : Room := { frames := 6, cells := 0, slots := 0, locals := 158 }
set_option maxHeartbeats 4000000 in
set_option maxRecDepth 100000 in
theorem c_mo_theftStep {l : Launch} {D : va_G} {cI cL cZ : ClassId} {mx my : Nat} {A : Nat → Prop} {ad : Nat → Nat} {mo_wide mo_tall mo_law mo_range mo_pictures mo_postMany : Int32} {mo_kind mo_queue mo_far mo_pictureCell mo_facing mo_sights mo_fewest mo_posts mo_left mo_roundMany mo_round mo_shift mo_thief mo_danger mo_old : Nat → Int32} (x1 : Int32) (x2 : Int32) (x3 : Int32) (x4 : Int32) {Q : Int32 → (Nat → Int32) → (Nat → Int32) → (Nat → Int32) → Prop} (h : P_mo_theftStep mo_wide mo_tall mo_kind mo_law mo_range mo_queue mo_pictures mo_pictureCell mo_roundMany mo_round mo_shift mo_thief mo_danger x1 x2 x3 x4 Q) : Met l yX10_theftStep wsX10_theftStep rm_mo_theftStep (va_Pc [.ref (ad 0), .int x1, .int x2, .int x3, .int x4] (WC D cI cL cZ mx my A (wdM cI cL cZ ad mo_wide mo_tall mo_kind mo_law mo_range mo_queue mo_far mo_pictures mo_pictureCell mo_facing mo_sights mo_fewest mo_posts mo_postMany mo_left mo_roundMany mo_round mo_shift mo_thief mo_danger mo_old))) (va_Qi (fun (r : Int32) (u : (Nat → Int32) × (Nat → Int32) × (Nat → Int32)) => Q r u.1 u.2.1 u.2.2) (fun (u : (Nat → Int32) × (Nat → Int32) × (Nat → Int32)) t => PW D A (wdM cI cL cZ ad mo_wide mo_tall mo_kind mo_law mo_range u.1 mo_far mo_pictures mo_pictureCell mo_facing mo_sights mo_fewest mo_posts mo_postMany mo_left mo_roundMany mo_round mo_shift u.2.1 u.2.2 mo_old) t.heap) A) 0 0 A := by
  refine Met.ofW (cc := cX10_theftStep) (maxL := 9) (ret := (some .int)) (by decide) rfl ?_
  intro p e s m args below meth c s₁ B hml hv
  obtain ⟨hav, hP0, hD0, hK⟩ := hv
  have hx := B.exec
  have hb := B.bytes
  have hr := B.returns
  have hts := atoms_spec (ws := wsX10_theftStep) B.pre
  have hown : s.vm.findClass RX10 = some m.cls := findClass_of_methodNamed B.named
  have hlocks := B.notSynchronized
  have hB : ∀ w ∈ BIG, w ∈ wsX10_theftStep := fun _ h => List.mem_cons_of_mem _ h
  have hin : ∀ w ∈ wsX100, w ∈ wsX10_theftStep := fun w h => hB w (inB_X10 w h)
  have lk54 := hts _ (hB _ m_949)
  obtain ⟨Z, hZ⟩ : ∃ Z : State → Prop, Z = MQ below (va_Qi (fun (r : Int32) (u : (Nat → Int32) × (Nat → Int32) × (Nat → Int32)) => Q r u.1 u.2.1 u.2.2) (fun (u : (Nat → Int32) × (Nat → Int32) × (Nat → Int32)) t => PW D A (wdM cI cL cZ ad mo_wide mo_tall mo_kind mo_law mo_range u.1 mo_far mo_pictures mo_pictureCell mo_facing mo_sights mo_fewest mo_posts mo_postMany mo_left mo_roundMany mo_round mo_shift u.2.1 u.2.2 mo_old) t.heap) A) args s 0 0 A := ⟨_, rfl⟩
  rw [← hZ]
  have hw : SW D A s.heap (wdM cI cL cZ ad mo_wide mo_tall mo_kind mo_law mo_range mo_queue mo_far mo_pictures mo_pictureCell mo_facing mo_sights mo_fewest mo_posts mo_postMany mo_left mo_roundMany mo_round mo_shift mo_thief mo_danger mo_old) s.heap [] := ⟨hP0, hD0, va_S.rf⟩
  clear hP0 hD0 B
  have J142 : ∀ (_ : True) (k86 : (Nat → Int32) → (Nat → Int32) → (Nat → Int32) → Int32 → Int32 → Int32 → Int32 → Int32 → Prop) (hk86 : ∀ (mo_queue : (Nat → Int32)) (mo_thief : (Nat → Int32)) (mo_danger : (Nat → Int32)) (x1 : Int32) (x4 : Int32) (x6 : Int32) (x7 : Int32) (x8 : Int32) , k86 mo_queue mo_thief mo_danger x1 x4 x6 x7 x8 → ∀ (H : Heap) (locs : List Loc) (ls : Array Slot), SW D A s.heap (wdM cI cL cZ ad mo_wide mo_tall mo_kind mo_law mo_range mo_queue mo_far mo_pictures mo_pictureCell mo_facing mo_sights mo_fewest mo_posts mo_postMany mo_left mo_roundMany mo_round mo_shift mo_thief mo_danger mo_old) H locs → lv_has ls 9 [(0, .ref (ad 0)), (1, .int x1), (4, .int x4), (6, .int x6), (7, .int x7), (8, .int x8)] → W p l e (headSpec wsX10_theftStep rm_mo_theftStep).room s m args below meth c H locs 0 0 Z (F0 m 86 ls [])) (mo_queue : (Nat → Int32)) (mo_thief : (Nat → Int32)) (mo_danger : (Nat → Int32)) (x1 : Int32) (x4 : Int32) (x6 : Int32) (x7 : Int32) (x8 : Int32) , B_mo_theftStep_142 mo_wide mo_tall mo_kind mo_pictureCell mo_roundMany Q k86 mo_queue mo_thief mo_danger x1 x4 x6 x7 x8 → ∀ (H : Heap) (locs : List Loc) (ls : Array Slot), SW D A s.heap (wdM cI cL cZ ad mo_wide mo_tall mo_kind mo_law mo_range mo_queue mo_far mo_pictures mo_pictureCell mo_facing mo_sights mo_fewest mo_posts mo_postMany mo_left mo_roundMany mo_round mo_shift mo_thief mo_danger mo_old) H locs → lv_has ls 9 [(0, .ref (ad 0)), (1, .int x1), (4, .int x4), (6, .int x6), (7, .int x7), (8, .int x8)] → W p l e (headSpec wsX10_theftStep rm_mo_theftStep).room s m args below meth c H locs 0 0 Z (F0 m 142 ls []) := by
    intro _ k86 hk86 mo_queue mo_thief mo_danger x1 x4 x6 x7 x8 h H locs ls hw hl
    unfold B_mo_theftStep_142 at h
    refine lv_aload_n hx hb dX10_theftStep_142 rfl (lv_at hl 0 rfl) ?_
    refine lv_iload_n hx hb dX10_theftStep_143 rfl (lv_at hl 1 rfl) ?_
    refine lv_iload hx hb dX10_theftStep_144 (lv_at hl 3 rfl) ?_
    refine lv_iload hx hb dX10_theftStep_146 (lv_at hl 4 rfl) ?_
    refine cV_i (b := (ad 0)) (As := [.int x1, .int x6, .int x7]) (rest := []) ⟨hx, hb, hml, hown, hts⟩ hK hw (c_mo_thenAt x1 x6 x7 h) (cwV 3 hts (gd_RX10_209 hB) rfl rfl rfl (by decide +kernel) ⟨Nat.le_of_ble_eq_true rfl, Nat.le_of_ble_eq_true rfl⟩) (rM_mo hK hw) hl.1 ⟨Nat.zero_le _, Nat.zero_le _⟩ rfl rfl (Nat.le_of_ble_eq_true rfl) dX10_theftStep_148 (fun r148 _ H locs h hw => ?_)
    refine lv_istore (lv' := [(6, .int r148), (0, .ref (ad 0)), (1, .int x1), (4, .int x4), (7, .int x7), (8, .int x8)]) hx hb dX10_theftStep_151 hl (by decide) rfl (fun ls hl => ?_)
    refine lv_iinc (v := (x8 + (1 : Int32))) (lv' := [(8, .int (x8 + (1 : Int32))), (6, .int r148), (0, .ref (ad 0)), (1, .int x1), (4, .int x4), (7, .int x7)]) hx hb dX10_theftStep_153 hl (k := 5) rfl rfl (by decide) rfl (fun ls hl => ?_)
    refine lv_goto (tgt := 86) hx hb dX10_theftStep_156 (by decide) ?_
    exact hk86 _ _ _ _ _ _ _ _ h _ _ _ hw (lv_sub hl [2, 3, 4, 1, 5, 0] rfl)
  have J96 : ∀ (k86 : (Nat → Int32) → (Nat → Int32) → (Nat → Int32) → Int32 → Int32 → Int32 → Int32 → Int32 → Prop) (hk86 : ∀ (mo_queue : (Nat → Int32)) (mo_thief : (Nat → Int32)) (mo_danger : (Nat → Int32)) (x1 : Int32) (x4 : Int32) (x6 : Int32) (x7 : Int32) (x8 : Int32) , k86 mo_queue mo_thief mo_danger x1 x4 x6 x7 x8 → ∀ (H : Heap) (locs : List Loc) (ls : Array Slot), SW D A s.heap (wdM cI cL cZ ad mo_wide mo_tall mo_kind mo_law mo_range mo_queue mo_far mo_pictures mo_pictureCell mo_facing mo_sights mo_fewest mo_posts mo_postMany mo_left mo_roundMany mo_round mo_shift mo_thief mo_danger mo_old) H locs → lv_has ls 9 [(0, .ref (ad 0)), (1, .int x1), (4, .int x4), (6, .int x6), (7, .int x7), (8, .int x8)] → W p l e (headSpec wsX10_theftStep rm_mo_theftStep).room s m args below meth c H locs 0 0 Z (F0 m 86 ls [])) (n : Nat) (mo_queue : (Nat → Int32)) (mo_thief : (Nat → Int32)) (mo_danger : (Nat → Int32)) (x1 : Int32) (x4 : Int32) (x6 : Int32) (x7 : Int32) (x8 : Int32) , L_mo_theftStep_96 mo_wide mo_tall mo_kind mo_pictureCell mo_roundMany Q k86 n mo_queue mo_thief mo_danger x1 x4 x6 x7 x8 → ∀ (H : Heap) (locs : List Loc) (ls : Array Slot), SW D A s.heap (wdM cI cL cZ ad mo_wide mo_tall mo_kind mo_law mo_range mo_queue mo_far mo_pictures mo_pictureCell mo_facing mo_sights mo_fewest mo_posts mo_postMany mo_left mo_roundMany mo_round mo_shift mo_thief mo_danger mo_old) H locs → lv_has ls 9 [(0, .ref (ad 0)), (1, .int x1), (4, .int x4), (6, .int x6), (7, .int x7), (8, .int x8)] → W p l e (headSpec wsX10_theftStep rm_mo_theftStep).room s m args below meth c H locs 0 0 Z (F0 m 96 ls []) := by
    intro k86 hk86 n
    induction n with
    | zero => intro mo_queue mo_thief mo_danger x1 x4 x6 x7 x8 h; exact h.elim
    | succ n ih =>
    intro mo_queue mo_thief mo_danger x1 x4 x6 x7 x8 h H locs ls hw hl
    unfold L_mo_theftStep_96 at h
    refine lv_aload_n hx hb dX10_theftStep_96 rfl (lv_at hl 0 rfl) ?_
    refine lv_iload_n hx hb dX10_theftStep_97 rfl (lv_at hl 1 rfl) ?_
    refine lv_iload hx hb dX10_theftStep_98 (lv_at hl 3 rfl) ?_
    refine lv_iload hx hb dX10_theftStep_100 (lv_at hl 4 rfl) ?_
    refine cV_i (b := (ad 0)) (As := [.int x1, .int x6, .int x7]) (rest := []) ⟨hx, hb, hml, hown, hts⟩ hK hw (c_mo_thenAt x1 x6 x7 h) (cwV 3 hts (gd_RX10_209 hB) rfl rfl rfl (by decide +kernel) ⟨Nat.le_of_ble_eq_true rfl, Nat.le_of_ble_eq_true rfl⟩) (rM_mo hK hw) hl.1 ⟨Nat.zero_le _, Nat.zero_le _⟩ rfl rfl (Nat.le_of_ble_eq_true rfl) dX10_theftStep_102 (fun r102 _ H locs h hw => ?_)
    refine lv_bipush (v := (-9)) hx hb dX10_theftStep_105 (by decide) ?_
    refine lv_icmp_eq (tgt := 136) hx hb dX10_theftStep_107 (by decide) (fun hc => ?_) (fun hc => ?_)
    · replace h := h.1 hc
      refine lv_iinc (v := (x7 + (1 : Int32))) (lv' := [(7, .int (x7 + (1 : Int32))), (0, .ref (ad 0)), (1, .int x1), (4, .int x4), (6, .int x6), (8, .int x8)]) hx hb dX10_theftStep_136 hl (k := 4) rfl rfl (by decide) rfl (fun ls hl => ?_)
      refine lv_goto (tgt := 96) hx hb dX10_theftStep_139 (by decide) ?_
      exact ih _ _ _ _ _ _ _ _ h _ _ _ hw (lv_sub hl [1, 2, 3, 4, 0, 5] rfl)
    · replace h := h.2 hc
      refine lv_aload_n hx hb dX10_theftStep_110 rfl (lv_at hl 0 rfl) ?_
      refine gM_mo_thief hx hb hts hin hown hK hw lk54 dX10_theftStep_111 ?_
      refine lv_aload_n hx hb dX10_theftStep_114 rfl (lv_at hl 0 rfl) ?_
      refine lv_iload_n hx hb dX10_theftStep_115 rfl (lv_at hl 1 rfl) ?_
      refine lv_iload hx hb dX10_theftStep_116 (lv_at hl 3 rfl) ?_
      refine lv_iload hx hb dX10_theftStep_118 (lv_at hl 4 rfl) ?_
      refine cV_i (b := (ad 0)) (As := [.int x1, .int x6, .int x7]) (rest := [.ref (ad 13)]) ⟨hx, hb, hml, hown, hts⟩ hK hw (c_mo_thenAt x1 x6 x7 h) (cwV 3 hts (gd_RX10_209 hB) rfl rfl rfl (by decide +kernel) ⟨Nat.le_of_ble_eq_true rfl, Nat.le_of_ble_eq_true rfl⟩) (rM_mo hK hw) hl.1 ⟨Nat.zero_le _, Nat.zero_le _⟩ rfl rfl (Nat.le_of_ble_eq_true rfl) dX10_theftStep_120 (fun r120 _ H locs h hw => ?_)
      refine aM_mo_thief hx hb hK hw h.1 dX10_theftStep_123 ?_
      replace h := h.2
      refine lv_aload_n hx hb dX10_theftStep_124 rfl (lv_at hl 0 rfl) ?_
      refine gM_mo_thief hx hb hts hin hown hK hw lk54 dX10_theftStep_125 ?_
      refine lv_iload hx hb dX10_theftStep_128 (lv_at hl 3 rfl) ?_
      refine aM_mo_thief hx hb hK hw h.1 dX10_theftStep_130 ?_
      replace h := h.2
      refine lv_iconst (v := 1) hx hb dX10_theftStep_131 (by decide) ?_
      refine lv_isub hx hb dX10_theftStep_132 ?_
      refine lv_icmp_eq (tgt := 142) hx hb dX10_theftStep_133 (by decide) (fun hc => ?_) (fun hc => ?_)
      · replace h := h.1 hc
        exact J142 trivial k86 hk86 _ _ _ _ _ _ _ _ h _ _ _ hw (lv_sub hl [0, 1, 2, 3, 4, 5] rfl)
      · replace h := h.2 hc
        refine lv_iinc (v := (x7 + (1 : Int32))) (lv' := [(7, .int (x7 + (1 : Int32))), (0, .ref (ad 0)), (1, .int x1), (4, .int x4), (6, .int x6), (8, .int x8)]) hx hb dX10_theftStep_136 hl (k := 4) rfl rfl (by decide) rfl (fun ls hl => ?_)
        refine lv_goto (tgt := 96) hx hb dX10_theftStep_139 (by decide) ?_
        exact ih _ _ _ _ _ _ _ _ h _ _ _ hw (lv_sub hl [1, 2, 3, 4, 0, 5] rfl)
  have J86 : ∀ (n : Nat) (mo_queue : (Nat → Int32)) (mo_thief : (Nat → Int32)) (mo_danger : (Nat → Int32)) (x1 : Int32) (x4 : Int32) (x6 : Int32) (x7 : Int32) (x8 : Int32) , L_mo_theftStep_86 mo_wide mo_tall mo_kind mo_pictureCell mo_roundMany Q n mo_queue mo_thief mo_danger x1 x4 x6 x7 x8 → ∀ (H : Heap) (locs : List Loc) (ls : Array Slot), SW D A s.heap (wdM cI cL cZ ad mo_wide mo_tall mo_kind mo_law mo_range mo_queue mo_far mo_pictures mo_pictureCell mo_facing mo_sights mo_fewest mo_posts mo_postMany mo_left mo_roundMany mo_round mo_shift mo_thief mo_danger mo_old) H locs → lv_has ls 9 [(0, .ref (ad 0)), (1, .int x1), (4, .int x4), (6, .int x6), (7, .int x7), (8, .int x8)] → W p l e (headSpec wsX10_theftStep rm_mo_theftStep).room s m args below meth c H locs 0 0 Z (F0 m 86 ls []) := by
    intro  n
    induction n with
    | zero => intro mo_queue mo_thief mo_danger x1 x4 x6 x7 x8 h; exact h.elim
    | succ n ih =>
    intro mo_queue mo_thief mo_danger x1 x4 x6 x7 x8 h H locs ls hw hl
    unfold L_mo_theftStep_86 at h
    refine lv_iload hx hb dX10_theftStep_86 (lv_at hl 5 rfl) ?_
    refine lv_iload hx hb dX10_theftStep_88 (lv_at hl 2 rfl) ?_
    refine lv_icmp_gt (tgt := 159) hx hb dX10_theftStep_90 (by decide) (fun hc => ?_) (fun hc => ?_)
    · replace h := h.1 hc
      refine lv_iload hx hb dX10_theftStep_159 (lv_at hl 4 rfl) ?_
      rw [hZ]
      exact rt_i (mo_queue, mo_thief, mo_danger) hx hb hr hlocks hw h dX10_theftStep_161
    · replace h := h.2 hc
      refine lv_iconst (v := 0) hx hb dX10_theftStep_93 (by decide) ?_
      refine lv_istore (lv' := [(7, .int (0 : Int32)), (0, .ref (ad 0)), (1, .int x1), (4, .int x4), (6, .int x6), (8, .int x8)]) hx hb dX10_theftStep_94 hl (by decide) rfl (fun ls hl => ?_)
      obtain ⟨n96, h⟩ := h
      exact J96 (L_mo_theftStep_86 mo_wide mo_tall mo_kind mo_pictureCell mo_roundMany Q n) ih n96 _ _ _ _ _ _ _ _ h _ _ _ hw (lv_sub hl [1, 2, 3, 4, 0, 5] rfl)
  unfold P_mo_theftStep at h
  have he : entryFrame m args 9 = entryFrame m ([.ref (ad 0), .int x1, .int x2, .int x3, .int x4] : List Value).toArray 9 := by rw [hav]
  refine W.eq he ?_
  have hl := lv_entry ([.ref (ad 0), .int x1, .int x2, .int x3, .int x4]) (n := 9) (Nat.le_of_ble_eq_true rfl)
  rw [lg_entry_eq]
  generalize (lg_sl ([.ref (ad 0), .int x1, .int x2, .int x3, .int x4]) ++ List.replicate (9 - (lg_sl ([.ref (ad 0), .int x1, .int x2, .int x3, .int x4])).length) Slot.unset).toArray = ls at hl ⊢
  have hl : lv_has ls 9 [(0, .ref (ad 0)), (1, .int x1), (2, .int x2), (3, .int x3), (4, .int x4)] := hl
  refine lv_aload_n hx hb dX10_theftStep_0 rfl (lv_at hl 0 rfl) ?_
  refine lv_iload_n hx hb dX10_theftStep_1 rfl (lv_at hl 1 rfl) ?_
  refine lv_iload_n hx hb dX10_theftStep_2 rfl (lv_at hl 2 rfl) ?_
  refine lv_iload_n hx hb dX10_theftStep_3 rfl (lv_at hl 3 rfl) ?_
  refine cV_i (b := (ad 0)) (As := [.int x1, .int x2, .int x3]) (rest := []) ⟨hx, hb, hml, hown, hts⟩ hK hw (c_mo_mayAsk x1 x2 x3 h) (cwV 3 hts (gd_RX10_196 hB) rfl rfl rfl (by decide +kernel) ⟨Nat.le_of_ble_eq_true rfl, Nat.le_of_ble_eq_true rfl⟩) (rM_mo hK hw) hl.1 ⟨Nat.zero_le _, Nat.zero_le _⟩ rfl rfl (Nat.le_of_ble_eq_true rfl) dX10_theftStep_4 (fun r4 _ H locs h hw => ?_)
  refine lv_istore (lv' := [(5, .int r4), (0, .ref (ad 0)), (1, .int x1), (2, .int x2), (3, .int x3), (4, .int x4)]) hx hb dX10_theftStep_7 hl (by decide) rfl (fun ls hl => ?_)
  refine lv_iload hx hb dX10_theftStep_9 (lv_at hl 0 rfl) ?_
  refine lv_if_ge (tgt := 17) hx hb dX10_theftStep_11 (by decide) (fun hc => ?_) (fun hc => ?_)
  · replace h := h.1 hc
    refine lv_aload_n hx hb dX10_theftStep_17 rfl (lv_at hl 1 rfl) ?_
    refine lv_iload_n hx hb dX10_theftStep_18 rfl (lv_at hl 3 rfl) ?_
    refine lv_iload_n hx hb dX10_theftStep_19 rfl (lv_at hl 4 rfl) ?_
    refine cV_i (b := (ad 0)) (As := [.int x2, .int x3]) (rest := []) ⟨hx, hb, hml, hown, hts⟩ hK hw (c_mo_mayBegin x2 x3 h) (cwV 2 hts (gd_RX10_200 hB) rfl rfl rfl (by decide +kernel) ⟨Nat.le_of_ble_eq_true rfl, Nat.le_of_ble_eq_true rfl⟩) (rM_mo hK hw) hl.1 ⟨Nat.zero_le _, Nat.zero_le _⟩ rfl rfl (Nat.le_of_ble_eq_true rfl) dX10_theftStep_20 (fun r20 _ H locs h hw => ?_)
    refine lv_if_ne (tgt := 29) hx hb dX10_theftStep_23 (by decide) (fun hc => ?_) (fun hc => ?_)
    · replace h := h.2 hc
      refine lv_aload_n hx hb dX10_theftStep_29 rfl (lv_at hl 1 rfl) ?_
      refine lv_iload_n hx hb dX10_theftStep_30 rfl (lv_at hl 2 rfl) ?_
      refine lv_iload_n hx hb dX10_theftStep_31 rfl (lv_at hl 3 rfl) ?_
      refine cV_v (b := (ad 0)) (As := [.int x1, .int x2]) (rest := []) ⟨hx, hb, hml, hown, hts⟩ hK hw (c_mo_layTheft x1 x2 h) (cwV 2 hts (gd_RX10_203 hB) rfl rfl rfl (by decide +kernel) ⟨Nat.le_of_ble_eq_true rfl, Nat.le_of_ble_eq_true rfl⟩) (rM_mo hK hw) hl.1 ⟨Nat.zero_le _, Nat.zero_le _⟩ rfl rfl (Nat.le_of_ble_eq_true rfl) dX10_theftStep_32 (fun u32 H locs h hw => ?_)
      obtain ⟨mo_queue_32, mo_thief_32, mo_danger_32⟩ := u32
      refine lv_aload_n hx hb dX10_theftStep_35 rfl (lv_at hl 1 rfl) ?_
      refine lv_iload_n hx hb dX10_theftStep_36 rfl (lv_at hl 2 rfl) ?_
      refine lv_iload_n hx hb dX10_theftStep_37 rfl (lv_at hl 3 rfl) ?_
      refine lv_iload_n hx hb dX10_theftStep_38 rfl (lv_at hl 4 rfl) ?_
      refine cV_i (b := (ad 0)) (As := [.int x1, .int x2, .int x3]) (rest := []) ⟨hx, hb, hml, hown, hts⟩ hK hw (c_mo_beginOf x1 x2 x3 h) (cwV 3 hts (gd_RX10_206 hB) rfl rfl rfl (by decide +kernel) ⟨Nat.le_of_ble_eq_true rfl, Nat.le_of_ble_eq_true rfl⟩) (rM_mo hK hw) hl.1 ⟨Nat.zero_le _, Nat.zero_le _⟩ rfl rfl (Nat.le_of_ble_eq_true rfl) dX10_theftStep_39 (fun r39 _ H locs h hw => ?_)
      refine lv_istore (lv' := [(6, .int r39), (5, .int r4), (0, .ref (ad 0)), (1, .int x1), (2, .int x2), (3, .int x3), (4, .int x4)]) hx hb dX10_theftStep_42 hl (by decide) rfl (fun ls hl => ?_)
      refine lv_aload_n hx hb dX10_theftStep_44 rfl (lv_at hl 2 rfl) ?_
      refine gM_mo_thief hx hb hts hin hown hK hw lk54 dX10_theftStep_45 ?_
      refine lv_iload hx hb dX10_theftStep_48 (lv_at hl 0 rfl) ?_
      refine aM_mo_thief hx hb hK hw h.1 dX10_theftStep_50 ?_
      replace h := h.2
      refine lv_bipush (v := (-9)) hx hb dX10_theftStep_51 (by decide) ?_
      refine lv_icmp_eq (tgt := 76) hx hb dX10_theftStep_53 (by decide) (fun hc => ?_) (fun hc => ?_)
      · replace h := h.1 hc
        refine lv_bipush (v := (-9)) hx hb dX10_theftStep_76 (by decide) ?_
        rw [hZ]
        exact rt_i (mo_queue_32, mo_thief_32, mo_danger_32) hx hb hr hlocks hw h dX10_theftStep_78
      · replace h := h.2 hc
        refine lv_iload hx hb dX10_theftStep_56 (lv_at hl 6 rfl) ?_
        refine lv_i2l hx hb dX10_theftStep_58 rfl ?_
        refine lv_lconst (v := 0) hx hb dX10_theftStep_59 (by decide) ?_
        refine lv_aload_n hx hb dX10_theftStep_60 rfl (lv_at hl 2 rfl) ?_
        refine gM_mo_thief hx hb hts hin hown hK hw lk54 dX10_theftStep_61 ?_
        refine lv_iload hx hb dX10_theftStep_64 (lv_at hl 0 rfl) ?_
        refine aM_mo_thief hx hb hK hw h.1 dX10_theftStep_66 ?_
        replace h := h.2
        refine lv_iconst (v := 1) hx hb dX10_theftStep_67 (by decide) ?_
        refine lv_isub hx hb dX10_theftStep_68 ?_
        refine lv_i2l hx hb dX10_theftStep_69 rfl ?_
        refine cS_i (As := [.long (Int32.toInt64 x4), .long (0 : Int64), .long (Int32.toInt64 ((mo_thief_32 r39.toNatClampNeg) - (1 : Int32)))]) (rest := []) ⟨hx, hb, hml, hown, hts⟩ hK hw (c_mo_in (Int32.toInt64 x4) (0 : Int64) (Int32.toInt64 ((mo_thief_32 r39.toNatClampNeg) - (1 : Int32))) h) (va_cwS 3 hts (gd_RX10_77 hB) rfl rfl rfl (by decide +kernel) ⟨Nat.le_of_ble_eq_true rfl, Nat.le_of_ble_eq_true rfl⟩) hl.1 ⟨Nat.zero_le _, Nat.zero_le _⟩ rfl rfl (Nat.le_of_ble_eq_true rfl) dX10_theftStep_70 (fun r70 _ H locs h hw => ?_)
        refine lv_if_ne (tgt := 79) hx hb dX10_theftStep_73 (by decide) (fun hc => ?_) (fun hc => ?_)
        · replace h := h.2 hc
          refine lv_bipush (v := (-9)) hx hb dX10_theftStep_79 (by decide) ?_
          refine lv_istore (lv' := [(7, .int (-9 : Int32)), (6, .int r39), (5, .int r4), (0, .ref (ad 0)), (1, .int x1), (2, .int x2), (3, .int x3), (4, .int x4)]) hx hb dX10_theftStep_81 hl (by decide) rfl (fun ls hl => ?_)
          refine lv_iconst (v := 0) hx hb dX10_theftStep_83 (by decide) ?_
          refine lv_istore (lv' := [(8, .int (0 : Int32)), (7, .int (-9 : Int32)), (6, .int r39), (5, .int r4), (0, .ref (ad 0)), (1, .int x1), (2, .int x2), (3, .int x3), (4, .int x4)]) hx hb dX10_theftStep_84 hl (by decide) rfl (fun ls hl => ?_)
          obtain ⟨n86, h⟩ := h
          exact J86  n86 _ _ _ _ _ _ _ _ h _ _ _ hw (lv_sub hl [4, 5, 8, 2, 1, 0] rfl)
        · replace h := h.1 hc
          refine lv_bipush (v := (-9)) hx hb dX10_theftStep_76 (by decide) ?_
          rw [hZ]
          exact rt_i (mo_queue_32, mo_thief_32, mo_danger_32) hx hb hr hlocks hw h dX10_theftStep_78
    · replace h := h.1 hc
      refine lv_bipush (v := (-9)) hx hb dX10_theftStep_26 (by decide) ?_
      rw [hZ]
      exact rt_i (mo_queue, mo_thief, mo_danger) hx hb hr hlocks hw h dX10_theftStep_28
  · replace h := h.2 hc
    refine lv_iload hx hb dX10_theftStep_14 (lv_at hl 0 rfl) ?_
    rw [hZ]
    exact rt_i (mo_queue, mo_thief, mo_danger) hx hb hr hlocks hw h dX10_theftStep_16
