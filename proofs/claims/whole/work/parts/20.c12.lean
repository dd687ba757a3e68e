def rm_mo_isWayClear : Room := { frames := 1, cells := 0, slots := 0, locals := 23 }
set_option maxHeartbeats 4000000 in
set_option maxRecDepth 100000 in
theorem c_mo_isWayClear {l : Launch} {D : va_G} {cI cL cZ : ClassId} {mx my : Nat} {A : Nat → Prop} {ad : Nat → Nat} {mo_wide mo_tall mo_law mo_range mo_pictures mo_postMany : Int32} {mo_kind mo_queue mo_far mo_pictureCell mo_facing mo_sights mo_fewest mo_posts mo_left mo_roundMany mo_round mo_shift mo_thief mo_danger mo_old : Nat → Int32} (x1 : Int32) (x2 : Int32) {Q : Int32 → Prop} (h : P_mo_isWayClear mo_wide mo_kind x1 x2 Q) : Met l yX10_isWayClear wsX10_isWayClear rm_mo_isWayClear (va_Pc [.ref (ad 0), .int x1, .int x2] (WC D cI cL cZ mx my A (wdM cI cL cZ ad mo_wide mo_tall mo_kind mo_law mo_range mo_queue mo_far mo_pictures mo_pictureCell mo_facing mo_sights mo_fewest mo_posts mo_postMany mo_left mo_roundMany mo_round mo_shift mo_thief mo_danger mo_old))) (va_Qi (fun (r : Int32) (u : Unit) => Q r) (fun (u : Unit) t => PW D A (wdM cI cL cZ ad mo_wide mo_tall mo_kind mo_law mo_range mo_queue mo_far mo_pictures mo_pictureCell mo_facing mo_sights mo_fewest mo_posts mo_postMany mo_left mo_roundMany mo_round mo_shift mo_thief mo_danger mo_old) t.heap) A) 0 0 A := by
  refine Met.ofW (cc := cX10_isWayClear) (maxL := 13) (ret := (some .boolean)) (by decide) rfl ?_
  intro p e s m args below meth c s₁ B hml hv
  obtain ⟨hav, hP0, hD0, hK⟩ := hv
  have hx := B.exec
  have hb := B.bytes
  have hr := B.returns
  have hts := atoms_spec (ws := wsX10_isWayClear) B.pre
  have hown : s.vm.findClass RX10 = some m.cls := findClass_of_methodNamed B.named
  have hlocks := B.notSynchronized
  have hB : ∀ w ∈ BIG, w ∈ wsX10_isWayClear := fun _ h => List.mem_cons_of_mem _ h
  have hin : ∀ w ∈ wsX100, w ∈ wsX10_isWayClear := fun w h => hB w (inB_X10 w h)
  have lk68 := hts _ (hB _ m_931)
  obtain ⟨Z, hZ⟩ : ∃ Z : State → Prop, Z = MQ below (va_Qi (fun (r : Int32) (u : Unit) => Q r) (fun (u : Unit) t => PW D A (wdM cI cL cZ ad mo_wide mo_tall mo_kind mo_law mo_range mo_queue mo_far mo_pictures mo_pictureCell mo_facing mo_sights mo_fewest mo_posts mo_postMany mo_left mo_roundMany mo_round mo_shift mo_thief mo_danger mo_old) t.heap) A) args s 0 0 A := ⟨_, rfl⟩
  rw [← hZ]
  have hw : SW D A s.heap (wdM cI cL cZ ad mo_wide mo_tall mo_kind mo_law mo_range mo_queue mo_far mo_pictures mo_pictureCell mo_facing mo_sights mo_fewest mo_posts mo_postMany mo_left mo_roundMany mo_round mo_shift mo_thief mo_danger mo_old) s.heap [] := ⟨hP0, hD0, va_S.rf⟩
  clear hP0 hD0 B
  have J203 : ∀ (_ : True) (k78 : Int32 → Int32 → Int32 → Int32 → Int32 → Int32 → Int32 → Int32 → Int32 → Prop) (hk78 : ∀ (x3 : Int32) (x4 : Int32) (x5 : Int32) (x6 : Int32) (x7 : Int32) (x8 : Int32) (x9 : Int32) (x10 : Int32) (x11 : Int32) , k78 x3 x4 x5 x6 x7 x8 x9 x10 x11 → ∀ (H : Heap) (locs : List Loc) (ls : Array Slot), SW D A s.heap (wdM cI cL cZ ad mo_wide mo_tall mo_kind mo_law mo_range mo_queue mo_far mo_pictures mo_pictureCell mo_facing mo_sights mo_fewest mo_posts mo_postMany mo_left mo_roundMany mo_round mo_shift mo_thief mo_danger mo_old) H locs → lv_has ls 13 [(0, .ref (ad 0)), (3, .int x3), (4, .int x4), (5, .int x5), (6, .int x6), (7, .int x7), (8, .int x8), (9, .int x9), (10, .int x10), (11, .int x11)] → W p l e (headSpec wsX10_isWayClear rm_mo_isWayClear).room s m args below meth c H locs 0 0 Z (F0 m 78 ls [])) (x3 : Int32) (x4 : Int32) (x5 : Int32) (x6 : Int32) (x7 : Int32) (x8 : Int32) (x9 : Int32) (x10 : Int32) (x11 : Int32) , B_mo_isWayClear_203 mo_wide mo_kind Q k78 x3 x4 x5 x6 x7 x8 x9 x10 x11 → ∀ (H : Heap) (locs : List Loc) (ls : Array Slot), SW D A s.heap (wdM cI cL cZ ad mo_wide mo_tall mo_kind mo_law mo_range mo_queue mo_far mo_pictures mo_pictureCell mo_facing mo_sights mo_fewest mo_posts mo_postMany mo_left mo_roundMany mo_round mo_shift mo_thief mo_danger mo_old) H locs → lv_has ls 13 [(0, .ref (ad 0)), (3, .int x3), (4, .int x4), (5, .int x5), (6, .int x6), (7, .int x7), (8, .int x8), (9, .int x9), (10, .int x10), (11, .int x11)] → W p l e (headSpec wsX10_isWayClear rm_mo_isWayClear).room s m args below meth c H locs 0 0 Z (F0 m 203 ls []) := by
    intro _ k78 hk78 x3 x4 x5 x6 x7 x8 x9 x10 x11 h H locs ls hw hl
    unfold B_mo_isWayClear_203 at h
    refine lv_iload hx hb dX10_isWayClear_203 (lv_at hl 9 rfl) ?_
    refine lv_if_eq (tgt := 222) hx hb dX10_isWayClear_205 (by decide) (fun hc => ?_) (fun hc => ?_)
    · replace h := h.1 hc
      refine lv_iconst (v := 0) hx hb dX10_isWayClear_222 (by decide) ?_
      refine lv_istore (lv' := [(11, .int (0 : Int32)), (0, .ref (ad 0)), (3, .int x3), (4, .int x4), (5, .int x5), (6, .int x6), (7, .int x7), (8, .int x8), (9, .int x9), (10, .int x10)]) hx hb dX10_isWayClear_223 hl (by decide) rfl (fun ls hl => ?_)
      refine lv_goto (tgt := 78) hx hb dX10_isWayClear_225 (by decide) ?_
      exact hk78 _ _ _ _ _ _ _ _ _ h _ _ _ hw (lv_sub hl [1, 2, 3, 4, 5, 6, 7, 8, 9, 0] rfl)
    · replace h := h.2 hc
      refine lv_aload_n hx hb dX10_isWayClear_208 rfl (lv_at hl 0 rfl) ?_
      refine lv_iload_n hx hb dX10_isWayClear_209 rfl (lv_at hl 1 rfl) ?_
      refine lv_iload hx hb dX10_isWayClear_210 (lv_at hl 2 rfl) ?_
      refine cV_i (b := (ad 0)) (As := [.int x3, .int x4]) (rest := []) ⟨hx, hb, hml, hown, hts⟩ hK hw (c_mo_isClear x3 x4 h) (cwV 2 hts (gd_RX10_106 hB) rfl rfl rfl (by decide +kernel) ⟨Nat.le_of_ble_eq_true rfl, Nat.le_of_ble_eq_true rfl⟩) (rM_mo hK hw) hl.1 ⟨Nat.zero_le _, Nat.zero_le _⟩ rfl rfl (Nat.le_of_ble_eq_true rfl) dX10_isWayClear_212 (fun r212 _ H locs h hw => ?_)
      refine lv_if_eq (tgt := 222) hx hb dX10_isWayClear_215 (by decide) (fun hc => ?_) (fun hc => ?_)
      · replace h := h.1 hc
        refine lv_iconst (v := 0) hx hb dX10_isWayClear_222 (by decide) ?_
        refine lv_istore (lv' := [(11, .int (0 : Int32)), (0, .ref (ad 0)), (3, .int x3), (4, .int x4), (5, .int x5), (6, .int x6), (7, .int x7), (8, .int x8), (9, .int x9), (10, .int x10)]) hx hb dX10_isWayClear_223 hl (by decide) rfl (fun ls hl => ?_)
        refine lv_goto (tgt := 78) hx hb dX10_isWayClear_225 (by decide) ?_
        exact hk78 _ _ _ _ _ _ _ _ _ h _ _ _ hw (lv_sub hl [1, 2, 3, 4, 5, 6, 7, 8, 9, 0] rfl)
      · replace h := h.2 hc
        refine lv_iconst (v := 1) hx hb dX10_isWayClear_218 (by decide) ?_
        refine lv_goto (tgt := 223) hx hb dX10_isWayClear_219 (by decide) ?_
        refine lv_istore (lv' := [(11, .int (1 : Int32)), (0, .ref (ad 0)), (3, .int x3), (4, .int x4), (5, .int x5), (6, .int x6), (7, .int x7), (8, .int x8), (9, .int x9), (10, .int x10)]) hx hb dX10_isWayClear_223 hl (by decide) rfl (fun ls hl => ?_)
        refine lv_goto (tgt := 78) hx hb dX10_isWayClear_225 (by decide) ?_
        exact hk78 _ _ _ _ _ _ _ _ _ h _ _ _ hw (lv_sub hl [1, 2, 3, 4, 5, 6, 7, 8, 9, 0] rfl)
  have J154 : ∀ (_ : True) (k78 : Int32 → Int32 → Int32 → Int32 → Int32 → Int32 → Int32 → Int32 → Int32 → Prop) (hk78 : ∀ (x3 : Int32) (x4 : Int32) (x5 : Int32) (x6 : Int32) (x7 : Int32) (x8 : Int32) (x9 : Int32) (x10 : Int32) (x11 : Int32) , k78 x3 x4 x5 x6 x7 x8 x9 x10 x11 → ∀ (H : Heap) (locs : List Loc) (ls : Array Slot), SW D A s.heap (wdM cI cL cZ ad mo_wide mo_tall mo_kind mo_law mo_range mo_queue mo_far mo_pictures mo_pictureCell mo_facing mo_sights mo_fewest mo_posts mo_postMany mo_left mo_roundMany mo_round mo_shift mo_thief mo_danger mo_old) H locs → lv_has ls 13 [(0, .ref (ad 0)), (3, .int x3), (4, .int x4), (5, .int x5), (6, .int x6), (7, .int x7), (8, .int x8), (9, .int x9), (10, .int x10), (11, .int x11)] → W p l e (headSpec wsX10_isWayClear rm_mo_isWayClear).room s m args below meth c H locs 0 0 Z (F0 m 78 ls [])) (x3 : Int32) (x4 : Int32) (x5 : Int32) (x6 : Int32) (x7 : Int32) (x8 : Int32) (x9 : Int32) (x10 : Int32) (y0 : Int32) , B_mo_isWayClear_154 mo_wide mo_kind Q k78 x3 x4 x5 x6 x7 x8 x9 x10 y0 → ∀ (H : Heap) (locs : List Loc) (ls : Array Slot), SW D A s.heap (wdM cI cL cZ ad mo_wide mo_tall mo_kind mo_law mo_range mo_queue mo_far mo_pictures mo_pictureCell mo_facing mo_sights mo_fewest mo_posts mo_postMany mo_left mo_roundMany mo_round mo_shift mo_thief mo_danger mo_old) H locs → lv_has ls 13 [(0, .ref (ad 0)), (3, .int x3), (4, .int x4), (5, .int x5), (6, .int x6), (7, .int x7), (8, .int x8), (9, .int x9), (10, .int x10)] → W p l e (headSpec wsX10_isWayClear rm_mo_isWayClear).room s m args below meth c H locs 0 0 Z (F0 m 154 ls [.int y0]) := by
    intro _ k78 hk78 x3 x4 x5 x6 x7 x8 x9 x10 y0 h H locs ls hw hl
    unfold B_mo_isWayClear_154 at h
    refine lv_istore (lv' := [(11, .int y0), (0, .ref (ad 0)), (3, .int x3), (4, .int x4), (5, .int x5), (6, .int x6), (7, .int x7), (8, .int x8), (9, .int x9), (10, .int x10)]) hx hb dX10_isWayClear_154 hl (by decide) rfl (fun ls hl => ?_)
    refine lv_iload_n hx hb dX10_isWayClear_156 rfl (lv_at hl 2 rfl) ?_
    refine lv_iload hx hb dX10_isWayClear_157 (lv_at hl 6 rfl) ?_
    refine lv_iadd hx hb dX10_isWayClear_159 ?_
    refine lv_topi (fun x3_160 ex3_160 => ?_)
    replace h := h x3_160 ex3_160
    refine lv_istore_n (lv' := [(3, .int x3_160), (11, .int y0), (0, .ref (ad 0)), (4, .int x4), (5, .int x5), (6, .int x6), (7, .int x7), (8, .int x8), (9, .int x9), (10, .int x10)]) hx hb dX10_isWayClear_160 rfl hl (by decide) rfl (fun ls hl => ?_)
    refine lv_iload hx hb dX10_isWayClear_161 (lv_at hl 3 rfl) ?_
    refine lv_iload hx hb dX10_isWayClear_163 (lv_at hl 7 rfl) ?_
    refine lv_iadd hx hb dX10_isWayClear_165 ?_
    refine lv_topi (fun x4_166 ex4_166 => ?_)
    replace h := h x4_166 ex4_166
    refine lv_istore (lv' := [(4, .int x4_166), (3, .int x3_160), (11, .int y0), (0, .ref (ad 0)), (5, .int x5), (6, .int x6), (7, .int x7), (8, .int x8), (9, .int x9), (10, .int x10)]) hx hb dX10_isWayClear_166 hl (by decide) rfl (fun ls hl => ?_)
    refine lv_iinc (v := (x9 + (1 : Int32))) (lv' := [(9, .int (x9 + (1 : Int32))), (4, .int x4_166), (3, .int x3_160), (11, .int y0), (0, .ref (ad 0)), (5, .int x5), (6, .int x6), (7, .int x7), (8, .int x8), (10, .int x10)]) hx hb dX10_isWayClear_168 hl (k := 8) rfl rfl (by decide) rfl (fun ls hl => ?_)
    refine lv_iinc (v := (x10 + (1 : Int32))) (lv' := [(10, .int (x10 + (1 : Int32))), (9, .int (x9 + (1 : Int32))), (4, .int x4_166), (3, .int x3_160), (11, .int y0), (0, .ref (ad 0)), (5, .int x5), (6, .int x6), (7, .int x7), (8, .int x8)]) hx hb dX10_isWayClear_171 hl (k := 9) rfl rfl (by decide) rfl (fun ls hl => ?_)
    refine lv_goto (tgt := 203) hx hb dX10_isWayClear_174 (by decide) ?_
    exact J203 trivial k78 hk78 _ _ _ _ _ _ _ _ _ h _ _ _ hw (lv_sub hl [5, 3, 2, 6, 7, 8, 9, 1, 0, 4] rfl)
  have J92 : ∀ (_ : True) (k78 : Int32 → Int32 → Int32 → Int32 → Int32 → Int32 → Int32 → Int32 → Int32 → Prop) (hk78 : ∀ (x3 : Int32) (x4 : Int32) (x5 : Int32) (x6 : Int32) (x7 : Int32) (x8 : Int32) (x9 : Int32) (x10 : Int32) (x11 : Int32) , k78 x3 x4 x5 x6 x7 x8 x9 x10 x11 → ∀ (H : Heap) (locs : List Loc) (ls : Array Slot), SW D A s.heap (wdM cI cL cZ ad mo_wide mo_tall mo_kind mo_law mo_range mo_queue mo_far mo_pictures mo_pictureCell mo_facing mo_sights mo_fewest mo_posts mo_postMany mo_left mo_roundMany mo_round mo_shift mo_thief mo_danger mo_old) H locs → lv_has ls 13 [(0, .ref (ad 0)), (3, .int x3), (4, .int x4), (5, .int x5), (6, .int x6), (7, .int x7), (8, .int x8), (9, .int x9), (10, .int x10), (11, .int x11)] → W p l e (headSpec wsX10_isWayClear rm_mo_isWayClear).room s m args below meth c H locs 0 0 Z (F0 m 78 ls [])) (x3 : Int32) (x4 : Int32) (x5 : Int32) (x6 : Int32) (x7 : Int32) (x8 : Int32) (x9 : Int32) (x10 : Int32) (x11 : Int32) , B_mo_isWayClear_92 mo_wide mo_kind Q k78 x3 x4 x5 x6 x7 x8 x9 x10 x11 → ∀ (H : Heap) (locs : List Loc) (ls : Array Slot), SW D A s.heap (wdM cI cL cZ ad mo_wide mo_tall mo_kind mo_law mo_range mo_queue mo_far mo_pictures mo_pictureCell mo_facing mo_sights mo_fewest mo_posts mo_postMany mo_left mo_roundMany mo_round mo_shift mo_thief mo_danger mo_old) H locs → lv_has ls 13 [(0, .ref (ad 0)), (3, .int x3), (4, .int x4), (5, .int x5), (6, .int x6), (7, .int x7), (8, .int x8), (9, .int x9), (10, .int x10), (11, .int x11)] → W p l e (headSpec wsX10_isWayClear rm_mo_isWayClear).room s m args below meth c H locs 0 0 Z (F0 m 92 ls []) := by
    intro _ k78 hk78 x3 x4 x5 x6 x7 x8 x9 x10 x11 h H locs ls hw hl
    unfold B_mo_isWayClear_92 at h
    refine lv_iconst (v := 1) hx hb dX10_isWayClear_92 (by decide) ?_
    refine lv_iconst (v := 2) hx hb dX10_isWayClear_93 (by decide) ?_
    refine lv_iload hx hb dX10_isWayClear_94 (lv_at hl 7 rfl) ?_
    refine lv_imul hx hb dX10_isWayClear_96 ?_
    refine lv_iadd hx hb dX10_isWayClear_97 ?_
    refine lv_iload hx hb dX10_isWayClear_98 (lv_at hl 4 rfl) ?_
    refine lv_imul hx hb dX10_isWayClear_100 ?_
    refine lv_iconst (v := 1) hx hb dX10_isWayClear_101 (by decide) ?_
    refine lv_iconst (v := 2) hx hb dX10_isWayClear_102 (by decide) ?_
    refine lv_iload hx hb dX10_isWayClear_103 (lv_at hl 8 rfl) ?_
    refine lv_imul hx hb dX10_isWayClear_105 ?_
    refine lv_iadd hx hb dX10_isWayClear_106 ?_
    refine lv_iload hx hb dX10_isWayClear_107 (lv_at hl 3 rfl) ?_
    refine lv_imul hx hb dX10_isWayClear_109 ?_
    refine lv_isub hx hb dX10_isWayClear_110 ?_
    refine lv_topi (fun x12_111 ex12_111 => ?_)
    replace h := h x12_111 ex12_111
    refine lv_istore (lv' := [(12, .int x12_111), (0, .ref (ad 0)), (3, .int x3), (4, .int x4), (5, .int x5), (6, .int x6), (7, .int x7), (8, .int x8), (9, .int x9), (10, .int x10), (11, .int x11)]) hx hb dX10_isWayClear_111 hl (by decide) rfl (fun ls hl => ?_)
    refine lv_iload hx hb dX10_isWayClear_113 (lv_at hl 0 rfl) ?_
    refine lv_if_ne (tgt := 177) hx hb dX10_isWayClear_115 (by decide) (fun hc => ?_) (fun hc => ?_)
    · replace h := h.2 hc
      refine lv_iload hx hb dX10_isWayClear_177 (lv_at hl 0 rfl) ?_
      refine lv_if_ge (tgt := 193) hx hb dX10_isWayClear_179 (by decide) (fun hc => ?_) (fun hc => ?_)
      · replace h := h.1 hc
        refine lv_iload hx hb dX10_isWayClear_193 (lv_at hl 3 rfl) ?_
        refine lv_iload hx hb dX10_isWayClear_195 (lv_at hl 7 rfl) ?_
        refine lv_iadd hx hb dX10_isWayClear_197 ?_
        refine lv_topi (fun x4_198 ex4_198 => ?_)
        replace h := h x4_198 ex4_198
        refine lv_istore (lv' := [(4, .int x4_198), (12, .int x12_111), (0, .ref (ad 0)), (3, .int x3), (5, .int x5), (6, .int x6), (7, .int x7), (8, .int x8), (9, .int x9), (10, .int x10), (11, .int x11)]) hx hb dX10_isWayClear_198 hl (by decide) rfl (fun ls hl => ?_)
        refine lv_iinc (v := (x10 + (1 : Int32))) (lv' := [(10, .int (x10 + (1 : Int32))), (4, .int x4_198), (12, .int x12_111), (0, .ref (ad 0)), (3, .int x3), (5, .int x5), (6, .int x6), (7, .int x7), (8, .int x8), (9, .int x9), (11, .int x11)]) hx hb dX10_isWayClear_200 hl (k := 9) rfl rfl (by decide) rfl (fun ls hl => ?_)
        exact J203 trivial k78 hk78 _ _ _ _ _ _ _ _ _ h _ _ _ hw (lv_sub hl [3, 4, 1, 5, 6, 7, 8, 9, 0, 10] rfl)
      · replace h := h.2 hc
        refine lv_iload_n hx hb dX10_isWayClear_182 rfl (lv_at hl 2 rfl) ?_
        refine lv_iload hx hb dX10_isWayClear_183 (lv_at hl 6 rfl) ?_
        refine lv_iadd hx hb dX10_isWayClear_185 ?_
        refine lv_topi (fun x3_186 ex3_186 => ?_)
        replace h := h x3_186 ex3_186
        refine lv_istore_n (lv' := [(3, .int x3_186), (12, .int x12_111), (0, .ref (ad 0)), (4, .int x4), (5, .int x5), (6, .int x6), (7, .int x7), (8, .int x8), (9, .int x9), (10, .int x10), (11, .int x11)]) hx hb dX10_isWayClear_186 rfl hl (by decide) rfl (fun ls hl => ?_)
        refine lv_iinc (v := (x9 + (1 : Int32))) (lv' := [(9, .int (x9 + (1 : Int32))), (3, .int x3_186), (12, .int x12_111), (0, .ref (ad 0)), (4, .int x4), (5, .int x5), (6, .int x6), (7, .int x7), (8, .int x8), (10, .int x10), (11, .int x11)]) hx hb dX10_isWayClear_187 hl (k := 8) rfl rfl (by decide) rfl (fun ls hl => ?_)
        refine lv_goto (tgt := 203) hx hb dX10_isWayClear_190 (by decide) ?_
        exact J203 trivial k78 hk78 _ _ _ _ _ _ _ _ _ h _ _ _ hw (lv_sub hl [3, 1, 4, 5, 6, 7, 8, 0, 9, 10] rfl)
    · replace h := h.1 hc
      refine lv_iload hx hb dX10_isWayClear_118 (lv_at hl 10 rfl) ?_
      refine lv_if_eq (tgt := 153) hx hb dX10_isWayClear_120 (by decide) (fun hc => ?_) (fun hc => ?_)
      · replace h := h.1 hc
        refine lv_iconst (v := 0) hx hb dX10_isWayClear_153 (by decide) ?_
        exact J154 trivial k78 hk78 _ _ _ _ _ _ _ _ _ h _ _ _ hw (lv_sub hl [1, 2, 3, 4, 5, 6, 7, 8, 9] rfl)
      · replace h := h.2 hc
        refine lv_aload_n hx hb dX10_isWayClear_123 rfl (lv_at hl 1 rfl) ?_
        refine lv_iload_n hx hb dX10_isWayClear_124 rfl (lv_at hl 2 rfl) ?_
        refine lv_iload hx hb dX10_isWayClear_125 (lv_at hl 6 rfl) ?_
        refine lv_iadd hx hb dX10_isWayClear_127 ?_
        refine lv_iload hx hb dX10_isWayClear_128 (lv_at hl 3 rfl) ?_
        refine cV_i (b := (ad 0)) (As := [.int (x3 + x7), .int x4]) (rest := []) ⟨hx, hb, hml, hown, hts⟩ hK hw (c_mo_isClear (x3 + x7) x4 h) (cwV 2 hts (gd_RX10_106 hB) rfl rfl rfl (by decide +kernel) ⟨Nat.le_of_ble_eq_true rfl, Nat.le_of_ble_eq_true rfl⟩) (rM_mo hK hw) hl.1 ⟨Nat.zero_le _, Nat.zero_le _⟩ rfl rfl (Nat.le_of_ble_eq_true rfl) dX10_isWayClear_130 (fun r130 _ H locs h hw => ?_)
        refine lv_if_ne (tgt := 149) hx hb dX10_isWayClear_133 (by decide) (fun hc => ?_) (fun hc => ?_)
        · replace h := h.2 hc
          refine lv_iconst (v := 1) hx hb dX10_isWayClear_149 (by decide) ?_
          refine lv_goto (tgt := 154) hx hb dX10_isWayClear_150 (by decide) ?_
          exact J154 trivial k78 hk78 _ _ _ _ _ _ _ _ _ h _ _ _ hw (lv_sub hl [1, 2, 3, 4, 5, 6, 7, 8, 9] rfl)
        · replace h := h.1 hc
          refine lv_aload_n hx hb dX10_isWayClear_136 rfl (lv_at hl 1 rfl) ?_
          refine lv_iload_n hx hb dX10_isWayClear_137 rfl (lv_at hl 2 rfl) ?_
          refine lv_iload hx hb dX10_isWayClear_138 (lv_at hl 3 rfl) ?_
          refine lv_iload hx hb dX10_isWayClear_140 (lv_at hl 7 rfl) ?_
          refine lv_iadd hx hb dX10_isWayClear_142 ?_
          refine cV_i (b := (ad 0)) (As := [.int x3, .int (x4 + x8)]) (rest := []) ⟨hx, hb, hml, hown, hts⟩ hK hw (c_mo_isClear x3 (x4 + x8) h) (cwV 2 hts (gd_RX10_106 hB) rfl rfl rfl (by decide +kernel) ⟨Nat.le_of_ble_eq_true rfl, Nat.le_of_ble_eq_true rfl⟩) (rM_mo hK hw) hl.1 ⟨Nat.zero_le _, Nat.zero_le _⟩ rfl rfl (Nat.le_of_ble_eq_true rfl) dX10_isWayClear_143 (fun r143 _ H locs h hw => ?_)
          refine lv_if_eq (tgt := 153) hx hb dX10_isWayClear_146 (by decide) (fun hc => ?_) (fun hc => ?_)
          · replace h := h.1 hc
            refine lv_iconst (v := 0) hx hb dX10_isWayClear_153 (by decide) ?_
            exact J154 trivial k78 hk78 _ _ _ _ _ _ _ _ _ h _ _ _ hw (lv_sub hl [1, 2, 3, 4, 5, 6, 7, 8, 9] rfl)
          · replace h := h.2 hc
            refine lv_iconst (v := 1) hx hb dX10_isWayClear_149 (by decide) ?_
            refine lv_goto (tgt := 154) hx hb dX10_isWayClear_150 (by decide) ?_
            exact J154 trivial k78 hk78 _ _ _ _ _ _ _ _ _ h _ _ _ hw (lv_sub hl [1, 2, 3, 4, 5, 6, 7, 8, 9] rfl)
  have J78 : ∀ (n : Nat) (x3 : Int32) (x4 : Int32) (x5 : Int32) (x6 : Int32) (x7 : Int32) (x8 : Int32) (x9 : Int32) (x10 : Int32) (x11 : Int32) , L_mo_isWayClear_78 mo_wide mo_kind Q n x3 x4 x5 x6 x7 x8 x9 x10 x11 → ∀ (H : Heap) (locs : List Loc) (ls : Array Slot), SW D A s.heap (wdM cI cL cZ ad mo_wide mo_tall mo_kind mo_law mo_range mo_queue mo_far mo_pictures mo_pictureCell mo_facing mo_sights mo_fewest mo_posts mo_postMany mo_left mo_roundMany mo_round mo_shift mo_thief mo_danger mo_old) H locs → lv_has ls 13 [(0, .ref (ad 0)), (3, .int x3), (4, .int x4), (5, .int x5), (6, .int x6), (7, .int x7), (8, .int x8), (9, .int x9), (10, .int x10), (11, .int x11)] → W p l e (headSpec wsX10_isWayClear rm_mo_isWayClear).room s m args below meth c H locs 0 0 Z (F0 m 78 ls []) := by
    intro  n
    induction n with
    | zero => intro x3 x4 x5 x6 x7 x8 x9 x10 x11 h; exact h.elim
    | succ n ih =>
    intro x3 x4 x5 x6 x7 x8 x9 x10 x11 h H locs ls hw hl
    unfold L_mo_isWayClear_78 at h
    refine lv_iload hx hb dX10_isWayClear_78 (lv_at hl 7 rfl) ?_
    refine lv_iload hx hb dX10_isWayClear_80 (lv_at hl 3 rfl) ?_
    refine lv_icmp_lt (tgt := 92) hx hb dX10_isWayClear_82 (by decide) (fun hc => ?_) (fun hc => ?_)
    · replace h := h.1 hc
      exact J92 trivial (L_mo_isWayClear_78 mo_wide mo_kind Q n) ih _ _ _ _ _ _ _ _ _ h _ _ _ hw (lv_sub hl [0, 1, 2, 3, 4, 5, 6, 7, 8, 9] rfl)
    · replace h := h.2 hc
      refine lv_iload hx hb dX10_isWayClear_85 (lv_at hl 8 rfl) ?_
      refine lv_iload hx hb dX10_isWayClear_87 (lv_at hl 4 rfl) ?_
      refine lv_icmp_ge (tgt := 228) hx hb dX10_isWayClear_89 (by decide) (fun hc => ?_) (fun hc => ?_)
      · replace h := h.1 hc
        refine lv_iload hx hb dX10_isWayClear_228 (lv_at hl 9 rfl) ?_
        rw [hZ]
        exact rt_z () hx hb hr hlocks hw h.1 h.2 dX10_isWayClear_230
      · replace h := h.2 hc
        exact J92 trivial (L_mo_isWayClear_78 mo_wide mo_kind Q n) ih _ _ _ _ _ _ _ _ _ h _ _ _ hw (lv_sub hl [0, 1, 2, 3, 4, 5, 6, 7, 8, 9] rfl)
  unfold P_mo_isWayClear at h
  have he : entryFrame m args 13 = entryFrame m ([.ref (ad 0), .int x1, .int x2] : List Value).toArray 13 := by rw [hav]
  refine W.eq he ?_
  have hl := lv_entry ([.ref (ad 0), .int x1, .int x2]) (n := 13) (Nat.le_of_ble_eq_true rfl)
  rw [lg_entry_eq]
  generalize (lg_sl ([.ref (ad 0), .int x1, .int x2]) ++ List.replicate (13 - (lg_sl ([.ref (ad 0), .int x1, .int x2])).length) Slot.unset).toArray = ls at hl ⊢
  have hl : lv_has ls 13 [(0, .ref (ad 0)), (1, .int x1), (2, .int x2)] := hl
  refine lv_iload_n hx hb dX10_isWayClear_0 rfl (lv_at hl 1 rfl) ?_
  refine lv_aload_n hx hb dX10_isWayClear_1 rfl (lv_at hl 0 rfl) ?_
  refine gM_mo_wide hx hb hts hin hown hK hw lk68 dX10_isWayClear_2 ?_
  refine lv_irem hx hb dX10_isWayClear_5 h.1 ?_
  replace h := h.2
  refine lv_topi (fun x3_6 ex3_6 => ?_)
  replace h := h x3_6 ex3_6
  refine lv_istore_n (lv' := [(3, .int x3_6), (0, .ref (ad 0)), (1, .int x1), (2, .int x2)]) hx hb dX10_isWayClear_6 rfl hl (by decide) rfl (fun ls hl => ?_)
  refine lv_iload_n hx hb dX10_isWayClear_7 rfl (lv_at hl 2 rfl) ?_
  refine lv_aload_n hx hb dX10_isWayClear_8 rfl (lv_at hl 1 rfl) ?_
  refine gM_mo_wide hx hb hts hin hown hK hw lk68 dX10_isWayClear_9 ?_
  refine lv_idiv hx hb dX10_isWayClear_12 h.1 ?_
  replace h := h.2
  refine lv_topi (fun x4_13 ex4_13 => ?_)
  replace h := h x4_13 ex4_13
  refine lv_istore (lv' := [(4, .int x4_13), (3, .int x3_6), (0, .ref (ad 0)), (1, .int x1), (2, .int x2)]) hx hb dX10_isWayClear_13 hl (by decide) rfl (fun ls hl => ?_)
  refine lv_iload_n hx hb dX10_isWayClear_15 rfl (lv_at hl 4 rfl) ?_
  refine lv_aload_n hx hb dX10_isWayClear_16 rfl (lv_at hl 2 rfl) ?_
  refine gM_mo_wide hx hb hts hin hown hK hw lk68 dX10_isWayClear_17 ?_
  refine lv_irem hx hb dX10_isWayClear_20 h.1 ?_
  replace h := h.2
  refine lv_iload_n hx hb dX10_isWayClear_21 rfl (lv_at hl 1 rfl) ?_
  refine lv_isub hx hb dX10_isWayClear_22 ?_
  refine cS_i (As := [.int ((x2 - x2 / mo_wide * mo_wide) - x3_6)]) (rest := []) ⟨hx, hb, hml, hown, hts⟩ hK hw (c_mo_size ((x2 - x2 / mo_wide * mo_wide) - x3_6) h) (va_cwS 1 hts (gd_RX10_102 hB) rfl rfl rfl (by decide +kernel) ⟨Nat.le_of_ble_eq_true rfl, Nat.le_of_ble_eq_true rfl⟩) hl.1 ⟨Nat.zero_le _, Nat.zero_le _⟩ rfl rfl (Nat.le_of_ble_eq_true rfl) dX10_isWayClear_23 (fun r23 _ H locs h hw => ?_)
  refine lv_istore (lv' := [(5, .int r23), (4, .int x4_13), (3, .int x3_6), (0, .ref (ad 0)), (1, .int x1), (2, .int x2)]) hx hb dX10_isWayClear_26 hl (by decide) rfl (fun ls hl => ?_)
  refine lv_iload_n hx hb dX10_isWayClear_28 rfl (lv_at hl 5 rfl) ?_
  refine lv_aload_n hx hb dX10_isWayClear_29 rfl (lv_at hl 3 rfl) ?_
  refine gM_mo_wide hx hb hts hin hown hK hw lk68 dX10_isWayClear_30 ?_
  refine lv_idiv hx hb dX10_isWayClear_33 h.1 ?_
  replace h := h.2
  refine lv_iload hx hb dX10_isWayClear_34 (lv_at hl 1 rfl) ?_
  refine lv_isub hx hb dX10_isWayClear_36 ?_
  refine cS_i (As := [.int ((x2 / mo_wide) - x4_13)]) (rest := []) ⟨hx, hb, hml, hown, hts⟩ hK hw (c_mo_size ((x2 / mo_wide) - x4_13) h) (va_cwS 1 hts (gd_RX10_102 hB) rfl rfl rfl (by decide +kernel) ⟨Nat.le_of_ble_eq_true rfl, Nat.le_of_ble_eq_true rfl⟩) hl.1 ⟨Nat.zero_le _, Nat.zero_le _⟩ rfl rfl (Nat.le_of_ble_eq_true rfl) dX10_isWayClear_37 (fun r37 _ H locs h hw => ?_)
  refine lv_istore (lv' := [(6, .int r37), (5, .int r23), (4, .int x4_13), (3, .int x3_6), (0, .ref (ad 0)), (1, .int x1), (2, .int x2)]) hx hb dX10_isWayClear_40 hl (by decide) rfl (fun ls hl => ?_)
  refine lv_iload_n hx hb dX10_isWayClear_42 rfl (lv_at hl 6 rfl) ?_
  refine lv_aload_n hx hb dX10_isWayClear_43 rfl (lv_at hl 4 rfl) ?_
  refine gM_mo_wide hx hb hts hin hown hK hw lk68 dX10_isWayClear_44 ?_
  refine lv_irem hx hb dX10_isWayClear_47 h.1 ?_
  replace h := h.2
  refine lv_iload_n hx hb dX10_isWayClear_48 rfl (lv_at hl 3 rfl) ?_
  refine lv_isub hx hb dX10_isWayClear_49 ?_
  refine cS_i (As := [.int ((x2 - x2 / mo_wide * mo_wide) - x3_6)]) (rest := []) ⟨hx, hb, hml, hown, hts⟩ hK hw (c_mo_sign ((x2 - x2 / mo_wide * mo_wide) - x3_6) h) (va_cwS 1 hts (gd_RX10_110 hB) rfl rfl rfl (by decide +kernel) ⟨Nat.le_of_ble_eq_true rfl, Nat.le_of_ble_eq_true rfl⟩) hl.1 ⟨Nat.zero_le _, Nat.zero_le _⟩ rfl rfl (Nat.le_of_ble_eq_true rfl) dX10_isWayClear_50 (fun r50 _ H locs h hw => ?_)
  refine lv_istore (lv' := [(7, .int r50), (6, .int r37), (5, .int r23), (4, .int x4_13), (3, .int x3_6), (0, .ref (ad 0)), (1, .int x1), (2, .int x2)]) hx hb dX10_isWayClear_53 hl (by decide) rfl (fun ls hl => ?_)
  refine lv_iload_n hx hb dX10_isWayClear_55 rfl (lv_at hl 7 rfl) ?_
  refine lv_aload_n hx hb dX10_isWayClear_56 rfl (lv_at hl 5 rfl) ?_
  refine gM_mo_wide hx hb hts hin hown hK hw lk68 dX10_isWayClear_57 ?_
  refine lv_idiv hx hb dX10_isWayClear_60 h.1 ?_
  replace h := h.2
  refine lv_iload hx hb dX10_isWayClear_61 (lv_at hl 3 rfl) ?_
  refine lv_isub hx hb dX10_isWayClear_63 ?_
  refine cS_i (As := [.int ((x2 / mo_wide) - x4_13)]) (rest := []) ⟨hx, hb, hml, hown, hts⟩ hK hw (c_mo_sign ((x2 / mo_wide) - x4_13) h) (va_cwS 1 hts (gd_RX10_110 hB) rfl rfl rfl (by decide +kernel) ⟨Nat.le_of_ble_eq_true rfl, Nat.le_of_ble_eq_true rfl⟩) hl.1 ⟨Nat.zero_le _, Nat.zero_le _⟩ rfl rfl (Nat.le_of_ble_eq_true rfl) dX10_isWayClear_64 (fun r64 _ H locs h hw => ?_)
  refine lv_istore (lv' := [(8, .int r64), (7, .int r50), (6, .int r37), (5, .int r23), (4, .int x4_13), (3, .int x3_6), (0, .ref (ad 0)), (1, .int x1), (2, .int x2)]) hx hb dX10_isWayClear_67 hl (by decide) rfl (fun ls hl => ?_)
  refine lv_iconst (v := 0) hx hb dX10_isWayClear_69 (by decide) ?_
  refine lv_istore (lv' := [(9, .int (0 : Int32)), (8, .int r64), (7, .int r50), (6, .int r37), (5, .int r23), (4, .int x4_13), (3, .int x3_6), (0, .ref (ad 0)), (1, .int x1), (2, .int x2)]) hx hb dX10_isWayClear_70 hl (by decide) rfl (fun ls hl => ?_)
  refine lv_iconst (v := 0) hx hb dX10_isWayClear_72 (by decide) ?_
  refine lv_istore (lv' := [(10, .int (0 : Int32)), (9, .int (0 : Int32)), (8, .int r64), (7, .int r50), (6, .int r37), (5, .int r23), (4, .int x4_13), (3, .int x3_6), (0, .ref (ad 0)), (1, .int x1), (2, .int x2)]) hx hb dX10_isWayClear_73 hl (by decide) rfl (fun ls hl => ?_)
  refine lv_iconst (v := 1) hx hb dX10_isWayClear_75 (by decide) ?_
  refine lv_istore (lv' := [(11, .int (1 : Int32)), (10, .int (0 : Int32)), (9, .int (0 : Int32)), (8, .int r64), (7, .int r50), (6, .int r37), (5, .int r23), (4, .int x4_13), (3, .int x3_6), (0, .ref (ad 0)), (1, .int x1), (2, .int x2)]) hx hb dX10_isWayClear_76 hl (by decide) rfl (fun ls hl => ?_)
  obtain ⟨n78, h⟩ := h
  exact J78  n78 _ _ _ _ _ _ _ _ _ h _ _ _ hw (lv_sub hl [9, 8, 7, 6, 5, 4, 3, 2, 1, 0] rfl)
def rm_mo_isSeen : Room := { frames := 2, cells := 0, slots := 0, locals := 55 }
set_option maxHeartbeats 4000000 in
set_option maxRecDepth 100000 in
theorem c_mo_isSeen {l : Launch} {D : va_G} {cI cL cZ : ClassId} {mx my : Nat} {A : Nat → Prop} {ad : Nat → Nat} {mo_wide mo_tall mo_law mo_range mo_pictures mo_postMany : Int32} {mo_kind mo_queue mo_far mo_pictureCell mo_facing mo_sights mo_fewest mo_posts mo_left mo_roundMany mo_round mo_shift mo_thief mo_danger mo_old : Nat → Int32} (x1 : Int32) (x2 : Int32) {Q : Int32 → Prop} (h : P_mo_isSeen mo_wide mo_kind mo_law mo_range x1 x2 Q) : Met l yX10_isSeen wsX10_isSeen rm_mo_isSeen (va_Pc [.ref (ad 0), .int x1, .int x2] (WC D cI cL cZ mx my A (wdM cI cL cZ ad mo_wide mo_tall mo_kind mo_law mo_range mo_queue mo_far mo_pictures mo_pictureCell mo_facing mo_sights mo_fewest mo_posts mo_postMany mo_left mo_roundMany mo_round mo_shift mo_thief mo_danger mo_old))) (va_Qi (fun (r : Int32) (u : Unit) => Q r) (fun (u : Unit) t => PW D A (wdM cI cL cZ ad mo_wide mo_tall mo_kind mo_law mo_range mo_queue mo_far mo_pictures mo_pictureCell mo_facing mo_sights mo_fewest mo_posts mo_postMany mo_left mo_roundMany mo_round mo_shift mo_thief mo_danger mo_old) t.heap) A) 0 0 A := by
  refine Met.ofW (cc := cX10_isSeen) (maxL := 5) (ret := (some .boolean)) (by decide) rfl ?_
  intro p e s m args below meth c s₁ B hml hv
  obtain ⟨hav, hP0, hD0, hK⟩ := hv
  have hx := B.exec
  have hb := B.bytes
  have hr := B.returns
  have hts := atoms_spec (ws := wsX10_isSeen) B.pre
  have hown : s.vm.findClass RX10 = some m.cls := findClass_of_methodNamed B.named
  have hlocks := B.notSynchronized
  have hB : ∀ w ∈ BIG, w ∈ wsX10_isSeen := fun _ h => List.mem_cons_of_mem _ h
  have hin : ∀ w ∈ wsX100, w ∈ wsX10_isSeen := fun w h => hB w (inB_X10 w h)
  have lk7 := hts _ (hB _ m_933)
  have lk13 := hts _ (hB _ m_934)
  have lk17 := hts _ (hB _ m_935)
  have lk68 := hts _ (hB _ m_931)
  obtain ⟨Z, hZ⟩ : ∃ Z : State → Prop, Z = MQ below (va_Qi (fun (r : Int32) (u : Unit) => Q r) (fun (u : Unit) t => PW D A (wdM cI cL cZ ad mo_wide mo_tall mo_kind mo_law mo_range mo_queue mo_far mo_pictures mo_pictureCell mo_facing mo_sights mo_fewest mo_posts mo_postMany mo_left mo_roundMany mo_round mo_shift mo_thief mo_danger mo_old) t.heap) A) args s 0 0 A := ⟨_, rfl⟩
  rw [← hZ]
  have hw : SW D A s.heap (wdM cI cL cZ ad mo_wide mo_tall mo_kind mo_law mo_range mo_queue mo_far mo_pictures mo_pictureCell mo_facing mo_sights mo_fewest mo_posts mo_postMany mo_left mo_roundMany mo_round mo_shift mo_thief mo_danger mo_old) s.heap [] := ⟨hP0, hD0, va_S.rf⟩
  clear hP0 hD0 B
  have J99 : ∀ (_ : True) (x1 : Int32) (x2 : Int32) , B_mo_isSeen_99 mo_wide mo_kind Q x1 x2 → ∀ (H : Heap) (locs : List Loc) (ls : Array Slot), SW D A s.heap (wdM cI cL cZ ad mo_wide mo_tall mo_kind mo_law mo_range mo_queue mo_far mo_pictures mo_pictureCell mo_facing mo_sights mo_fewest mo_posts mo_postMany mo_left mo_roundMany mo_round mo_shift mo_thief mo_danger mo_old) H locs → lv_has ls 5 [(0, .ref (ad 0)), (1, .int x1), (2, .int x2)] → W p l e (headSpec wsX10_isSeen rm_mo_isSeen).room s m args below meth c H locs 0 0 Z (F0 m 99 ls []) := by
    intro _  x1 x2 h H locs ls hw hl
    unfold B_mo_isSeen_99 at h
    refine lv_aload_n hx hb dX10_isSeen_99 rfl (lv_at hl 0 rfl) ?_
    refine lv_iload_n hx hb dX10_isSeen_100 rfl (lv_at hl 1 rfl) ?_
    refine lv_iload_n hx hb dX10_isSeen_101 rfl (lv_at hl 2 rfl) ?_
    refine cV_i (b := (ad 0)) (As := [.int x1, .int x2]) (rest := []) ⟨hx, hb, hml, hown, hts⟩ hK hw (c_mo_isBoxClear x1 x2 h) (cwV 2 hts (gd_RX10_113 hB) rfl rfl rfl (by decide +kernel) ⟨Nat.le_of_ble_eq_true rfl, Nat.le_of_ble_eq_true rfl⟩) (rM_mo hK hw) hl.1 ⟨Nat.zero_le _, Nat.zero_le _⟩ rfl rfl (Nat.le_of_ble_eq_true rfl) dX10_isSeen_102 (fun r102 _ H locs h hw => ?_)
    refine lv_if_eq (tgt := 112) hx hb dX10_isSeen_105 (by decide) (fun hc => ?_) (fun hc => ?_)
    · replace h := h.1 hc
      refine lv_iconst (v := 0) hx hb dX10_isSeen_112 (by decide) ?_
      refine lv_goto (tgt := 139) hx hb dX10_isSeen_113 (by decide) ?_
      rw [hZ]
      exact rt_z () hx hb hr hlocks hw (by decide) h dX10_isSeen_139
    · replace h := h.2 hc
      refine lv_iconst (v := 1) hx hb dX10_isSeen_108 (by decide) ?_
      refine lv_goto (tgt := 139) hx hb dX10_isSeen_109 (by decide) ?_
      rw [hZ]
      exact rt_z () hx hb hr hlocks hw (by decide) h dX10_isSeen_139
  unfold P_mo_isSeen at h
  have he : entryFrame m args 5 = entryFrame m ([.ref (ad 0), .int x1, .int x2] : List Value).toArray 5 := by rw [hav]
  refine W.eq he ?_
  have hl := lv_entry ([.ref (ad 0), .int x1, .int x2]) (n := 5) (Nat.le_of_ble_eq_true rfl)
  rw [lg_entry_eq]
  generalize (lg_sl ([.ref (ad 0), .int x1, .int x2]) ++ List.replicate (5 - (lg_sl ([.ref (ad 0), .int x1, .int x2])).length) Slot.unset).toArray = ls at hl ⊢
  have hl : lv_has ls 5 [(0, .ref (ad 0)), (1, .int x1), (2, .int x2)] := hl
  refine lv_iload_n hx hb dX10_isSeen_0 rfl (lv_at hl 1 rfl) ?_
  refine lv_iload_n hx hb dX10_isSeen_1 rfl (lv_at hl 2 rfl) ?_
  refine lv_icmp_ne (tgt := 11) hx hb dX10_isSeen_2 (by decide) (fun hc => ?_) (fun hc => ?_)
  · replace h := h.2 hc
    refine lv_iload_n hx hb dX10_isSeen_11 rfl (lv_at hl 1 rfl) ?_
    refine lv_aload_n hx hb dX10_isSeen_12 rfl (lv_at hl 0 rfl) ?_
    refine gM_mo_wide hx hb hts hin hown hK hw lk68 dX10_isSeen_13 ?_
    refine lv_irem hx hb dX10_isSeen_16 h.1 ?_
    replace h := h.2
    refine lv_iload_n hx hb dX10_isSeen_17 rfl (lv_at hl 2 rfl) ?_
    refine lv_aload_n hx hb dX10_isSeen_18 rfl (lv_at hl 0 rfl) ?_
    refine gM_mo_wide hx hb hts hin hown hK hw lk68 dX10_isSeen_19 ?_
    refine lv_irem hx hb dX10_isSeen_22 h.1 ?_
    replace h := h.2
    refine lv_isub hx hb dX10_isSeen_23 ?_
    refine cS_i (As := [.int ((x1 - x1 / mo_wide * mo_wide) - (x2 - x2 / mo_wide * mo_wide))]) (rest := []) ⟨hx, hb, hml, hown, hts⟩ hK hw (c_mo_size ((x1 - x1 / mo_wide * mo_wide) - (x2 - x2 / mo_wide * mo_wide)) h) (va_cwS 1 hts (gd_RX10_102 hB) rfl rfl rfl (by decide +kernel) ⟨Nat.le_of_ble_eq_true rfl, Nat.le_of_ble_eq_true rfl⟩) hl.1 ⟨Nat.zero_le _, Nat.zero_le _⟩ rfl rfl (Nat.le_of_ble_eq_true rfl) dX10_isSeen_24 (fun r24 _ H locs h hw => ?_)
    refine lv_istore_n (lv' := [(3, .int r24), (0, .ref (ad 0)), (1, .int x1), (2, .int x2)]) hx hb dX10_isSeen_27 rfl hl (by decide) rfl (fun ls hl => ?_)
    refine lv_iload_n hx hb dX10_isSeen_28 rfl (lv_at hl 2 rfl) ?_
    refine lv_aload_n hx hb dX10_isSeen_29 rfl (lv_at hl 1 rfl) ?_
    refine gM_mo_wide hx hb hts hin hown hK hw lk68 dX10_isSeen_30 ?_
    refine lv_idiv hx hb dX10_isSeen_33 h.1 ?_
    replace h := h.2
    refine lv_iload_n hx hb dX10_isSeen_34 rfl (lv_at hl 3 rfl) ?_
    refine lv_aload_n hx hb dX10_isSeen_35 rfl (lv_at hl 1 rfl) ?_
    refine gM_mo_wide hx hb hts hin hown hK hw lk68 dX10_isSeen_36 ?_
    refine lv_idiv hx hb dX10_isSeen_39 h.1 ?_
    replace h := h.2
    refine lv_isub hx hb dX10_isSeen_40 ?_
    refine cS_i (As := [.int ((x1 / mo_wide) - (x2 / mo_wide))]) (rest := []) ⟨hx, hb, hml, hown, hts⟩ hK hw (c_mo_size ((x1 / mo_wide) - (x2 / mo_wide)) h) (va_cwS 1 hts (gd_RX10_102 hB) rfl rfl rfl (by decide +kernel) ⟨Nat.le_of_ble_eq_true rfl, Nat.le_of_ble_eq_true rfl⟩) hl.1 ⟨Nat.zero_le _, Nat.zero_le _⟩ rfl rfl (Nat.le_of_ble_eq_true rfl) dX10_isSeen_41 (fun r41 _ H locs h hw => ?_)
    refine lv_istore (lv' := [(4, .int r41), (3, .int r24), (0, .ref (ad 0)), (1, .int x1), (2, .int x2)]) hx hb dX10_isSeen_44 hl (by decide) rfl (fun ls hl => ?_)
    refine lv_aload_n hx hb dX10_isSeen_46 rfl (lv_at hl 2 rfl) ?_
    refine gM_mo_kind hx hb hts hin hown hK hw lk7 dX10_isSeen_47 ?_
    refine lv_iload_n hx hb dX10_isSeen_50 rfl (lv_at hl 3 rfl) ?_
    refine aM_mo_kind hx hb hK hw h.1 dX10_isSeen_51 ?_
    replace h := h.2
    refine lv_if_ne (tgt := 81) hx hb dX10_isSeen_52 (by decide) (fun hc => ?_) (fun hc => ?_)
    · replace h := h.2 hc
      refine lv_iconst (v := 0) hx hb dX10_isSeen_81 (by decide) ?_
      rw [hZ]
      exact rt_z () hx hb hr hlocks hw (by decide) h dX10_isSeen_82
    · replace h := h.1 hc
      refine lv_aload_n hx hb dX10_isSeen_55 rfl (lv_at hl 2 rfl) ?_
      refine gM_mo_kind hx hb hts hin hown hK hw lk7 dX10_isSeen_56 ?_
      refine lv_iload_n hx hb dX10_isSeen_59 rfl (lv_at hl 4 rfl) ?_
      refine aM_mo_kind hx hb hK hw h.1 dX10_isSeen_60 ?_
      replace h := h.2
      refine lv_if_ne (tgt := 81) hx hb dX10_isSeen_61 (by decide) (fun hc => ?_) (fun hc => ?_)
      · replace h := h.2 hc
        refine lv_iconst (v := 0) hx hb dX10_isSeen_81 (by decide) ?_
        rw [hZ]
        exact rt_z () hx hb hr hlocks hw (by decide) h dX10_isSeen_82
      · replace h := h.1 hc
        refine lv_iload_n hx hb dX10_isSeen_64 rfl (lv_at hl 1 rfl) ?_
        refine lv_aload_n hx hb dX10_isSeen_65 rfl (lv_at hl 2 rfl) ?_
        refine gM_mo_range hx hb hts hin hown hK hw lk17 dX10_isSeen_66 ?_
        refine lv_icmp_gt (tgt := 81) hx hb dX10_isSeen_69 (by decide) (fun hc => ?_) (fun hc => ?_)
        · replace h := h.1 hc
          refine lv_iconst (v := 0) hx hb dX10_isSeen_81 (by decide) ?_
          rw [hZ]
          exact rt_z () hx hb hr hlocks hw (by decide) h dX10_isSeen_82
        · replace h := h.2 hc
          refine lv_iload hx hb dX10_isSeen_72 (lv_at hl 0 rfl) ?_
          refine lv_aload_n hx hb dX10_isSeen_74 rfl (lv_at hl 2 rfl) ?_
          refine gM_mo_range hx hb hts hin hown hK hw lk17 dX10_isSeen_75 ?_
          refine lv_icmp_le (tgt := 83) hx hb dX10_isSeen_78 (by decide) (fun hc => ?_) (fun hc => ?_)
          · replace h := h.1 hc
            refine lv_aload_n hx hb dX10_isSeen_83 rfl (lv_at hl 2 rfl) ?_
            refine gM_mo_law hx hb hts hin hown hK hw lk13 dX10_isSeen_84 ?_
            refine lv_if_ne (tgt := 116) hx hb dX10_isSeen_87 (by decide) (fun hc => ?_) (fun hc => ?_)
            · replace h := h.2 hc
              refine lv_aload_n hx hb dX10_isSeen_116 rfl (lv_at hl 2 rfl) ?_
              refine gM_mo_law hx hb hts hin hown hK hw lk13 dX10_isSeen_117 ?_
              refine lv_iconst (v := 1) hx hb dX10_isSeen_120 (by decide) ?_
              refine lv_icmp_ne (tgt := 133) hx hb dX10_isSeen_121 (by decide) (fun hc => ?_) (fun hc => ?_)
              · replace h := h.2 hc
                refine lv_aload_n hx hb dX10_isSeen_133 rfl (lv_at hl 2 rfl) ?_
                refine lv_iload_n hx hb dX10_isSeen_134 rfl (lv_at hl 3 rfl) ?_
                refine lv_iload_n hx hb dX10_isSeen_135 rfl (lv_at hl 4 rfl) ?_
                refine cV_i (b := (ad 0)) (As := [.int x1, .int x2]) (rest := []) ⟨hx, hb, hml, hown, hts⟩ hK hw (c_mo_isWayClear x1 x2 h) (cwV 2 hts (gd_RX10_116 hB) rfl rfl rfl (by decide +kernel) ⟨Nat.le_of_ble_eq_true rfl, Nat.le_of_ble_eq_true rfl⟩) (rM_mo hK hw) hl.1 ⟨Nat.zero_le _, Nat.zero_le _⟩ rfl rfl (Nat.le_of_ble_eq_true rfl) dX10_isSeen_136 (fun r136 _ H locs h hw => ?_)
                rw [hZ]
                exact rt_z () hx hb hr hlocks hw h.1 h.2 dX10_isSeen_139
              · replace h := h.1 hc
                refine lv_aload_n hx hb dX10_isSeen_124 rfl (lv_at hl 2 rfl) ?_
                refine lv_iload_n hx hb dX10_isSeen_125 rfl (lv_at hl 3 rfl) ?_
                refine lv_iload_n hx hb dX10_isSeen_126 rfl (lv_at hl 4 rfl) ?_
                refine cV_i (b := (ad 0)) (As := [.int x1, .int x2]) (rest := []) ⟨hx, hb, hml, hown, hts⟩ hK hw (c_mo_isBoxClear x1 x2 h) (cwV 2 hts (gd_RX10_113 hB) rfl rfl rfl (by decide +kernel) ⟨Nat.le_of_ble_eq_true rfl, Nat.le_of_ble_eq_true rfl⟩) (rM_mo hK hw) hl.1 ⟨Nat.zero_le _, Nat.zero_le _⟩ rfl rfl (Nat.le_of_ble_eq_true rfl) dX10_isSeen_127 (fun r127 _ H locs h hw => ?_)
                refine lv_goto (tgt := 139) hx hb dX10_isSeen_130 (by decide) ?_
                rw [hZ]
                exact rt_z () hx hb hr hlocks hw h.1 h.2 dX10_isSeen_139
            · replace h := h.1 hc
              refine lv_iload_n hx hb dX10_isSeen_90 rfl (lv_at hl 1 rfl) ?_
              refine lv_if_eq (tgt := 99) hx hb dX10_isSeen_91 (by decide) (fun hc => ?_) (fun hc => ?_)
              · replace h := h.1 hc
                exact J99 trivial  _ _ h _ _ _ hw (lv_sub hl [2, 3, 4] rfl)
              · replace h := h.2 hc
                refine lv_iload hx hb dX10_isSeen_94 (lv_at hl 0 rfl) ?_
                refine lv_if_ne (tgt := 112) hx hb dX10_isSeen_96 (by decide) (fun hc => ?_) (fun hc => ?_)
                · replace h := h.2 hc
                  refine lv_iconst (v := 0) hx hb dX10_isSeen_112 (by decide) ?_
                  refine lv_goto (tgt := 139) hx hb dX10_isSeen_113 (by decide) ?_
                  rw [hZ]
                  exact rt_z () hx hb hr hlocks hw (by decide) h dX10_isSeen_139
                · replace h := h.1 hc
                  exact J99 trivial  _ _ h _ _ _ hw (lv_sub hl [2, 3, 4] rfl)
          · replace h := h.2 hc
            refine lv_iconst (v := 0) hx hb dX10_isSeen_81 (by decide) ?_
            rw [hZ]
            exact rt_z () hx hb hr hlocks hw (by decide) h dX10_isSeen_82
  · replace h := h.1 hc
    refine lv_aload_n hx hb dX10_isSeen_5 rfl (lv_at hl 0 rfl) ?_
    refine lv_iload_n hx hb dX10_isSeen_6 rfl (lv_at hl 1 rfl) ?_
    refine cV_i (b := (ad 0)) (As := [.int x1]) (rest := []) ⟨hx, hb, hml, hown, hts⟩ hK hw (c_mo_stands x1 h) (cwV 1 hts (gd_RX10_91 hB) rfl rfl rfl (by decide +kernel) ⟨Nat.le_of_ble_eq_true rfl, Nat.le_of_ble_eq_true rfl⟩) (rM_mo hK hw) hl.1 ⟨Nat.zero_le _, Nat.zero_le _⟩ rfl rfl (Nat.le_of_ble_eq_true rfl) dX10_isSeen_7 (fun r7 _ H locs h hw => ?_)
    rw [hZ]
    exact rt_z () hx hb hr hlocks hw h.1 h.2 dX10_isSeen_10
def rm_mo_sees : Room := { frames := 3, cells := 0, slots := 0, locals := 79 }
set_option maxHeartbeats 4000000 in
set_option maxRecDepth 100000 in
theorem c_mo_sees {l : Launch} {D : va_G} {cI cL cZ : ClassId} {mx my : Nat} {A : Nat → Prop} {ad : Nat → Nat} {mo_wide mo_tall mo_law mo_range mo_pictures mo_postMany : Int32} {mo_kind mo_queue mo_far mo_pictureCell mo_facing mo_sights mo_fewest mo_posts mo_left mo_roundMany mo_round mo_shift mo_thief mo_danger mo_old : Nat → Int32} (x1 : Int32) (x2 : Int32) {Q : Int32 → Prop} (h : P_mo_sees mo_wide mo_tall mo_kind mo_law mo_range x1 x2 Q) : Met l yX10_sees wsX10_sees rm_mo_sees (va_Pc [.ref (ad 0), .int x1, .int x2] (WC D cI cL cZ mx my A (wdM cI cL cZ ad mo_wide mo_tall mo_kind mo_law mo_range mo_queue mo_far mo_pictures mo_pictureCell mo_facing mo_sights mo_fewest mo_posts mo_postMany mo_left mo_roundMany mo_round mo_shift mo_thief mo_danger mo_old))) (va_Qi (fun (r : Int32) (u : Unit) => Q r) (fun (u : Unit) t => PW D A (wdM cI cL cZ ad mo_wide mo_tall mo_kind mo_law mo_range mo_queue mo_far mo_pictures mo_pictureCell mo_facing mo_sights mo_fewest mo_posts mo_postMany mo_left mo_roundMany mo_round mo_shift mo_thief mo_danger mo_old) t.heap) A) 0 0 A := by
  refine Met.ofW (cc := cX10_sees) (maxL := 3) (ret := (some .int)) (by decide) rfl ?_
  intro p e s m args below meth c s₁ B hml hv
  obtain ⟨hav, hP0, hD0, hK⟩ := hv
  have hx := B.exec
  have hb := B.bytes
  have hr := B.returns
  have hts := atoms_spec (ws := wsX10_sees) B.pre
  have hown : s.vm.findClass RX10 = some m.cls := findClass_of_methodNamed B.named
  have hlocks := B.notSynchronized
  have hB : ∀ w ∈ BIG, w ∈ wsX10_sees := fun _ h => List.mem_cons_of_mem _ h
  obtain ⟨Z, hZ⟩ : ∃ Z : State → Prop, Z = MQ below (va_Qi (fun (r : Int32) (u : Unit) => Q r) (fun (u : Unit) t => PW D A (wdM cI cL cZ ad mo_wide mo_tall mo_kind mo_law mo_range mo_queue mo_far mo_pictures mo_pictureCell mo_facing mo_sights mo_fewest mo_posts mo_postMany mo_left mo_roundMany mo_round mo_shift mo_thief mo_danger mo_old) t.heap) A) args s 0 0 A := ⟨_, rfl⟩
  rw [← hZ]
  have hw : SW D A s.heap (wdM cI cL cZ ad mo_wide mo_tall mo_kind mo_law mo_range mo_queue mo_far mo_pictures mo_pictureCell mo_facing mo_sights mo_fewest mo_posts mo_postMany mo_left mo_roundMany mo_round mo_shift mo_thief mo_danger mo_old) s.heap [] := ⟨hP0, hD0, va_S.rf⟩
  clear hP0 hD0 B
  unfold P_mo_sees at h
  have he : entryFrame m args 3 = entryFrame m ([.ref (ad 0), .int x1, .int x2] : List Value).toArray 3 := by rw [hav]
  refine W.eq he ?_
  have hl := lv_entry ([.ref (ad 0), .int x1, .int x2]) (n := 3) (Nat.le_of_ble_eq_true rfl)
  rw [lg_entry_eq]
  generalize (lg_sl ([.ref (ad 0), .int x1, .int x2]) ++ List.replicate (3 - (lg_sl ([.ref (ad 0), .int x1, .int x2])).length) Slot.unset).toArray = ls at hl ⊢
  have hl : lv_has ls 3 [(0, .ref (ad 0)), (1, .int x1), (2, .int x2)] := hl
  refine lv_aload_n hx hb dX10_sees_0 rfl (lv_at hl 0 rfl) ?_
  refine lv_iload_n hx hb dX10_sees_1 rfl (lv_at hl 1 rfl) ?_
  refine cV_i (b := (ad 0)) (As := [.int x1]) (rest := []) ⟨hx, hb, hml, hown, hts⟩ hK hw (c_mo_isCell x1 h) (cwV 1 hts (gd_RX10_85 hB) rfl rfl rfl (by decide +kernel) ⟨Nat.le_of_ble_eq_true rfl, Nat.le_of_ble_eq_true rfl⟩) (rM_mo hK hw) hl.1 ⟨Nat.zero_le _, Nat.zero_le _⟩ rfl rfl (Nat.le_of_ble_eq_true rfl) dX10_sees_2 (fun r2 _ H locs h hw => ?_)
  refine lv_if_eq (tgt := 16) hx hb dX10_sees_5 (by decide) (fun hc => ?_) (fun hc => ?_)
  · replace h := h.1 hc
    refine lv_iconst (v := (-1)) hx hb dX10_sees_16 (by decide) ?_
    refine lv_goto (tgt := 34) hx hb dX10_sees_17 (by decide) ?_
    rw [hZ]
    exact rt_i () hx hb hr hlocks hw h dX10_sees_34
  · replace h := h.2 hc
    refine lv_aload_n hx hb dX10_sees_8 rfl (lv_at hl 0 rfl) ?_
    refine lv_iload_n hx hb dX10_sees_9 rfl (lv_at hl 2 rfl) ?_
    refine cV_i (b := (ad 0)) (As := [.int x2]) (rest := []) ⟨hx, hb, hml, hown, hts⟩ hK hw (c_mo_isCell x2 h) (cwV 1 hts (gd_RX10_85 hB) rfl rfl rfl (by decide +kernel) ⟨Nat.le_of_ble_eq_true rfl, Nat.le_of_ble_eq_true rfl⟩) (rM_mo hK hw) hl.1 ⟨Nat.zero_le _, Nat.zero_le _⟩ rfl rfl (Nat.le_of_ble_eq_true rfl) dX10_sees_10 (fun r10 _ H locs h hw => ?_)
    refine lv_if_ne (tgt := 20) hx hb dX10_sees_13 (by decide) (fun hc => ?_) (fun hc => ?_)
    · replace h := h.2 hc
      refine lv_aload_n hx hb dX10_sees_20 rfl (lv_at hl 0 rfl) ?_
      refine lv_iload_n hx hb dX10_sees_21 rfl (lv_at hl 1 rfl) ?_
      refine lv_iload_n hx hb dX10_sees_22 rfl (lv_at hl 2 rfl) ?_
      refine cV_i (b := (ad 0)) (As := [.int x1, .int x2]) (rest := []) ⟨hx, hb, hml, hown, hts⟩ hK hw (c_mo_isSeen x1 x2 h) (cwV 2 hts (gd_RX10_119 hB) rfl rfl rfl (by decide +kernel) ⟨Nat.le_of_ble_eq_true rfl, Nat.le_of_ble_eq_true rfl⟩) (rM_mo hK hw) hl.1 ⟨Nat.zero_le _, Nat.zero_le _⟩ rfl rfl (Nat.le_of_ble_eq_true rfl) dX10_sees_23 (fun r23 _ H locs h hw => ?_)
      refine lv_if_eq (tgt := 33) hx hb dX10_sees_26 (by decide) (fun hc => ?_) (fun hc => ?_)
      · replace h := h.1 hc
        refine lv_iconst (v := 0) hx hb dX10_sees_33 (by decide) ?_
        rw [hZ]
        exact rt_i () hx hb hr hlocks hw h dX10_sees_34
      · replace h := h.2 hc
        refine lv_iconst (v := 1) hx hb dX10_sees_29 (by decide) ?_
        refine lv_goto (tgt := 34) hx hb dX10_sees_30 (by decide) ?_
        rw [hZ]
        exact rt_i () hx hb hr hlocks hw h dX10_sees_34
    · replace h := h.1 hc
      refine lv_iconst (v := (-1)) hx hb dX10_sees_16 (by decide) ?_
      refine lv_goto (tgt := 34) hx hb dX10_sees_17 (by decide) ?_
      rw [hZ]
      exact rt_i () hx hb hr hlocks hw h dX10_sees_34
def rm_mo_viewOf : Room := { frames := 3, cells := 0, slots := 0, locals := 79 }
set_option maxHeartbeats 4000000 in
set_option maxRecDepth 100000 in
theorem c_mo_viewOf {l : Launch} {D : va_G} {cI cL cZ : ClassId} {mx my : Nat} {A : Nat → Prop} {ad : Nat → Nat} {mo_wide mo_tall mo_law mo_range mo_pictures mo_postMany : Int32} {mo_kind mo_queue mo_far mo_pictureCell mo_facing mo_sights mo_fewest mo_posts mo_left mo_roundMany mo_round mo_shift mo_thief mo_danger mo_old : Nat → Int32} (x1 : Int32) {Q : Int32 → Prop} (h : P_mo_viewOf mo_wide mo_tall mo_kind mo_law mo_range x1 Q) : Met l yX10_viewOf wsX10_viewOf rm_mo_viewOf (va_Pc [.ref (ad 0), .int x1] (WC D cI cL cZ mx my A (wdM cI cL cZ ad mo_wide mo_tall mo_kind mo_law mo_range mo_queue mo_far mo_pictures mo_pictureCell mo_facing mo_sights mo_fewest mo_posts mo_postMany mo_left mo_roundMany mo_round mo_shift mo_thief mo_danger mo_old))) (va_Qi (fun (r : Int32) (u : Unit) => Q r) (fun (u : Unit) t => PW D A (wdM cI cL cZ ad mo_wide mo_tall mo_kind mo_law mo_range mo_queue mo_far mo_pictures mo_pictureCell mo_facing mo_sights mo_fewest mo_posts mo_postMany mo_left mo_roundMany mo_round mo_shift mo_thief mo_danger mo_old) t.heap) A) 0 0 A := by
  refine Met.ofW (cc := cX10_viewOf) (maxL := 4) (ret := (some .int)) (by decide) rfl ?_
  intro p e s m args below meth c s₁ B hml hv
  obtain ⟨hav, hP0, hD0, hK⟩ := hv
  have hx := B.exec
  have hb := B.bytes
  have hr := B.returns
  have hts := atoms_spec (ws := wsX10_viewOf) B.pre
  have hown : s.vm.findClass RX10 = some m.cls := findClass_of_methodNamed B.named
  have hlocks := B.notSynchronized
  have hB : ∀ w ∈ BIG, w ∈ wsX10_viewOf := fun _ h => List.mem_cons_of_mem _ h
  have hin : ∀ w ∈ wsX100, w ∈ wsX10_viewOf := fun w h => hB w (inB_X10 w h)
  have lk68 := hts _ (hB _ m_931)
  have lk71 := hts _ (hB _ m_932)
  obtain ⟨Z, hZ⟩ : ∃ Z : State → Prop, Z = MQ below (va_Qi (fun (r : Int32) (u : Unit) => Q r) (fun (u : Unit) t => PW D A (wdM cI cL cZ ad mo_wide mo_tall mo_kind mo_law mo_range mo_queue mo_far mo_pictures mo_pictureCell mo_facing mo_sights mo_fewest mo_posts mo_postMany mo_left mo_roundMany mo_round mo_shift mo_thief mo_danger mo_old) t.heap) A) args s 0 0 A := ⟨_, rfl⟩
  rw [← hZ]
  have hw : SW D A s.heap (wdM cI cL cZ ad mo_wide mo_tall mo_kind mo_law mo_range mo_queue mo_far mo_pictures mo_pictureCell mo_facing mo_sights mo_fewest mo_posts mo_postMany mo_left mo_roundMany mo_round mo_shift mo_thief mo_danger mo_old) s.heap [] := ⟨hP0, hD0, va_S.rf⟩
  clear hP0 hD0 B
  have J4 : ∀ (n : Nat) (x1 : Int32) (x2 : Int32) (x3 : Int32) , L_mo_viewOf_4 mo_wide mo_tall mo_kind mo_law mo_range Q n x1 x2 x3 → ∀ (H : Heap) (locs : List Loc) (ls : Array Slot), SW D A s.heap (wdM cI cL cZ ad mo_wide mo_tall mo_kind mo_law mo_range mo_queue mo_far mo_pictures mo_pictureCell mo_facing mo_sights mo_fewest mo_posts mo_postMany mo_left mo_roundMany mo_round mo_shift mo_thief mo_danger mo_old) H locs → lv_has ls 4 [(0, .ref (ad 0)), (1, .int x1), (2, .int x2), (3, .int x3)] → W p l e (headSpec wsX10_viewOf rm_mo_viewOf).room s m args below meth c H locs 0 0 Z (F0 m 4 ls []) := by
    intro  n
    induction n with
    | zero => intro x1 x2 x3 h; exact h.elim
    | succ n ih =>
    intro x1 x2 x3 h H locs ls hw hl
    unfold L_mo_viewOf_4 at h
    refine lv_iload_n hx hb dX10_viewOf_4 rfl (lv_at hl 3 rfl) ?_
    refine lv_aload_n hx hb dX10_viewOf_5 rfl (lv_at hl 0 rfl) ?_
    refine gM_mo_wide hx hb hts hin hown hK hw lk68 dX10_viewOf_6 ?_
    refine lv_aload_n hx hb dX10_viewOf_9 rfl (lv_at hl 0 rfl) ?_
    refine gM_mo_tall hx hb hts hin hown hK hw lk71 dX10_viewOf_10 ?_
    refine lv_imul hx hb dX10_viewOf_13 ?_
    refine lv_icmp_ge (tgt := 40) hx hb dX10_viewOf_14 (by decide) (fun hc => ?_) (fun hc => ?_)
    · replace h := h.1 hc
      refine lv_iload_n hx hb dX10_viewOf_40 rfl (lv_at hl 2 rfl) ?_
      rw [hZ]
      exact rt_i () hx hb hr hlocks hw h dX10_viewOf_41
    · replace h := h.2 hc
      refine lv_iload_n hx hb dX10_viewOf_17 rfl (lv_at hl 2 rfl) ?_
      refine lv_aload_n hx hb dX10_viewOf_18 rfl (lv_at hl 0 rfl) ?_
      refine lv_iload_n hx hb dX10_viewOf_19 rfl (lv_at hl 1 rfl) ?_
      refine lv_iload_n hx hb dX10_viewOf_20 rfl (lv_at hl 3 rfl) ?_
      refine cV_i (b := (ad 0)) (As := [.int x1, .int x3]) (rest := [.int x2]) ⟨hx, hb, hml, hown, hts⟩ hK hw (c_mo_isSeen x1 x3 h) (cwV 2 hts (gd_RX10_119 hB) rfl rfl rfl (by decide +kernel) ⟨Nat.le_of_ble_eq_true rfl, Nat.le_of_ble_eq_true rfl⟩) (rM_mo hK hw) hl.1 ⟨Nat.zero_le _, Nat.zero_le _⟩ rfl rfl (Nat.le_of_ble_eq_true rfl) dX10_viewOf_21 (fun r21 _ H locs h hw => ?_)
      refine lv_if_eq (tgt := 31) hx hb dX10_viewOf_24 (by decide) (fun hc => ?_) (fun hc => ?_)
      · replace h := h.1 hc
        refine lv_iconst (v := 0) hx hb dX10_viewOf_31 (by decide) ?_
        refine lv_iadd hx hb dX10_viewOf_32 ?_
        refine lv_istore_n (lv' := [(2, .int (x2 + (0 : Int32))), (0, .ref (ad 0)), (1, .int x1), (3, .int x3)]) hx hb dX10_viewOf_33 rfl hl (by decide) rfl (fun ls hl => ?_)
        refine lv_iinc (v := (x3 + (1 : Int32))) (lv' := [(3, .int (x3 + (1 : Int32))), (2, .int (x2 + (0 : Int32))), (0, .ref (ad 0)), (1, .int x1)]) hx hb dX10_viewOf_34 hl (k := 3) rfl rfl (by decide) rfl (fun ls hl => ?_)
        refine lv_goto (tgt := 4) hx hb dX10_viewOf_37 (by decide) ?_
        exact ih _ _ _ h _ _ _ hw (lv_sub hl [2, 3, 1, 0] rfl)
      · replace h := h.2 hc
        refine lv_iconst (v := 1) hx hb dX10_viewOf_27 (by decide) ?_
        refine lv_goto (tgt := 32) hx hb dX10_viewOf_28 (by decide) ?_
        refine lv_iadd hx hb dX10_viewOf_32 ?_
        refine lv_istore_n (lv' := [(2, .int (x2 + (1 : Int32))), (0, .ref (ad 0)), (1, .int x1), (3, .int x3)]) hx hb dX10_viewOf_33 rfl hl (by decide) rfl (fun ls hl => ?_)
        refine lv_iinc (v := (x3 + (1 : Int32))) (lv' := [(3, .int (x3 + (1 : Int32))), (2, .int (x2 + (1 : Int32))), (0, .ref (ad 0)), (1, .int x1)]) hx hb dX10_viewOf_34 hl (k := 3) rfl rfl (by decide) rfl (fun ls hl => ?_)
        refine lv_goto (tgt := 4) hx hb dX10_viewOf_37 (by decide) ?_
        exact ih _ _ _ h _ _ _ hw (lv_sub hl [2, 3, 1, 0] rfl)
  unfold P_mo_viewOf at h
  have he : entryFrame m args 4 = entryFrame m ([.ref (ad 0), .int x1] : List Value).toArray 4 := by rw [hav]
  refine W.eq he ?_
  have hl := lv_entry ([.ref (ad 0), .int x1]) (n := 4) (Nat.le_of_ble_eq_true rfl)
  rw [lg_entry_eq]
  generalize (lg_sl ([.ref (ad 0), .int x1]) ++ List.replicate (4 - (lg_sl ([.ref (ad 0), .int x1])).length) Slot.unset).toArray = ls at hl ⊢
  have hl : lv_has ls 4 [(0, .ref (ad 0)), (1, .int x1)] := hl
  refine lv_iconst (v := 0) hx hb dX10_viewOf_0 (by decide) ?_
  refine lv_istore_n (lv' := [(2, .int (0 : Int32)), (0, .ref (ad 0)), (1, .int x1)]) hx hb dX10_viewOf_1 rfl hl (by decide) rfl (fun ls hl => ?_)
  refine lv_iconst (v := 0) hx hb dX10_viewOf_2 (by decide) ?_
  refine lv_istore_n (lv' := [(3, .int (0 : Int32)), (2, .int (0 : Int32)), (0, .ref (ad 0)), (1, .int x1)]) hx hb dX10_viewOf_3 rfl hl (by decide) rfl (fun ls hl => ?_)
  obtain ⟨n4, h⟩ := h
  exact J4  n4 _ _ _ h _ _ _ hw (lv_sub hl [2, 3, 1, 0] rfl)
def rm_mo_view : Room := { frames := 4, cells := 0, slots := 0, locals := 102 }
set_option maxHeartbeats 4000000 in
set_option maxRecDepth 100000 in
theorem c_mo_view {l : Launch} {D : va_G} {cI cL cZ : ClassId} {mx my : Nat} {A : Nat → Prop} {ad : Nat → Nat} {mo_wide mo_tall mo_law mo_range mo_pictures mo_postMany : Int32} {mo_kind mo_queue mo_far mo_pictureCell mo_facing mo_sights mo_fewest mo_posts mo_left mo_roundMany mo_round mo_shift mo_thief mo_danger mo_old : Nat → Int32} (x1 : Int32) {Q : Int32 → Prop} (h : P_mo_view mo_wide mo_tall mo_kind mo_law mo_range x1 Q) : Met l yX10_view wsX10_view rm_mo_view (va_Pc [.ref (ad 0), .int x1] (WC D cI cL cZ mx my A (wdM cI cL cZ ad mo_wide mo_tall mo_kind mo_law mo_range mo_queue mo_far mo_pictures mo_pictureCell mo_facing mo_sights mo_fewest mo_posts mo_postMany mo_left mo_roundMany mo_round mo_shift mo_thief mo_danger mo_old))) (va_Qi (fun (r : Int32) (u : Unit) => Q r) (fun (u : Unit) t => PW D A (wdM cI cL cZ ad mo_wide mo_tall mo_kind mo_law mo_range mo_queue mo_far mo_pictures mo_pictureCell mo_facing mo_sights mo_fewest mo_posts mo_postMany mo_left mo_roundMany mo_round mo_shift mo_thief mo_danger mo_old) t.heap) A) 0 0 A := by
  refine Met.ofW (cc := cX10_view) (maxL := 2) (ret := (some .int)) (by decide) rfl ?_
  intro p e s m args below meth c s₁ B hml hv
  obtain ⟨hav, hP0, hD0, hK⟩ := hv
  have hx := B.exec
  have hb := B.bytes
  have hr := B.returns
  have hts := atoms_spec (ws := wsX10_view) B.pre
  have hown : s.vm.findClass RX10 = some m.cls := findClass_of_methodNamed B.named
  have hlocks := B.notSynchronized
  have hB : ∀ w ∈ BIG, w ∈ wsX10_view := fun _ h => List.mem_cons_of_mem _ h
  obtain ⟨Z, hZ⟩ : ∃ Z : State → Prop, Z = MQ below (va_Qi (fun (r : Int32) (u : Unit) => Q r) (fun (u : Unit) t => PW D A (wdM cI cL cZ ad mo_wide mo_tall mo_kind mo_law mo_range mo_queue mo_far mo_pictures mo_pictureCell mo_facing mo_sights mo_fewest mo_posts mo_postMany mo_left mo_roundMany mo_round mo_shift mo_thief mo_danger mo_old) t.heap) A) args s 0 0 A := ⟨_, rfl⟩
  rw [← hZ]
  have hw : SW D A s.heap (wdM cI cL cZ ad mo_wide mo_tall mo_kind mo_law mo_range mo_queue mo_far mo_pictures mo_pictureCell mo_facing mo_sights mo_fewest mo_posts mo_postMany mo_left mo_roundMany mo_round mo_shift mo_thief mo_danger mo_old) s.heap [] := ⟨hP0, hD0, va_S.rf⟩
  clear hP0 hD0 B
  unfold P_mo_view at h
  have he : entryFrame m args 2 = entryFrame m ([.ref (ad 0), .int x1] : List Value).toArray 2 := by rw [hav]
  refine W.eq he ?_
  have hl := lv_entry ([.ref (ad 0), .int x1]) (n := 2) (Nat.le_of_ble_eq_true rfl)
  rw [lg_entry_eq]
  generalize (lg_sl ([.ref (ad 0), .int x1]) ++ List.replicate (2 - (lg_sl ([.ref (ad 0), .int x1])).length) Slot.unset).toArray = ls at hl ⊢
  have hl : lv_has ls 2 [(0, .ref (ad 0)), (1, .int x1)] := hl
  refine lv_aload_n hx hb dX10_view_0 rfl (lv_at hl 0 rfl) ?_
  refine lv_iload_n hx hb dX10_view_1 rfl (lv_at hl 1 rfl) ?_
  refine cV_i (b := (ad 0)) (As := [.int x1]) (rest := []) ⟨hx, hb, hml, hown, hts⟩ hK hw (c_mo_isCell x1 h) (cwV 1 hts (gd_RX10_85 hB) rfl rfl rfl (by decide +kernel) ⟨Nat.le_of_ble_eq_true rfl, Nat.le_of_ble_eq_true rfl⟩) (rM_mo hK hw) hl.1 ⟨Nat.zero_le _, Nat.zero_le _⟩ rfl rfl (Nat.le_of_ble_eq_true rfl) dX10_view_2 (fun r2 _ H locs h hw => ?_)
  refine lv_if_eq (tgt := 16) hx hb dX10_view_5 (by decide) (fun hc => ?_) (fun hc => ?_)
  · replace h := h.1 hc
    refine lv_iconst (v := (-1)) hx hb dX10_view_16 (by decide) ?_
    rw [hZ]
    exact rt_i () hx hb hr hlocks hw h dX10_view_17
  · replace h := h.2 hc
    refine lv_aload_n hx hb dX10_view_8 rfl (lv_at hl 0 rfl) ?_
    refine lv_iload_n hx hb dX10_view_9 rfl (lv_at hl 1 rfl) ?_
    refine cV_i (b := (ad 0)) (As := [.int x1]) (rest := []) ⟨hx, hb, hml, hown, hts⟩ hK hw (c_mo_viewOf x1 h) (cwV 1 hts (gd_RX10_122 hB) rfl rfl rfl (by decide +kernel) ⟨Nat.le_of_ble_eq_true rfl, Nat.le_of_ble_eq_true rfl⟩) (rM_mo hK hw) hl.1 ⟨Nat.zero_le _, Nat.zero_le _⟩ rfl rfl (Nat.le_of_ble_eq_true rfl) dX10_view_10 (fun r10 _ H locs h hw => ?_)
    refine lv_goto (tgt := 17) hx hb dX10_view_13 (by decide) ?_
    rw [hZ]
    exact rt_i () hx hb hr hlocks hw h dX10_view_17
def rm_mo_best : Room := { frames := 4, cells := 0, slots := 0, locals := 102 }
set_option maxHeartbeats 4000000 in
set_option maxRecDepth 100000 in
theorem c_mo_best {l : Launch} {D : va_G} {cI cL cZ : ClassId} {mx my : Nat} {A : Nat → Prop} {ad : Nat → Nat} {mo_wide mo_tall mo_law mo_range mo_pictures mo_postMany : Int32} {mo_kind mo_queue mo_far mo_pictureCell mo_facing mo_sights mo_fewest mo_posts mo_left mo_roundMany mo_round mo_shift mo_thief mo_danger mo_old : Nat → Int32}  {Q : Int32 → Prop} (h : P_mo_best mo_wide mo_tall mo_kind mo_law mo_range Q) : Met l yX10_best wsX10_best rm_mo_best (va_Pc [.ref (ad 0)] (WC D cI cL cZ mx my A (wdM cI cL cZ ad mo_wide mo_tall mo_kind mo_law mo_range mo_queue mo_far mo_pictures mo_pictureCell mo_facing mo_sights mo_fewest mo_posts mo_postMany mo_left mo_roundMany mo_round mo_shift mo_thief mo_danger mo_old))) (va_Qi (fun (r : Int32) (u : Unit) => Q r) (fun (u : Unit) t => PW D A (wdM cI cL cZ ad mo_wide mo_tall mo_kind mo_law mo_range mo_queue mo_far mo_pictures mo_pictureCell mo_facing mo_sights mo_fewest mo_posts mo_postMany mo_left mo_roundMany mo_round mo_shift mo_thief mo_danger mo_old) t.heap) A) 0 0 A := by
  refine Met.ofW (cc := cX10_best) (maxL := 5) (ret := (some .int)) (by decide) rfl ?_
  intro p e s m args below meth c s₁ B hml hv
  obtain ⟨hav, hP0, hD0, hK⟩ := hv
  have hx := B.exec
  have hb := B.bytes
  have hr := B.returns
  have hts := atoms_spec (ws := wsX10_best) B.pre
  have hown : s.vm.findClass RX10 = some m.cls := findClass_of_methodNamed B.named
  have hlocks := B.notSynchronized
  have hB : ∀ w ∈ BIG, w ∈ wsX10_best := fun _ h => List.mem_cons_of_mem _ h
  have hin : ∀ w ∈ wsX100, w ∈ wsX10_best := fun w h => hB w (inB_X10 w h)
  have lk68 := hts _ (hB _ m_931)
  have lk71 := hts _ (hB _ m_932)
  obtain ⟨Z, hZ⟩ : ∃ Z : State → Prop, Z = MQ below (va_Qi (fun (r : Int32) (u : Unit) => Q r) (fun (u : Unit) t => PW D A (wdM cI cL cZ ad mo_wide mo_tall mo_kind mo_law mo_range mo_queue mo_far mo_pictures mo_pictureCell mo_facing mo_sights mo_fewest mo_posts mo_postMany mo_left mo_roundMany mo_round mo_shift mo_thief mo_danger mo_old) t.heap) A) args s 0 0 A := ⟨_, rfl⟩
  rw [← hZ]
  have hw : SW D A s.heap (wdM cI cL cZ ad mo_wide mo_tall mo_kind mo_law mo_range mo_queue mo_far mo_pictures mo_pictureCell mo_facing mo_sights mo_fewest mo_posts mo_postMany mo_left mo_roundMany mo_round mo_shift mo_thief mo_danger mo_old) s.heap [] := ⟨hP0, hD0, va_S.rf⟩
  clear hP0 hD0 B
  have J50 : ∀ (_ : True) (k7 : Int32 → Int32 → Int32 → Prop) (hk7 : ∀ (x1 : Int32) (x2 : Int32) (x3 : Int32) , k7 x1 x2 x3 → ∀ (H : Heap) (locs : List Loc) (ls : Array Slot), SW D A s.heap (wdM cI cL cZ ad mo_wide mo_tall mo_kind mo_law mo_range mo_queue mo_far mo_pictures mo_pictureCell mo_facing mo_sights mo_fewest mo_posts mo_postMany mo_left mo_roundMany mo_round mo_shift mo_thief mo_danger mo_old) H locs → lv_has ls 5 [(0, .ref (ad 0)), (1, .int x1), (2, .int x2), (3, .int x3)] → W p l e (headSpec wsX10_best rm_mo_best).room s m args below meth c H locs 0 0 Z (F0 m 7 ls [])) (x2 : Int32) (x3 : Int32) (x4 : Int32) (y0 : Int32) , B_mo_best_50 mo_wide mo_tall mo_kind mo_law mo_range Q k7 x2 x3 x4 y0 → ∀ (H : Heap) (locs : List Loc) (ls : Array Slot), SW D A s.heap (wdM cI cL cZ ad mo_wide mo_tall mo_kind mo_law mo_range mo_queue mo_far mo_pictures mo_pictureCell mo_facing mo_sights mo_fewest mo_posts mo_postMany mo_left mo_roundMany mo_round mo_shift mo_thief mo_danger mo_old) H locs → lv_has ls 5 [(0, .ref (ad 0)), (2, .int x2), (3, .int x3), (4, .int x4)] → W p l e (headSpec wsX10_best rm_mo_best).room s m args below meth c H locs 0 0 Z (F0 m 50 ls [.int y0]) := by
    intro _ k7 hk7 x2 x3 x4 y0 h H locs ls hw hl
    unfold B_mo_best_50 at h
    refine lv_istore_n (lv' := [(1, .int y0), (0, .ref (ad 0)), (2, .int x2), (3, .int x3), (4, .int x4)]) hx hb dX10_best_50 rfl hl (by decide) rfl (fun ls hl => ?_)
    refine lv_iload hx hb dX10_best_51 (lv_at hl 4 rfl) ?_
    refine lv_iload_n hx hb dX10_best_53 rfl (lv_at hl 2 rfl) ?_
    refine lv_icmp_le (tgt := 62) hx hb dX10_best_54 (by decide) (fun hc => ?_) (fun hc => ?_)
    · replace h := h.1 hc
      refine lv_iload_n hx hb dX10_best_62 rfl (lv_at hl 2 rfl) ?_
      refine lv_istore_n (lv' := [(2, .int x2), (1, .int y0), (0, .ref (ad 0)), (3, .int x3), (4, .int x4)]) hx hb dX10_best_63 rfl hl (by decide) rfl (fun ls hl => ?_)
      refine lv_iinc (v := (x3 + (1 : Int32))) (lv' := [(3, .int (x3 + (1 : Int32))), (2, .int x2), (1, .int y0), (0, .ref (ad 0)), (4, .int x4)]) hx hb dX10_best_64 hl (k := 3) rfl rfl (by decide) rfl (fun ls hl => ?_)
      refine lv_goto (tgt := 7) hx hb dX10_best_67 (by decide) ?_
      exact hk7 _ _ _ h _ _ _ hw (lv_sub hl [3, 2, 1, 0] rfl)
    · replace h := h.2 hc
      refine lv_iload hx hb dX10_best_57 (lv_at hl 4 rfl) ?_
      refine lv_goto (tgt := 63) hx hb dX10_best_59 (by decide) ?_
      refine lv_istore_n (lv' := [(2, .int x4), (1, .int y0), (0, .ref (ad 0)), (3, .int x3), (4, .int x4)]) hx hb dX10_best_63 rfl hl (by decide) rfl (fun ls hl => ?_)
      refine lv_iinc (v := (x3 + (1 : Int32))) (lv' := [(3, .int (x3 + (1 : Int32))), (2, .int x4), (1, .int y0), (0, .ref (ad 0)), (4, .int x4)]) hx hb dX10_best_64 hl (k := 3) rfl rfl (by decide) rfl (fun ls hl => ?_)
      refine lv_goto (tgt := 7) hx hb dX10_best_67 (by decide) ?_
      exact hk7 _ _ _ h _ _ _ hw (lv_sub hl [3, 2, 1, 0] rfl)
  have J37 : ∀ (_ : True) (k7 : Int32 → Int32 → Int32 → Prop) (hk7 : ∀ (x1 : Int32) (x2 : Int32) (x3 : Int32) , k7 x1 x2 x3 → ∀ (H : Heap) (locs : List Loc) (ls : Array Slot), SW D A s.heap (wdM cI cL cZ ad mo_wide mo_tall mo_kind mo_law mo_range mo_queue mo_far mo_pictures mo_pictureCell mo_facing mo_sights mo_fewest mo_posts mo_postMany mo_left mo_roundMany mo_round mo_shift mo_thief mo_danger mo_old) H locs → lv_has ls 5 [(0, .ref (ad 0)), (1, .int x1), (2, .int x2), (3, .int x3)] → W p l e (headSpec wsX10_best rm_mo_best).room s m args below meth c H locs 0 0 Z (F0 m 7 ls [])) (x1 : Int32) (x2 : Int32) (x3 : Int32) (y0 : Int32) , B_mo_best_37 mo_wide mo_tall mo_kind mo_law mo_range Q k7 x1 x2 x3 y0 → ∀ (H : Heap) (locs : List Loc) (ls : Array Slot), SW D A s.heap (wdM cI cL cZ ad mo_wide mo_tall mo_kind mo_law mo_range mo_queue mo_far mo_pictures mo_pictureCell mo_facing mo_sights mo_fewest mo_posts mo_postMany mo_left mo_roundMany mo_round mo_shift mo_thief mo_danger mo_old) H locs → lv_has ls 5 [(0, .ref (ad 0)), (1, .int x1), (2, .int x2), (3, .int x3)] → W p l e (headSpec wsX10_best rm_mo_best).room s m args below meth c H locs 0 0 Z (F0 m 37 ls [.int y0]) := by
    intro _ k7 hk7 x1 x2 x3 y0 h H locs ls hw hl
    unfold B_mo_best_37 at h
    refine lv_istore (lv' := [(4, .int y0), (0, .ref (ad 0)), (1, .int x1), (2, .int x2), (3, .int x3)]) hx hb dX10_best_37 hl (by decide) rfl (fun ls hl => ?_)
    refine lv_iload hx hb dX10_best_39 (lv_at hl 0 rfl) ?_
    refine lv_iload_n hx hb dX10_best_41 rfl (lv_at hl 3 rfl) ?_
    refine lv_icmp_le (tgt := 49) hx hb dX10_best_42 (by decide) (fun hc => ?_) (fun hc => ?_)
    · replace h := h.1 hc
      refine lv_iload_n hx hb dX10_best_49 rfl (lv_at hl 2 rfl) ?_
      exact J50 trivial k7 hk7 _ _ _ _ h _ _ _ hw (lv_sub hl [1, 3, 4, 0] rfl)
    · replace h := h.2 hc
      refine lv_iload_n hx hb dX10_best_45 rfl (lv_at hl 4 rfl) ?_
      refine lv_goto (tgt := 50) hx hb dX10_best_46 (by decide) ?_
      exact J50 trivial k7 hk7 _ _ _ _ h _ _ _ hw (lv_sub hl [1, 3, 4, 0] rfl)
  have J7 : ∀ (n : Nat) (x1 : Int32) (x2 : Int32) (x3 : Int32) , L_mo_best_7 mo_wide mo_tall mo_kind mo_law mo_range Q n x1 x2 x3 → ∀ (H : Heap) (locs : List Loc) (ls : Array Slot), SW D A s.heap (wdM cI cL cZ ad mo_wide mo_tall mo_kind mo_law mo_range mo_queue mo_far mo_pictures mo_pictureCell mo_facing mo_sights mo_fewest mo_posts mo_postMany mo_left mo_roundMany mo_round mo_shift mo_thief mo_danger mo_old) H locs → lv_has ls 5 [(0, .ref (ad 0)), (1, .int x1), (2, .int x2), (3, .int x3)] → W p l e (headSpec wsX10_best rm_mo_best).room s m args below meth c H locs 0 0 Z (F0 m 7 ls []) := by
    intro  n
    induction n with
    | zero => intro x1 x2 x3 h; exact h.elim
    | succ n ih =>
    intro x1 x2 x3 h H locs ls hw hl
    unfold L_mo_best_7 at h
    refine lv_iload_n hx hb dX10_best_7 rfl (lv_at hl 3 rfl) ?_
    refine lv_aload_n hx hb dX10_best_8 rfl (lv_at hl 0 rfl) ?_
    refine gM_mo_wide hx hb hts hin hown hK hw lk68 dX10_best_9 ?_
    refine lv_aload_n hx hb dX10_best_12 rfl (lv_at hl 0 rfl) ?_
    refine gM_mo_tall hx hb hts hin hown hK hw lk71 dX10_best_13 ?_
    refine lv_imul hx hb dX10_best_16 ?_
    refine lv_icmp_ge (tgt := 70) hx hb dX10_best_17 (by decide) (fun hc => ?_) (fun hc => ?_)
    · replace h := h.1 hc
      refine lv_iload_n hx hb dX10_best_70 rfl (lv_at hl 1 rfl) ?_
      rw [hZ]
      exact rt_i () hx hb hr hlocks hw h dX10_best_71
    · replace h := h.2 hc
      refine lv_aload_n hx hb dX10_best_20 rfl (lv_at hl 0 rfl) ?_
      refine lv_iload_n hx hb dX10_best_21 rfl (lv_at hl 3 rfl) ?_
      refine cV_i (b := (ad 0)) (As := [.int x3]) (rest := []) ⟨hx, hb, hml, hown, hts⟩ hK hw (c_mo_stands x3 h) (cwV 1 hts (gd_RX10_91 hB) rfl rfl rfl (by decide +kernel) ⟨Nat.le_of_ble_eq_true rfl, Nat.le_of_ble_eq_true rfl⟩) (rM_mo hK hw) hl.1 ⟨Nat.zero_le _, Nat.zero_le _⟩ rfl rfl (Nat.le_of_ble_eq_true rfl) dX10_best_22 (fun r22 _ H locs h hw => ?_)
      refine lv_if_eq (tgt := 36) hx hb dX10_best_25 (by decide) (fun hc => ?_) (fun hc => ?_)
      · replace h := h.1 hc
        refine lv_iconst (v := 0) hx hb dX10_best_36 (by decide) ?_
        exact J37 trivial (L_mo_best_7 mo_wide mo_tall mo_kind mo_law mo_range Q n) ih _ _ _ _ h _ _ _ hw (lv_sub hl [0, 1, 2, 3] rfl)
      · replace h := h.2 hc
        refine lv_aload_n hx hb dX10_best_28 rfl (lv_at hl 0 rfl) ?_
        refine lv_iload_n hx hb dX10_best_29 rfl (lv_at hl 3 rfl) ?_
        refine cV_i (b := (ad 0)) (As := [.int x3]) (rest := []) ⟨hx, hb, hml, hown, hts⟩ hK hw (c_mo_viewOf x3 h) (cwV 1 hts (gd_RX10_122 hB) rfl rfl rfl (by decide +kernel) ⟨Nat.le_of_ble_eq_true rfl, Nat.le_of_ble_eq_true rfl⟩) (rM_mo hK hw) hl.1 ⟨Nat.zero_le _, Nat.zero_le _⟩ rfl rfl (Nat.le_of_ble_eq_true rfl) dX10_best_30 (fun r30 _ H locs h hw => ?_)
        refine lv_goto (tgt := 37) hx hb dX10_best_33 (by decide) ?_
        exact J37 trivial (L_mo_best_7 mo_wide mo_tall mo_kind mo_law mo_range Q n) ih _ _ _ _ h _ _ _ hw (lv_sub hl [0, 1, 2, 3] rfl)
  unfold P_mo_best at h
  have he : entryFrame m args 5 = entryFrame m ([.ref (ad 0)] : List Value).toArray 5 := by rw [hav]
  refine W.eq he ?_
  have hl := lv_entry ([.ref (ad 0)]) (n := 5) (Nat.le_of_ble_eq_true rfl)
  rw [lg_entry_eq]
  generalize (lg_sl ([.ref (ad 0)]) ++ List.replicate (5 - (lg_sl ([.ref (ad 0)])).length) Slot.unset).toArray = ls at hl ⊢
  have hl : lv_has ls 5 [(0, .ref (ad 0))] := hl
  refine lv_bipush (v := (-9)) hx hb dX10_best_0 (by decide) ?_
  refine lv_istore_n (lv' := [(1, .int (-9 : Int32)), (0, .ref (ad 0))]) hx hb dX10_best_2 rfl hl (by decide) rfl (fun ls hl => ?_)
  refine lv_iconst (v := 0) hx hb dX10_best_3 (by decide) ?_
  refine lv_istore_n (lv' := [(2, .int (0 : Int32)), (1, .int (-9 : Int32)), (0, .ref (ad 0))]) hx hb dX10_best_4 rfl hl (by decide) rfl (fun ls hl => ?_)
  refine lv_iconst (v := 0) hx hb dX10_best_5 (by decide) ?_
  refine lv_istore_n (lv' := [(3, .int (0 : Int32)), (2, .int (0 : Int32)), (1, .int (-9 : Int32)), (0, .ref (ad 0))]) hx hb dX10_best_6 rfl hl (by decide) rfl (fun ls hl => ?_)
  obtain ⟨n7, h⟩ := h
  exact J7  n7 _ _ _ h _ _ _ hw (lv_sub hl [3, 2, 1, 0] rfl)
def rm_mo_picture : Room := { frames := 2, cells := 0, slots := 0, locals := 46 }
set_option maxHeartbeats 4000000 in
set_option maxRecDepth 100000 in
theorem c_mo_picture {l : Launch} {D : va_G} {cI cL cZ : ClassId} {mx my : Nat} {A : Nat → Prop} {ad : Nat → Nat} {mo_wide mo_tall mo_law mo_range mo_pictures mo_postMany : Int32} {mo_kind mo_queue mo_far mo_pictureCell mo_facing mo_sights mo_fewest mo_posts mo_left mo_roundMany mo_round mo_shift mo_thief mo_danger mo_old : Nat → Int32} (x1 : Int32) (x2 : Int32) {Q : Int32 → Int32 → (Nat → Int32) → (Nat → Int32) → Prop} (h : P_mo_picture mo_wide mo_tall mo_kind mo_pictures mo_pictureCell mo_facing x1 x2 Q) : Met l yX10_picture wsX10_picture rm_mo_picture (va_Pc [.ref (ad 0), .int x1, .int x2] (WC D cI cL cZ mx my A (wdM cI cL cZ ad mo_wide mo_tall mo_kind mo_law mo_range mo_queue mo_far mo_pictures mo_pictureCell mo_facing mo_sights mo_fewest mo_posts mo_postMany mo_left mo_roundMany mo_round mo_shift mo_thief mo_danger mo_old))) (va_Qi (fun (r : Int32) (u : Int32 × (Nat → Int32) × (Nat → Int32)) => Q r u.1 u.2.1 u.2.2) (fun (u : Int32 × (Nat → Int32) × (Nat → Int32)) t => PW D A (wdM cI cL cZ ad mo_wide mo_tall mo_kind mo_law mo_range mo_queue mo_far u.1 u.2.1 u.2.2 mo_sights mo_fewest mo_posts mo_postMany mo_left mo_roundMany mo_round mo_shift mo_thief mo_danger mo_old) t.heap) A) 0 0 A := by
  refine Met.ofW (cc := cX10_picture) (maxL := 3) (ret := (some .int)) (by decide) rfl ?_
  intro p e s m args below meth c s₁ B hml hv
  obtain ⟨hav, hP0, hD0, hK⟩ := hv
  have hx := B.exec
  have hb := B.bytes
  have hr := B.returns
  have hts := atoms_spec (ws := wsX10_picture) B.pre
  have hown : s.vm.findClass RX10 = some m.cls := findClass_of_methodNamed B.named
  have hlocks := B.notSynchronized
  have hB : ∀ w ∈ BIG, w ∈ wsX10_picture := fun _ h => List.mem_cons_of_mem _ h
  have hin : ∀ w ∈ wsX100, w ∈ wsX10_picture := fun w h => hB w (inB_X10 w h)
  have lk7 := hts _ (hB _ m_933)
  have lk27 := hts _ (hB _ m_939)
  have lk30 := hts _ (hB _ m_940)
  have lk74 := hts _ (hB _ m_938)
  obtain ⟨Z, hZ⟩ : ∃ Z : State → Prop, Z = MQ below (va_Qi (fun (r : Int32) (u : Int32 × (Nat → Int32) × (Nat → Int32)) => Q r u.1 u.2.1 u.2.2) (fun (u : Int32 × (Nat → Int32) × (Nat → Int32)) t => PW D A (wdM cI cL cZ ad mo_wide mo_tall mo_kind mo_law mo_range mo_queue mo_far u.1 u.2.1 u.2.2 mo_sights mo_fewest mo_posts mo_postMany mo_left mo_roundMany mo_round mo_shift mo_thief mo_danger mo_old) t.heap) A) args s 0 0 A := ⟨_, rfl⟩
  rw [← hZ]
  have hw : SW D A s.heap (wdM cI cL cZ ad mo_wide mo_tall mo_kind mo_law mo_range mo_queue mo_far mo_pictures mo_pictureCell mo_facing mo_sights mo_fewest mo_posts mo_postMany mo_left mo_roundMany mo_round mo_shift mo_thief mo_danger mo_old) s.heap [] := ⟨hP0, hD0, va_S.rf⟩
  clear hP0 hD0 B
  unfold P_mo_picture at h
  have he : entryFrame m args 3 = entryFrame m ([.ref (ad 0), .int x1, .int x2] : List Value).toArray 3 := by rw [hav]
  refine W.eq he ?_
  have hl := lv_entry ([.ref (ad 0), .int x1, .int x2]) (n := 3) (Nat.le_of_ble_eq_true rfl)
  rw [lg_entry_eq]
  generalize (lg_sl ([.ref (ad 0), .int x1, .int x2]) ++ List.replicate (3 - (lg_sl ([.ref (ad 0), .int x1, .int x2])).length) Slot.unset).toArray = ls at hl ⊢
  have hl : lv_has ls 3 [(0, .ref (ad 0)), (1, .int x1), (2, .int x2)] := hl
  refine lv_aload_n hx hb dX10_picture_0 rfl (lv_at hl 0 rfl) ?_
  refine lv_iload_n hx hb dX10_picture_1 rfl (lv_at hl 1 rfl) ?_
  refine cV_i (b := (ad 0)) (As := [.int x1]) (rest := []) ⟨hx, hb, hml, hown, hts⟩ hK hw (c_mo_isCell x1 h) (cwV 1 hts (gd_RX10_85 hB) rfl rfl rfl (by decide +kernel) ⟨Nat.le_of_ble_eq_true rfl, Nat.le_of_ble_eq_true rfl⟩) (rM_mo hK hw) hl.1 ⟨Nat.zero_le _, Nat.zero_le _⟩ rfl rfl (Nat.le_of_ble_eq_true rfl) dX10_picture_2 (fun r2 _ H locs h hw => ?_)
  refine lv_if_ne (tgt := 10) hx hb dX10_picture_5 (by decide) (fun hc => ?_) (fun hc => ?_)
  · replace h := h.2 hc
    refine lv_iload_n hx hb dX10_picture_10 rfl (lv_at hl 2 rfl) ?_
    refine lv_i2l hx hb dX10_picture_11 rfl ?_
    refine lv_lconst (v := 0) hx hb dX10_picture_12 (by decide) ?_
    refine lv_ldc2 (v := (3)) hx hb hown (hts _ (hB _ m_1013)) dX10_picture_13 ?_
    refine cS_i (As := [.long (Int32.toInt64 x2), .long (0 : Int64), .long (3 : Int64)]) (rest := []) ⟨hx, hb, hml, hown, hts⟩ hK hw (c_mo_in (Int32.toInt64 x2) (0 : Int64) (3 : Int64) h) (va_cwS 3 hts (gd_RX10_77 hB) rfl rfl rfl (by decide +kernel) ⟨Nat.le_of_ble_eq_true rfl, Nat.le_of_ble_eq_true rfl⟩) hl.1 ⟨Nat.zero_le _, Nat.zero_le _⟩ rfl rfl (Nat.le_of_ble_eq_true rfl) dX10_picture_16 (fun r16 _ H locs h hw => ?_)
    refine lv_if_ne (tgt := 25) hx hb dX10_picture_19 (by decide) (fun hc => ?_) (fun hc => ?_)
    · replace h := h.2 hc
      refine lv_aload_n hx hb dX10_picture_25 rfl (lv_at hl 0 rfl) ?_
      refine gM_mo_kind hx hb hts hin hown hK hw lk7 dX10_picture_26 ?_
      refine lv_iload_n hx hb dX10_picture_29 rfl (lv_at hl 1 rfl) ?_
      refine aM_mo_kind hx hb hK hw h.1 dX10_picture_30 ?_
      replace h := h.2
      refine lv_if_eq (tgt := 37) hx hb dX10_picture_31 (by decide) (fun hc => ?_) (fun hc => ?_)
      · replace h := h.1 hc
        refine lv_aload_n hx hb dX10_picture_37 rfl (lv_at hl 0 rfl) ?_
        refine gM_mo_pictures hx hb hts hin hown hK hw lk74 dX10_picture_38 ?_
        refine lv_bipush (v := 8) hx hb dX10_picture_41 (by decide) ?_
        refine lv_icmp_ne (tgt := 49) hx hb dX10_picture_43 (by decide) (fun hc => ?_) (fun hc => ?_)
        · replace h := h.2 hc
          refine lv_aload_n hx hb dX10_picture_49 rfl (lv_at hl 0 rfl) ?_
          refine gM_mo_pictureCell hx hb hts hin hown hK hw lk27 dX10_picture_50 ?_
          refine lv_aload_n hx hb dX10_picture_53 rfl (lv_at hl 0 rfl) ?_
          refine gM_mo_pictures hx hb hts hin hown hK hw lk74 dX10_picture_54 ?_
          refine lv_iload_n hx hb dX10_picture_57 rfl (lv_at hl 1 rfl) ?_
          refine tM_mo_pictureCell hx hb hK hw h.1 dX10_picture_58 (fun H locs hw => ?_)
          replace h := h.2
          refine lv_aload_n hx hb dX10_picture_59 rfl (lv_at hl 0 rfl) ?_
          refine gM_mo_facing hx hb hts hin hown hK hw lk30 dX10_picture_60 ?_
          refine lv_aload_n hx hb dX10_picture_63 rfl (lv_at hl 0 rfl) ?_
          refine gM_mo_pictures hx hb hts hin hown hK hw lk74 dX10_picture_64 ?_
          refine lv_iload_n hx hb dX10_picture_67 rfl (lv_at hl 2 rfl) ?_
          refine tM_mo_facing hx hb hK hw h.1 dX10_picture_68 (fun H locs hw => ?_)
          replace h := h.2
          refine lv_aload_n hx hb dX10_picture_69 rfl (lv_at hl 0 rfl) ?_
          refine lv_dup hx hb dX10_picture_70 rfl ?_
          refine gM_mo_pictures hx hb hts hin hown hK hw lk74 dX10_picture_71 ?_
          refine lv_iconst (v := 1) hx hb dX10_picture_74 (by decide) ?_
          refine lv_iadd hx hb dX10_picture_75 ?_
          refine sM_mo_pictures hx hb hts hin hown hK hw lk74 dX10_picture_76 (fun H locs hw => ?_)
          refine lv_aload_n hx hb dX10_picture_79 rfl (lv_at hl 0 rfl) ?_
          refine gM_mo_pictures hx hb hts hin hown hK hw lk74 dX10_picture_80 ?_
          refine lv_iconst (v := 1) hx hb dX10_picture_83 (by decide) ?_
          refine lv_isub hx hb dX10_picture_84 ?_
          rw [hZ]
          exact rt_i ((mo_pictures + (1 : Int32)), (upd mo_pictureCell mo_pictures.toNatClampNeg x1), (upd mo_facing mo_pictures.toNatClampNeg x2)) hx hb hr hlocks hw h dX10_picture_85
        · replace h := h.1 hc
          refine lv_bipush (v := (-4)) hx hb dX10_picture_46 (by decide) ?_
          rw [hZ]
          exact rt_i (mo_pictures, mo_pictureCell, mo_facing) hx hb hr hlocks hw h dX10_picture_48
      · replace h := h.2 hc
        refine lv_bipush (v := (-3)) hx hb dX10_picture_34 (by decide) ?_
        rw [hZ]
        exact rt_i (mo_pictures, mo_pictureCell, mo_facing) hx hb hr hlocks hw h dX10_picture_36
    · replace h := h.1 hc
      refine lv_bipush (v := (-2)) hx hb dX10_picture_22 (by decide) ?_
      rw [hZ]
      exact rt_i (mo_pictures, mo_pictureCell, mo_facing) hx hb hr hlocks hw h dX10_picture_24
  · replace h := h.1 hc
    refine lv_iconst (v := (-1)) hx hb dX10_picture_8 (by decide) ?_
    rw [hZ]
    exact rt_i (mo_pictures, mo_pictureCell, mo_facing) hx hb hr hlocks hw h dX10_picture_9
def rm_mo_isPicture : Room := { frames := 1, cells := 0, slots := 0, locals := 25 }
set_option maxHeartbeats 4000000 in
set_option maxRecDepth 100000 in
theorem c_mo_isPicture {l : Launch} {D : va_G} {cI cL cZ : ClassId} {mx my : Nat} {A : Nat → Prop} {ad : Nat → Nat} {mo_wide mo_tall mo_law mo_range mo_pictures mo_postMany : Int32} {mo_kind mo_queue mo_far mo_pictureCell mo_facing mo_sights mo_fewest mo_posts mo_left mo_roundMany mo_round mo_shift mo_thief mo_danger mo_old : Nat → Int32} (x1 : Int32) {Q : Int32 → Prop} (h : P_mo_isPicture mo_pictures x1 Q) : Met l yX10_isPicture wsX10_isPicture rm_mo_isPicture (va_Pc [.ref (ad 0), .int x1] (WC D cI cL cZ mx my A (wdM cI cL cZ ad mo_wide mo_tall mo_kind mo_law mo_range mo_queue mo_far mo_pictures mo_pictureCell mo_facing mo_sights mo_fewest mo_posts mo_postMany mo_left mo_roundMany mo_round mo_shift mo_thief mo_danger mo_old))) (va_Qi (fun (r : Int32) (u : Unit) => Q r) (fun (u : Unit) t => PW D A (wdM cI cL cZ ad mo_wide mo_tall mo_kind mo_law mo_range mo_queue mo_far mo_pictures mo_pictureCell mo_facing mo_sights mo_fewest mo_posts mo_postMany mo_left mo_roundMany mo_round mo_shift mo_thief mo_danger mo_old) t.heap) A) 0 0 A := by
  refine Met.ofW (cc := cX10_isPicture) (maxL := 2) (ret := (some .boolean)) (by decide) rfl ?_
  intro p e s m args below meth c s₁ B hml hv
  obtain ⟨hav, hP0, hD0, hK⟩ := hv
  have hx := B.exec
  have hb := B.bytes
  have hr := B.returns
  have hts := atoms_spec (ws := wsX10_isPicture) B.pre
  have hown : s.vm.findClass RX10 = some m.cls := findClass_of_methodNamed B.named
  have hlocks := B.notSynchronized
  have hB : ∀ w ∈ BIG, w ∈ wsX10_isPicture := fun _ h => List.mem_cons_of_mem _ h
  have hin : ∀ w ∈ wsX100, w ∈ wsX10_isPicture := fun w h => hB w (inB_X10 w h)
  have lk74 := hts _ (hB _ m_938)
  obtain ⟨Z, hZ⟩ : ∃ Z : State → Prop, Z = MQ below (va_Qi (fun (r : Int32) (u : Unit) => Q r) (fun (u : Unit) t => PW D A (wdM cI cL cZ ad mo_wide mo_tall mo_kind mo_law mo_range mo_queue mo_far mo_pictures mo_pictureCell mo_facing mo_sights mo_fewest mo_posts mo_postMany mo_left mo_roundMany mo_round mo_shift mo_thief mo_danger mo_old) t.heap) A) args s 0 0 A := ⟨_, rfl⟩
  rw [← hZ]
  have hw : SW D A s.heap (wdM cI cL cZ ad mo_wide mo_tall mo_kind mo_law mo_range mo_queue mo_far mo_pictures mo_pictureCell mo_facing mo_sights mo_fewest mo_posts mo_postMany mo_left mo_roundMany mo_round mo_shift mo_thief mo_danger mo_old) s.heap [] := ⟨hP0, hD0, va_S.rf⟩
  clear hP0 hD0 B
  unfold P_mo_isPicture at h
  have he : entryFrame m args 2 = entryFrame m ([.ref (ad 0), .int x1] : List Value).toArray 2 := by rw [hav]
  refine W.eq he ?_
  have hl := lv_entry ([.ref (ad 0), .int x1]) (n := 2) (Nat.le_of_ble_eq_true rfl)
  rw [lg_entry_eq]
  generalize (lg_sl ([.ref (ad 0), .int x1]) ++ List.replicate (2 - (lg_sl ([.ref (ad 0), .int x1])).length) Slot.unset).toArray = ls at hl ⊢
  have hl : lv_has ls 2 [(0, .ref (ad 0)), (1, .int x1)] := hl
  refine lv_iload_n hx hb dX10_isPicture_0 rfl (lv_at hl 1 rfl) ?_
  refine lv_i2l hx hb dX10_isPicture_1 rfl ?_
  refine lv_lconst (v := 0) hx hb dX10_isPicture_2 (by decide) ?_
  refine lv_aload_n hx hb dX10_isPicture_3 rfl (lv_at hl 0 rfl) ?_
  refine gM_mo_pictures hx hb hts hin hown hK hw lk74 dX10_isPicture_4 ?_
  refine lv_iconst (v := 1) hx hb dX10_isPicture_7 (by decide) ?_
  refine lv_isub hx hb dX10_isPicture_8 ?_
  refine lv_i2l hx hb dX10_isPicture_9 rfl ?_
  refine cS_i (As := [.long (Int32.toInt64 x1), .long (0 : Int64), .long (Int32.toInt64 (mo_pictures - (1 : Int32)))]) (rest := []) ⟨hx, hb, hml, hown, hts⟩ hK hw (c_mo_in (Int32.toInt64 x1) (0 : Int64) (Int32.toInt64 (mo_pictures - (1 : Int32))) h) (va_cwS 3 hts (gd_RX10_77 hB) rfl rfl rfl (by decide +kernel) ⟨Nat.le_of_ble_eq_true rfl, Nat.le_of_ble_eq_true rfl⟩) hl.1 ⟨Nat.zero_le _, Nat.zero_le _⟩ rfl rfl (Nat.le_of_ble_eq_true rfl) dX10_isPicture_10 (fun r10 _ H locs h hw => ?_)
  rw [hZ]
  exact rt_z () hx hb hr hlocks hw h.1 h.2 dX10_isPicture_13
def rm_mo_about : Room := { frames := 2, cells := 0, slots := 0, locals := 46 }
set_option maxHeartbeats 4000000 in
set_option maxRecDepth 100000 in
theorem c_mo_about {l : Launch} {D : va_G} {cI cL cZ : ClassId} {mx my : Nat} {A : Nat → Prop} {ad : Nat → Nat} {mo_wide mo_tall mo_law mo_range mo_pictures mo_postMany : Int32} {mo_kind mo_queue mo_far mo_pictureCell mo_facing mo_sights mo_fewest mo_posts mo_left mo_roundMany mo_round mo_shift mo_thief mo_danger mo_old : Nat → Int32} (x1 : Int32) (x2 : Int32) {Q : Int32 → Prop} (h : P_mo_about mo_pictures mo_pictureCell mo_facing x1 x2 Q) : Met l yX10_about wsX10_about rm_mo_about (va_Pc [.ref (ad 0), .int x1, .int x2] (WC D cI cL cZ mx my A (wdM cI cL cZ ad mo_wide mo_tall mo_kind mo_law mo_range mo_queue mo_far mo_pictures mo_pictureCell mo_facing mo_sights mo_fewest mo_posts mo_postMany mo_left mo_roundMany mo_round mo_shift mo_thief mo_danger mo_old))) (va_Qi (fun (r : Int32) (u : Unit) => Q r) (fun (u : Unit) t => PW D A (wdM cI cL cZ ad mo_wide mo_tall mo_kind mo_law mo_range mo_queue mo_far mo_pictures mo_pictureCell mo_facing mo_sights mo_fewest mo_posts mo_postMany mo_left mo_roundMany mo_round mo_shift mo_thief mo_danger mo_old) t.heap) A) 0 0 A := by
  refine Met.ofW (cc := cX10_about) (maxL := 3) (ret := (some .int)) (by decide) rfl ?_
  intro p e s m args below meth c s₁ B hml hv
  obtain ⟨hav, hP0, hD0, hK⟩ := hv
  have hx := B.exec
  have hb := B.bytes
  have hr := B.returns
  have hts := atoms_spec (ws := wsX10_about) B.pre
  have hown : s.vm.findClass RX10 = some m.cls := findClass_of_methodNamed B.named
  have hlocks := B.notSynchronized
  have hB : ∀ w ∈ BIG, w ∈ wsX10_about := fun _ h => List.mem_cons_of_mem _ h
  have hin : ∀ w ∈ wsX100, w ∈ wsX10_about := fun w h => hB w (inB_X10 w h)
  have lk27 := hts _ (hB _ m_939)
  have lk30 := hts _ (hB _ m_940)
  obtain ⟨Z, hZ⟩ : ∃ Z : State → Prop, Z = MQ below (va_Qi (fun (r : Int32) (u : Unit) => Q r) (fun (u : Unit) t => PW D A (wdM cI cL cZ ad mo_wide mo_tall mo_kind mo_law mo_range mo_queue mo_far mo_pictures mo_pictureCell mo_facing mo_sights mo_fewest mo_posts mo_postMany mo_left mo_roundMany mo_round mo_shift mo_thief mo_danger mo_old) t.heap) A) args s 0 0 A := ⟨_, rfl⟩
  rw [← hZ]
  have hw : SW D A s.heap (wdM cI cL cZ ad mo_wide mo_tall mo_kind mo_law mo_range mo_queue mo_far mo_pictures mo_pictureCell mo_facing mo_sights mo_fewest mo_posts mo_postMany mo_left mo_roundMany mo_round mo_shift mo_thief mo_danger mo_old) s.heap [] := ⟨hP0, hD0, va_S.rf⟩
  clear hP0 hD0 B
  unfold P_mo_about at h
  have he : entryFrame m args 3 = entryFrame m ([.ref (ad 0), .int x1, .int x2] : List Value).toArray 3 := by rw [hav]
  refine W.eq he ?_
  have hl := lv_entry ([.ref (ad 0), .int x1, .int x2]) (n := 3) (Nat.le_of_ble_eq_true rfl)
  rw [lg_entry_eq]
  generalize (lg_sl ([.ref (ad 0), .int x1, .int x2]) ++ List.replicate (3 - (lg_sl ([.ref (ad 0), .int x1, .int x2])).length) Slot.unset).toArray = ls at hl ⊢
  have hl : lv_has ls 3 [(0, .ref (ad 0)), (1, .int x1), (2, .int x2)] := hl
  refine lv_aload_n hx hb dX10_about_0 rfl (lv_at hl 0 rfl) ?_
  refine lv_iload_n hx hb dX10_about_1 rfl (lv_at hl 1 rfl) ?_
  refine cV_i (b := (ad 0)) (As := [.int x1]) (rest := []) ⟨hx, hb, hml, hown, hts⟩ hK hw (c_mo_isPicture x1 h) (cwV 1 hts (gd_RX10_125 hB) rfl rfl rfl (by decide +kernel) ⟨Nat.le_of_ble_eq_true rfl, Nat.le_of_ble_eq_true rfl⟩) (rM_mo hK hw) hl.1 ⟨Nat.zero_le _, Nat.zero_le _⟩ rfl rfl (Nat.le_of_ble_eq_true rfl) dX10_about_2 (fun r2 _ H locs h hw => ?_)
  refine lv_if_ne (tgt := 10) hx hb dX10_about_5 (by decide) (fun hc => ?_) (fun hc => ?_)
  · replace h := h.2 hc
    refine lv_iload_n hx hb dX10_about_10 rfl (lv_at hl 2 rfl) ?_
    refine lv_if_ne (tgt := 23) hx hb dX10_about_11 (by decide) (fun hc => ?_) (fun hc => ?_)
    · replace h := h.2 hc
      refine lv_iload_n hx hb dX10_about_23 rfl (lv_at hl 2 rfl) ?_
      refine lv_iconst (v := 1) hx hb dX10_about_24 (by decide) ?_
      refine lv_icmp_ne (tgt := 37) hx hb dX10_about_25 (by decide) (fun hc => ?_) (fun hc => ?_)
      · replace h := h.2 hc
        refine lv_bipush (v := (-2)) hx hb dX10_about_37 (by decide) ?_
        rw [hZ]
        exact rt_i () hx hb hr hlocks hw h dX10_about_39
      · replace h := h.1 hc
        refine lv_aload_n hx hb dX10_about_28 rfl (lv_at hl 0 rfl) ?_
        refine gM_mo_facing hx hb hts hin hown hK hw lk30 dX10_about_29 ?_
        refine lv_iload_n hx hb dX10_about_32 rfl (lv_at hl 1 rfl) ?_
        refine aM_mo_facing hx hb hK hw h.1 dX10_about_33 ?_
        replace h := h.2
        refine lv_goto (tgt := 39) hx hb dX10_about_34 (by decide) ?_
        rw [hZ]
        exact rt_i () hx hb hr hlocks hw h dX10_about_39
    · replace h := h.1 hc
      refine lv_aload_n hx hb dX10_about_14 rfl (lv_at hl 0 rfl) ?_
      refine gM_mo_pictureCell hx hb hts hin hown hK hw lk27 dX10_about_15 ?_
      refine lv_iload_n hx hb dX10_about_18 rfl (lv_at hl 1 rfl) ?_
      refine aM_mo_pictureCell hx hb hK hw h.1 dX10_about_19 ?_
      replace h := h.2
      refine lv_goto (tgt := 39) hx hb dX10_about_20 (by decide) ?_
      rw [hZ]
      exact rt_i () hx hb hr hlocks hw h dX10_about_39
  · replace h := h.1 hc
    refine lv_iconst (v := (-1)) hx hb dX10_about_8 (by decide) ?_
    rw [hZ]
    exact rt_i () hx hb hr hlocks hw h dX10_about_9
def rm_mo_sightsPicture : Room := { frames := 3, cells := 0, slots := 0, locals := 79 }
set_option maxHeartbeats 4000000 in
set_option maxRecDepth 100000 in
theorem c_mo_sightsPicture {l : Launch} {D : va_G} {cI cL cZ : ClassId} {mx my : Nat} {A : Nat → Prop} {ad : Nat → Nat} {mo_wide mo_tall mo_law mo_range mo_pictures mo_postMany : Int32} {mo_kind mo_queue mo_far mo_pictureCell mo_facing mo_sights mo_fewest mo_posts mo_left mo_roundMany mo_round mo_shift mo_thief mo_danger mo_old : Nat → Int32} (x1 : Int32) (x2 : Int32) {Q : Int32 → Prop} (h : P_mo_sightsPicture mo_wide mo_kind mo_law mo_range mo_pictureCell mo_facing x1 x2 Q) : Met l yX10_sightsPicture wsX10_sightsPicture rm_mo_sightsPicture (va_Pc [.ref (ad 0), .int x1, .int x2] (WC D cI cL cZ mx my A (wdM cI cL cZ ad mo_wide mo_tall mo_kind mo_law mo_range mo_queue mo_far mo_pictures mo_pictureCell mo_facing mo_sights mo_fewest mo_posts mo_postMany mo_left mo_roundMany mo_round mo_shift mo_thief mo_danger mo_old))) (va_Qi (fun (r : Int32) (u : Unit) => Q r) (fun (u : Unit) t => PW D A (wdM cI cL cZ ad mo_wide mo_tall mo_kind mo_law mo_range mo_queue mo_far mo_pictures mo_pictureCell mo_facing mo_sights mo_fewest mo_posts mo_postMany mo_left mo_roundMany mo_round mo_shift mo_thief mo_danger mo_old) t.heap) A) 0 0 A := by
  refine Met.ofW (cc := cX10_sightsPicture) (maxL := 7) (ret := (some .boolean)) (by decide) rfl ?_
  intro p e s m args below meth c s₁ B hml hv
  obtain ⟨hav, hP0, hD0, hK⟩ := hv
  have hx := B.exec
  have hb := B.bytes
  have hr := B.returns
  have hts := atoms_spec (ws := wsX10_sightsPicture) B.pre
  have hown : s.vm.findClass RX10 = some m.cls := findClass_of_methodNamed B.named
  have hlocks := B.notSynchronized
  have hB : ∀ w ∈ BIG, w ∈ wsX10_sightsPicture := fun _ h => List.mem_cons_of_mem _ h
  have hin : ∀ w ∈ wsX100, w ∈ wsX10_sightsPicture := fun w h => hB w (inB_X10 w h)
  have lk27 := hts _ (hB _ m_939)
  have lk30 := hts _ (hB _ m_940)
  have lk68 := hts _ (hB _ m_931)
  obtain ⟨Z, hZ⟩ : ∃ Z : State → Prop, Z = MQ below (va_Qi (fun (r : Int32) (u : Unit) => Q r) (fun (u : Unit) t => PW D A (wdM cI cL cZ ad mo_wide mo_tall mo_kind mo_law mo_range mo_queue mo_far mo_pictures mo_pictureCell mo_facing mo_sights mo_fewest mo_posts mo_postMany mo_left mo_roundMany mo_round mo_shift mo_thief mo_danger mo_old) t.heap) A) args s 0 0 A := ⟨_, rfl⟩
  rw [← hZ]
  have hw : SW D A s.heap (wdM cI cL cZ ad mo_wide mo_tall mo_kind mo_law mo_range mo_queue mo_far mo_pictures mo_pictureCell mo_facing mo_sights mo_fewest mo_posts mo_postMany mo_left mo_roundMany mo_round mo_shift mo_thief mo_danger mo_old) s.heap [] := ⟨hP0, hD0, va_S.rf⟩
  clear hP0 hD0 B
  have J111 : ∀ (_ : True) (x1 : Int32) (x2 : Int32) (y0 : Int32) , B_mo_sightsPicture_111 mo_wide mo_kind mo_law mo_range mo_pictureCell Q x1 x2 y0 → ∀ (H : Heap) (locs : List Loc) (ls : Array Slot), SW D A s.heap (wdM cI cL cZ ad mo_wide mo_tall mo_kind mo_law mo_range mo_queue mo_far mo_pictures mo_pictureCell mo_facing mo_sights mo_fewest mo_posts mo_postMany mo_left mo_roundMany mo_round mo_shift mo_thief mo_danger mo_old) H locs → lv_has ls 7 [(0, .ref (ad 0)), (1, .int x1), (2, .int x2)] → W p l e (headSpec wsX10_sightsPicture rm_mo_sightsPicture).room s m args below meth c H locs 0 0 Z (F0 m 111 ls [.int y0]) := by
    intro _  x1 x2 y0 h H locs ls hw hl
    unfold B_mo_sightsPicture_111 at h
    refine lv_istore (lv' := [(6, .int y0), (0, .ref (ad 0)), (1, .int x1), (2, .int x2)]) hx hb dX10_sightsPicture_111 hl (by decide) rfl (fun ls hl => ?_)
    refine lv_iload hx hb dX10_sightsPicture_113 (lv_at hl 0 rfl) ?_
    refine lv_if_eq (tgt := 136) hx hb dX10_sightsPicture_115 (by decide) (fun hc => ?_) (fun hc => ?_)
    · replace h := h.1 hc
      refine lv_iconst (v := 0) hx hb dX10_sightsPicture_136 (by decide) ?_
      rw [hZ]
      exact rt_z () hx hb hr hlocks hw (by decide) h dX10_sightsPicture_137
    · replace h := h.2 hc
      refine lv_aload_n hx hb dX10_sightsPicture_118 rfl (lv_at hl 1 rfl) ?_
      refine lv_iload_n hx hb dX10_sightsPicture_119 rfl (lv_at hl 3 rfl) ?_
      refine lv_aload_n hx hb dX10_sightsPicture_120 rfl (lv_at hl 1 rfl) ?_
      refine gM_mo_pictureCell hx hb hts hin hown hK hw lk27 dX10_sightsPicture_121 ?_
      refine lv_iload_n hx hb dX10_sightsPicture_124 rfl (lv_at hl 2 rfl) ?_
      refine aM_mo_pictureCell hx hb hK hw h.1 dX10_sightsPicture_125 ?_
      replace h := h.2
      refine cV_i (b := (ad 0)) (As := [.int x2, .int (mo_pictureCell x1.toNatClampNeg)]) (rest := []) ⟨hx, hb, hml, hown, hts⟩ hK hw (c_mo_isSeen x2 (mo_pictureCell x1.toNatClampNeg) h) (cwV 2 hts (gd_RX10_119 hB) rfl rfl rfl (by decide +kernel) ⟨Nat.le_of_ble_eq_true rfl, Nat.le_of_ble_eq_true rfl⟩) (rM_mo hK hw) hl.1 ⟨Nat.zero_le _, Nat.zero_le _⟩ rfl rfl (Nat.le_of_ble_eq_true rfl) dX10_sightsPicture_126 (fun r126 _ H locs h hw => ?_)
      refine lv_if_eq (tgt := 136) hx hb dX10_sightsPicture_129 (by decide) (fun hc => ?_) (fun hc => ?_)
      · replace h := h.1 hc
        refine lv_iconst (v := 0) hx hb dX10_sightsPicture_136 (by decide) ?_
        rw [hZ]
        exact rt_z () hx hb hr hlocks hw (by decide) h dX10_sightsPicture_137
      · replace h := h.2 hc
        refine lv_iconst (v := 1) hx hb dX10_sightsPicture_132 (by decide) ?_
        refine lv_goto (tgt := 137) hx hb dX10_sightsPicture_133 (by decide) ?_
        rw [hZ]
        exact rt_z () hx hb hr hlocks hw (by decide) h dX10_sightsPicture_137
  unfold P_mo_sightsPicture at h
  have he : entryFrame m args 7 = entryFrame m ([.ref (ad 0), .int x1, .int x2] : List Value).toArray 7 := by rw [hav]
  refine W.eq he ?_
  have hl := lv_entry ([.ref (ad 0), .int x1, .int x2]) (n := 7) (Nat.le_of_ble_eq_true rfl)
  rw [lg_entry_eq]
  generalize (lg_sl ([.ref (ad 0), .int x1, .int x2]) ++ List.replicate (7 - (lg_sl ([.ref (ad 0), .int x1, .int x2])).length) Slot.unset).toArray = ls at hl ⊢
  have hl : lv_has ls 7 [(0, .ref (ad 0)), (1, .int x1), (2, .int x2)] := hl
  refine lv_iload_n hx hb dX10_sightsPicture_0 rfl (lv_at hl 2 rfl) ?_
  refine lv_aload_n hx hb dX10_sightsPicture_1 rfl (lv_at hl 0 rfl) ?_
  refine gM_mo_wide hx hb hts hin hown hK hw lk68 dX10_sightsPicture_2 ?_
  refine lv_irem hx hb dX10_sightsPicture_5 h.1 ?_
  replace h := h.2
  refine lv_aload_n hx hb dX10_sightsPicture_6 rfl (lv_at hl 0 rfl) ?_
  refine gM_mo_pictureCell hx hb hts hin hown hK hw lk27 dX10_sightsPicture_7 ?_
  refine lv_iload_n hx hb dX10_sightsPicture_10 rfl (lv_at hl 1 rfl) ?_
  refine aM_mo_pictureCell hx hb hK hw h.1 dX10_sightsPicture_11 ?_
  replace h := h.2
  refine lv_aload_n hx hb dX10_sightsPicture_12 rfl (lv_at hl 0 rfl) ?_
  refine gM_mo_wide hx hb hts hin hown hK hw lk68 dX10_sightsPicture_13 ?_
  refine lv_irem hx hb dX10_sightsPicture_16 h.1 ?_
  replace h := h.2
  refine lv_isub hx hb dX10_sightsPicture_17 ?_
  refine lv_topi (fun x3_18 ex3_18 => ?_)
  replace h := h x3_18 ex3_18
  refine lv_istore_n (lv' := [(3, .int x3_18), (0, .ref (ad 0)), (1, .int x1), (2, .int x2)]) hx hb dX10_sightsPicture_18 rfl hl (by decide) rfl (fun ls hl => ?_)
  refine lv_iload_n hx hb dX10_sightsPicture_19 rfl (lv_at hl 3 rfl) ?_
  refine lv_aload_n hx hb dX10_sightsPicture_20 rfl (lv_at hl 1 rfl) ?_
  refine gM_mo_wide hx hb hts hin hown hK hw lk68 dX10_sightsPicture_21 ?_
  refine lv_idiv hx hb dX10_sightsPicture_24 h.1 ?_
  replace h := h.2
  refine lv_aload_n hx hb dX10_sightsPicture_25 rfl (lv_at hl 1 rfl) ?_
  refine gM_mo_pictureCell hx hb hts hin hown hK hw lk27 dX10_sightsPicture_26 ?_
  refine lv_iload_n hx hb dX10_sightsPicture_29 rfl (lv_at hl 2 rfl) ?_
  refine aM_mo_pictureCell hx hb hK hw h.1 dX10_sightsPicture_30 ?_
  replace h := h.2
  refine lv_aload_n hx hb dX10_sightsPicture_31 rfl (lv_at hl 1 rfl) ?_
  refine gM_mo_wide hx hb hts hin hown hK hw lk68 dX10_sightsPicture_32 ?_
  refine lv_idiv hx hb dX10_sightsPicture_35 h.1 ?_
  replace h := h.2
  refine lv_isub hx hb dX10_sightsPicture_36 ?_
  refine lv_topi (fun x4_37 ex4_37 => ?_)
  replace h := h x4_37 ex4_37
  refine lv_istore (lv' := [(4, .int x4_37), (3, .int x3_18), (0, .ref (ad 0)), (1, .int x1), (2, .int x2)]) hx hb dX10_sightsPicture_37 hl (by decide) rfl (fun ls hl => ?_)
  refine lv_aload_n hx hb dX10_sightsPicture_39 rfl (lv_at hl 2 rfl) ?_
  refine gM_mo_facing hx hb hts hin hown hK hw lk30 dX10_sightsPicture_40 ?_
  refine lv_iload_n hx hb dX10_sightsPicture_43 rfl (lv_at hl 3 rfl) ?_
  refine aM_mo_facing hx hb hK hw h.1 dX10_sightsPicture_44 ?_
  replace h := h.2
  refine lv_topi (fun x5_45 ex5_45 => ?_)
  replace h := h x5_45 ex5_45
  refine lv_istore (lv' := [(5, .int x5_45), (4, .int x4_37), (3, .int x3_18), (0, .ref (ad 0)), (1, .int x1), (2, .int x2)]) hx hb dX10_sightsPicture_45 hl (by decide) rfl (fun ls hl => ?_)
  refine lv_iload hx hb dX10_sightsPicture_47 (lv_at hl 0 rfl) ?_
  refine lv_if_ne (tgt := 64) hx hb dX10_sightsPicture_49 (by decide) (fun hc => ?_) (fun hc => ?_)
  · replace h := h.2 hc
    refine lv_iload hx hb dX10_sightsPicture_64 (lv_at hl 0 rfl) ?_
    refine lv_iconst (v := 1) hx hb dX10_sightsPicture_66 (by decide) ?_
    refine lv_icmp_ne (tgt := 83) hx hb dX10_sightsPicture_67 (by decide) (fun hc => ?_) (fun hc => ?_)
    · replace h := h.2 hc
      refine lv_iload hx hb dX10_sightsPicture_83 (lv_at hl 0 rfl) ?_
      refine lv_iconst (v := 2) hx hb dX10_sightsPicture_85 (by decide) ?_
      refine lv_icmp_ne (tgt := 101) hx hb dX10_sightsPicture_86 (by decide) (fun hc => ?_) (fun hc => ?_)
      · replace h := h.2 hc
        refine lv_iload hx hb dX10_sightsPicture_101 (lv_at hl 1 rfl) ?_
        refine lv_if_gt (tgt := 110) hx hb dX10_sightsPicture_103 (by decide) (fun hc => ?_) (fun hc => ?_)
        · replace h := h.1 hc
          refine lv_iconst (v := 0) hx hb dX10_sightsPicture_110 (by decide) ?_
          exact J111 trivial  _ _ _ h _ _ _ hw (lv_sub hl [3, 4, 5] rfl)
        · replace h := h.2 hc
          refine lv_iconst (v := 1) hx hb dX10_sightsPicture_106 (by decide) ?_
          refine lv_goto (tgt := 111) hx hb dX10_sightsPicture_107 (by decide) ?_
          exact J111 trivial  _ _ _ h _ _ _ hw (lv_sub hl [3, 4, 5] rfl)
      · replace h := h.1 hc
        refine lv_iload_n hx hb dX10_sightsPicture_89 rfl (lv_at hl 2 rfl) ?_
        refine lv_if_gt (tgt := 97) hx hb dX10_sightsPicture_90 (by decide) (fun hc => ?_) (fun hc => ?_)
        · replace h := h.1 hc
          refine lv_iconst (v := 0) hx hb dX10_sightsPicture_97 (by decide) ?_
          refine lv_goto (tgt := 111) hx hb dX10_sightsPicture_98 (by decide) ?_
          exact J111 trivial  _ _ _ h _ _ _ hw (lv_sub hl [3, 4, 5] rfl)
        · replace h := h.2 hc
          refine lv_iconst (v := 1) hx hb dX10_sightsPicture_93 (by decide) ?_
          refine lv_goto (tgt := 111) hx hb dX10_sightsPicture_94 (by decide) ?_
          exact J111 trivial  _ _ _ h _ _ _ hw (lv_sub hl [3, 4, 5] rfl)
    · replace h := h.1 hc
      refine lv_iload hx hb dX10_sightsPicture_70 (lv_at hl 1 rfl) ?_
      refine lv_if_lt (tgt := 79) hx hb dX10_sightsPicture_72 (by decide) (fun hc => ?_) (fun hc => ?_)
      · replace h := h.1 hc
        refine lv_iconst (v := 0) hx hb dX10_sightsPicture_79 (by decide) ?_
        refine lv_goto (tgt := 111) hx hb dX10_sightsPicture_80 (by decide) ?_
        exact J111 trivial  _ _ _ h _ _ _ hw (lv_sub hl [3, 4, 5] rfl)
      · replace h := h.2 hc
        refine lv_iconst (v := 1) hx hb dX10_sightsPicture_75 (by decide) ?_
        refine lv_goto (tgt := 111) hx hb dX10_sightsPicture_76 (by decide) ?_
        exact J111 trivial  _ _ _ h _ _ _ hw (lv_sub hl [3, 4, 5] rfl)
  · replace h := h.1 hc
    refine lv_iload_n hx hb dX10_sightsPicture_52 rfl (lv_at hl 2 rfl) ?_
    refine lv_if_lt (tgt := 60) hx hb dX10_sightsPicture_53 (by decide) (fun hc => ?_) (fun hc => ?_)
    · replace h := h.1 hc
      refine lv_iconst (v := 0) hx hb dX10_sightsPicture_60 (by decide) ?_
      refine lv_goto (tgt := 111) hx hb dX10_sightsPicture_61 (by decide) ?_
      exact J111 trivial  _ _ _ h _ _ _ hw (lv_sub hl [3, 4, 5] rfl)
    · replace h := h.2 hc
      refine lv_iconst (v := 1) hx hb dX10_sightsPicture_56 (by decide) ?_
      refine lv_goto (tgt := 111) hx hb dX10_sightsPicture_57 (by decide) ?_
      exact J111 trivial  _ _ _ h _ _ _ hw (lv_sub hl [3, 4, 5] rfl)
