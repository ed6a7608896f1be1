section IGM
variable {p : Program} {l : Launch} {e : Env} {s : State} {m : MethodId} {args : Array Value} {below : List Frame} {meth : Method} {c : Code}
variable {D : va_G} {kk : Nat → ClassId} {ad : Nat → Nat} {bs : Nat} {a b a9 : ig_M} {la lb lo la9 : Int64}
set_option maxHeartbeats 4000000 in
set_option maxRecDepth 100000 in
theorem k_X5_delayEach (l : Launch) {D : va_G} {kk : Nat → ClassId} {ad : Nat → Nat} {bs : Nat} {a : ig_M} {la : Int64} {b : ig_M} {lb lo : Int64} {post : UInt32 → Prop} (hf : wp_X5_delayEach a la post) : MetD lw_cs l yX5_delayEach (ig_ws yX5_delayEach cX5_delayEach 1 (some .float)) (k2_rm 0 0) (va_Pc [.ref (ad 0)] (ig_Wd D kk ad bs a la b lb lo)) (va_Qf (fun (r : UInt32) (_ : Unit) => post r) (fun _ t => ig_Wd D kk ad bs a la b lb lo t) (ig_A bs)) 0 0 (ig_A bs) := by
  refine MetD.ofW (cc := cX5_delayEach) (maxL := 1) (ret := some .float) (by decide) rfl ?_
  intro p e s m args below meth c s₁ B hml hv hd0
  obtain ⟨rfl, E, hP⟩ := hv
  have hk := B.notSynchronized
  have hr := B.returns
  have F : CallFix p m c cX5_delayEach 1 s _ ig_all RX5 := ⟨B.exec, B.bytes, hml, findClass_of_methodNamed B.named, fun w hw => atoms_spec B.pre w (List.mem_cons_of_mem _ hw)⟩
  have Z : ig_Z D kk ad bs s s.heap [] a la b lb lo := ig_Z.rf hP
  have hl := lv_entry ([.ref (ad 0)]) (n := 1) (Nat.le_of_ble_eq_true rfl)
  rw [lg_entry_eq]
  generalize (lg_sl ([.ref (ad 0)]) ++ List.replicate (1 - (lg_sl ([.ref (ad 0)])).length) Slot.unset).toArray = ls at hl ⊢
  have hl : lv_has ls 1 [(0, .ref (ad 0))] := hl
  have F := ig_Fd F s.drawn
  have E := ig_Ed E s.drawn
  have Z := ig_Zd Z s.drawn
  refine lv_aload_n F.1 F.2.1 dX5_delayEach_0 rfl (lv_at hl 0 rfl) ?_
  refine gf_X5_28 F E Z dX5_delayEach_1 ?_
  refine gf_X5_162 F E Z dX5_delayEach_4 ?_
  refine lv_if_ne (tgt := 12) F.1 F.2.1 dX5_delayEach_7 (by decide) (fun c_1 => ?_) (fun c_1 => ?_)
  · have hf := hf.1 c_1
    refine lv_aload_n F.1 F.2.1 dX5_delayEach_12 rfl (lv_at hl 0 rfl) ?_
    refine gf_X5_28 F E Z dX5_delayEach_13 ?_
    refine gf_X5_183 F E Z dX5_delayEach_16 ?_
    refine lv_l2f F.1 F.2.1 dX5_delayEach_19 ?_
    refine lv_aload_n F.1 F.2.1 dX5_delayEach_20 rfl (lv_at hl 0 rfl) ?_
    refine gf_X5_28 F E Z dX5_delayEach_21 ?_
    refine gf_X5_162 F E Z dX5_delayEach_24 ?_
    refine lv_i2f F.1 F.2.1 dX5_delayEach_27 ?_
    refine lv_fdiv_any hd0 lw_bits F.1 F.2.1 dX5_delayEach_28 (fun r2 d2 hal2 hd2 => ?_)
    have hf := hf r2 hal2
    have F := ig_Fd F d2
    have E := ig_Ed E d2
    have Z := ig_Zd Z d2
    refine W.endD hd2 ?_
    exact W.fret F.1 F.2.1 hr (fun t ht hW => ⟨⟨r2, (), rfl, hf, Z.wd E ht hW⟩, Z.fr ht⟩) Z.2.2.2 dX5_delayEach_29
  · have hf := hf.2 c_1
    refine lv_fconst0 F.1 F.2.1 dX5_delayEach_10 ?_
    refine W.endD hd0 ?_
    exact W.fret F.1 F.2.1 hr (fun t ht hW => ⟨⟨FP.fconst0, (), rfl, hf, Z.wd E ht hW⟩, Z.fr ht⟩) Z.2.2.2 dX5_delayEach_11
set_option maxHeartbeats 4000000 in
set_option maxRecDepth 100000 in
theorem k_X6_delayEach (l : Launch) {D : va_G} {kk : Nat → ClassId} {ad : Nat → Nat} {bs : Nat} {a : ig_M} {la : Int64} {b : ig_M} {lb lo : Int64} {post : UInt32 → ig_M → Int64 → Prop} (hf : wp_X6_delayEach b lb post) : MetD lw_cs l yX6_delayEach (ig_ws yX6_delayEach cX6_delayEach 1 (some .float)) (k2_rm 0 0) (va_Pc [.ref (ad 97)] (ig_Wd D kk ad bs a la b lb lo)) (va_Qf (fun (r : UInt32) (u : ig_M × Int64) => post r u.1 u.2) (fun u t => ig_Wd D kk ad bs a la u.1 u.2 lo t) (ig_A bs)) 0 0 (ig_A bs) := by
  refine MetD.ofW (cc := cX6_delayEach) (maxL := 1) (ret := some .float) (by decide) rfl ?_
  intro p e s m args below meth c s₁ B hml hv hd0
  obtain ⟨rfl, E, hP⟩ := hv
  have hk := B.notSynchronized
  have hr := B.returns
  have F : CallFix p m c cX6_delayEach 1 s _ ig_all RX6 := ⟨B.exec, B.bytes, hml, findClass_of_methodNamed B.named, fun w hw => atoms_spec B.pre w (List.mem_cons_of_mem _ hw)⟩
  have Z : ig_Z D kk ad bs s s.heap [] a la b lb lo := ig_Z.rf hP
  have hl := lv_entry ([.ref (ad 97)]) (n := 1) (Nat.le_of_ble_eq_true rfl)
  rw [lg_entry_eq]
  generalize (lg_sl ([.ref (ad 97)]) ++ List.replicate (1 - (lg_sl ([.ref (ad 97)])).length) Slot.unset).toArray = ls at hl ⊢
  have hl : lv_has ls 1 [(0, .ref (ad 97))] := hl
  have F := ig_Fd F s.drawn
  have E := ig_Ed E s.drawn
  have Z := ig_Zd Z s.drawn
  refine lv_aload_n F.1 F.2.1 dX6_delayEach_0 rfl (lv_at hl 0 rfl) ?_
  refine lv_iconst (v := 0) F.1 F.2.1 dX6_delayEach_1 (by decide) ?_
  refine pf_X6_66 F E Z dX6_delayEach_2 (fun H locs b1 hb1 Z => ?_)
  have hf := hf b1 hb1
  refine lv_aload_n F.1 F.2.1 dX6_delayEach_5 rfl (lv_at hl 0 rfl) ?_
  refine gf_X6_132 F E Z dX6_delayEach_6 ?_
  refine lv_if_ne (tgt := 16) F.1 F.2.1 dX6_delayEach_9 (by decide) (fun c_2 => ?_) (fun c_2 => ?_)
  · have hf := hf.1 c_2
    refine lv_aload_n F.1 F.2.1 dX6_delayEach_16 rfl (lv_at hl 0 rfl) ?_
    refine gf_X6_151 F E Z dX6_delayEach_17 ?_
    refine lv_l2f F.1 F.2.1 dX6_delayEach_20 ?_
    refine lv_aload_n F.1 F.2.1 dX6_delayEach_21 rfl (lv_at hl 0 rfl) ?_
    refine gf_X6_132 F E Z dX6_delayEach_22 ?_
    refine lv_i2f F.1 F.2.1 dX6_delayEach_25 ?_
    refine lv_fdiv_any hd0 lw_bits F.1 F.2.1 dX6_delayEach_26 (fun r3 d3 hal3 hd3 => ?_)
    have hf := hf r3 hal3
    have F := ig_Fd F d3
    have E := ig_Ed E d3
    have Z := ig_Zd Z d3
    refine W.endD hd3 ?_
    exact W.fret F.1 F.2.1 hr (fun t ht hW => ⟨⟨r3, (b1, lb), rfl, hf, Z.wd E ht hW⟩, Z.fr ht⟩) Z.2.2.2 dX6_delayEach_27
  · have hf := hf.2 c_2
    refine lv_fconst0 F.1 F.2.1 dX6_delayEach_12 ?_
    refine lv_goto (tgt := 27) F.1 F.2.1 dX6_delayEach_13 (by decide) ?_
    refine W.endD hd0 ?_
    exact W.fret F.1 F.2.1 hr (fun t ht hW => ⟨⟨FP.fconst0, (b1, lb), rfl, hf, Z.wd E ht hW⟩, Z.fr ht⟩) Z.2.2.2 dX6_delayEach_27
set_option maxHeartbeats 4000000 in
set_option maxRecDepth 100000 in
theorem k_L_phase (l : Launch) {D : va_G} {kk : Nat → ClassId} {ad : Nat → Nat} {bs : Nat} {a : ig_M} {la : Int64} {b : ig_M} {lb lo : Int64} (x1 : Int32) (x2 : Int32) (x3 : Int32) (hlt : l.stackTraces = false) {post : Int32 → ig_M → Int64 → Int64 → Prop} (hf : wp_L_phase a la lo x1 x2 x3 post) : Met l yL_phase (ig_wsW yL_phase cL_phase 6 (some .int) [(0, 12, 15, 13), (0, 12, 19, 15)]) ({ frames := 7, cells := 1, slots := 6, locals := 113 } : Room) (va_Pc [.ref (ad 0), .int x1, .int x2, .int x3, .ref (ad 115)] (ig_Wd D kk ad bs a la b lb lo)) (va_Qi (fun (r : Int32) (u : ig_M × Int64 × Int64) => post r u.1 u.2.1 u.2.2) (fun u t => ig_Wd D kk ad bs u.1 u.2.1 b lb u.2.2 t) (ig_A bs)) 1 6 (ig_A bs) := by
  refine ig_ofWH (cc := cL_phase) (maxL := 6) (ret := some .int) (hh := [(0, 12, 15, 13), (0, 12, 19, 15)]) (by decide) rfl ?_
  intro p e s m args below meth c s₁ B hml htab hv
  obtain ⟨rfl, E, hP⟩ := hv
  have hk := B.notSynchronized
  have hr := B.returns
  have F : CallFix p m c cL_phase 6 s _ ig_all RL := ⟨B.exec, B.bytes, hml, findClass_of_methodNamed B.named, fun w hw => atoms_spec B.pre w (List.mem_cons_of_mem _ hw)⟩
  have Z : ig_Z D kk ad bs s s.heap [] a la b lb lo := ig_Z.rf hP
  have hl := lv_entry ([.ref (ad 0), .int x1, .int x2, .int x3, .ref (ad 115)]) (n := 6) (Nat.le_of_ble_eq_true rfl)
  rw [lg_entry_eq]
  generalize (lg_sl ([.ref (ad 0), .int x1, .int x2, .int x3, .ref (ad 115)]) ++ List.replicate (6 - (lg_sl ([.ref (ad 0), .int x1, .int x2, .int x3, .ref (ad 115)])).length) Slot.unset).toArray = ls at hl ⊢
  have hl : lv_has ls 6 [(0, .ref (ad 0)), (1, .int x1), (2, .int x2), (3, .int x3), (4, .ref (ad 115))] := hl
  refine lv_aload F.1 F.2.1 dL_phase_0 (lv_at hl 4 rfl) ?_
  refine lv_iconst (v := 0) F.1 F.2.1 dL_phase_2 (by decide) ?_
  refine lv_aload_n F.1 F.2.1 dL_phase_3 rfl (lv_at hl 0 rfl) ?_
  refine lv_iload_n F.1 F.2.1 dL_phase_4 rfl (lv_at hl 1 rfl) ?_
  refine lv_iload_n F.1 F.2.1 dL_phase_5 rfl (lv_at hl 2 rfl) ?_
  refine lv_iload_n F.1 F.2.1 dL_phase_6 rfl (lv_at hl 3 rfl) ?_
  have hM := k_X5_phase l (D := D) (kk := kk) (ad := ad) (bs := bs) (a := a) (la := la) (b := b) (lb := lb) (lo := lo) x1 x2 x3 hlt hf
  refine ig_callXi E Z (ig_runVX (As := [.int x1, .int x2, .int x3]) (rest := [.int 0, .ref (ad 115)]) F E Z hl G_L_7 hM (i := 0) (by decide) (ig_k_0 _ _ _ _ _ _) rfl rfl md_X5_phase rfl ⟨rfl, rfl⟩ ⟨Nat.le_of_ble_eq_true rfl, Nat.le_of_ble_eq_true rfl⟩ (Nat.le_of_ble_eq_true rfl) dL_phase_7 ⟨Nat.le_of_ble_eq_true rfl, Nat.le_of_ble_eq_true rfl⟩) (fun u q9 ce H locs hu Z hce hcv hcl => ?_) (fun r1 u H locs hf Z => ?_)
  · rcases hu with ⟨rfl, hf⟩ | ⟨rfl, hf⟩
    · refine ig_catch F E htab 0 [] [⟨0, 12, 19, 15⟩] ⟨0, 12, 15, 13⟩ rfl (by decide) (fun z hz => nomatch hz) rfl (by decide) mw_463 hce hcv hcl ?_
      refine lv_astore (lv' := [(5, .ref q9), (0, .ref (ad 0)), (1, .int x1), (2, .int x2), (3, .int x3), (4, .ref (ad 115))]) F.1 F.2.1 dL_phase_15 hl (by decide) rfl (fun ls hl => ?_)
      refine lv_iconst (v := 1) F.1 F.2.1 dL_phase_17 (by decide) ?_
      refine W.widen (k := 1) (n := 6) (Nat.le_of_ble_eq_true rfl) (Nat.le_of_ble_eq_true rfl) ?_
      exact W.iret (v := 1) F.1 F.2.1 hr (fun t ht hW => ⟨⟨_, (a, la, lo), rfl, hf, Z.wd E ht hW⟩, Z.fr ht⟩) Z.2.2.2 dL_phase_18
    · refine ig_catch F E htab 1 [⟨0, 12, 15, 13⟩] [] ⟨0, 12, 19, 15⟩ rfl (by decide) (List.forall_mem_cons.mpr ⟨⟨by decide, "java/lang/IllegalArgumentException", mw_463, by decide +kernel⟩, (fun z hz => nomatch hz)⟩) rfl (by decide) mw_464 hce hcv hcl ?_
      refine lv_astore (lv' := [(5, .ref q9), (0, .ref (ad 0)), (1, .int x1), (2, .int x2), (3, .int x3), (4, .ref (ad 115))]) F.1 F.2.1 dL_phase_19 hl (by decide) rfl (fun ls hl => ?_)
      refine lv_iconst (v := 2) F.1 F.2.1 dL_phase_21 (by decide) ?_
      refine W.widen (k := 1) (n := 6) (Nat.le_of_ble_eq_true rfl) (Nat.le_of_ble_eq_true rfl) ?_
      exact W.iret (v := 2) F.1 F.2.1 hr (fun t ht hW => ⟨⟨_, (a, la, lo), rfl, hf, Z.wd E ht hW⟩, Z.fr ht⟩) Z.2.2.2 dL_phase_22
  · obtain ⟨a1, la1⟩ := u
    have Z : ig_Z D kk ad bs s H locs a1 la1 b lb lo := Z
    refine lv_i2l F.1 F.2.1 dL_phase_10 rfl ?_
    refine ig_last F E Z dL_phase_11 (fun H locs Z => ?_)
    refine lv_goto (tgt := 23) F.1 F.2.1 dL_phase_12 (by decide) ?_
    refine lv_iconst (v := 0) F.1 F.2.1 dL_phase_23 (by decide) ?_
    refine W.widen (k := 1) (n := 6) (Nat.le_of_ble_eq_true rfl) (Nat.le_of_ble_eq_true rfl) ?_
    exact W.iret (v := 0) F.1 F.2.1 hr (fun t ht hW => ⟨⟨_, (a1, la1, r1.toInt64), rfl, hf, Z.wd E ht hW⟩, Z.fr ht⟩) Z.2.2.2 dL_phase_24
set_option maxHeartbeats 4000000 in
set_option maxRecDepth 100000 in
theorem k_L_meet (l : Launch) {D : va_G} {kk : Nat → ClassId} {ad : Nat → Nat} {bs : Nat} {a : ig_M} {la : Int64} {b : ig_M} {lb lo : Int64} (x1 : Int32) (x2 : Int32) (x3 : Int32) (x4 : Int32) (hlt : l.stackTraces = false) {post : Int32 → ig_M → Int64 → Int64 → Prop} (hf : wp_L_meet a la lo x1 x2 x3 x4 post) : Met l yL_meet (ig_wsW yL_meet cL_meet 6 (some .int) [(0, 9, 12, 21), (0, 9, 16, 13), (0, 9, 20, 15)]) ({ frames := 8, cells := 3, slots := 18, locals := 135 } : Room) (va_Pc [.ref (ad 0), .int x1, .int x2, .int x3, .int x4] (ig_Wd D kk ad bs a la b lb lo)) (va_Qi (fun (r : Int32) (u : ig_M × Int64 × Int64) => post r u.1 u.2.1 u.2.2) (fun u t => ig_Wd D kk ad bs u.1 u.2.1 b lb u.2.2 t) (ig_A bs)) 3 18 (ig_A bs) := by
  refine ig_ofWH (cc := cL_meet) (maxL := 6) (ret := some .int) (hh := [(0, 9, 12, 21), (0, 9, 16, 13), (0, 9, 20, 15)]) (by decide) rfl ?_
  intro p e s m args below meth c s₁ B hml htab hv
  obtain ⟨rfl, E, hP⟩ := hv
  have hk := B.notSynchronized
  have hr := B.returns
  have F : CallFix p m c cL_meet 6 s _ ig_all RL := ⟨B.exec, B.bytes, hml, findClass_of_methodNamed B.named, fun w hw => atoms_spec B.pre w (List.mem_cons_of_mem _ hw)⟩
  have Z : ig_Z D kk ad bs s s.heap [] a la b lb lo := ig_Z.rf hP
  have hl := lv_entry ([.ref (ad 0), .int x1, .int x2, .int x3, .int x4]) (n := 6) (Nat.le_of_ble_eq_true rfl)
  rw [lg_entry_eq]
  generalize (lg_sl ([.ref (ad 0), .int x1, .int x2, .int x3, .int x4]) ++ List.replicate (6 - (lg_sl ([.ref (ad 0), .int x1, .int x2, .int x3, .int x4])).length) Slot.unset).toArray = ls at hl ⊢
  have hl : lv_has ls 6 [(0, .ref (ad 0)), (1, .int x1), (2, .int x2), (3, .int x3), (4, .int x4)] := hl
  refine lv_aload_n F.1 F.2.1 dL_meet_0 rfl (lv_at hl 0 rfl) ?_
  refine lv_iload_n F.1 F.2.1 dL_meet_1 rfl (lv_at hl 1 rfl) ?_
  refine lv_iload_n F.1 F.2.1 dL_meet_2 rfl (lv_at hl 2 rfl) ?_
  refine lv_iload_n F.1 F.2.1 dL_meet_3 rfl (lv_at hl 3 rfl) ?_
  refine lv_iload F.1 F.2.1 dL_meet_4 (lv_at hl 4 rfl) ?_
  have hM := k_X5_meet l (D := D) (kk := kk) (ad := ad) (bs := bs) (a := a) (la := la) (b := b) (lb := lb) (lo := lo) x1 x2 x3 x4 hlt hf
  refine ig_callXv E Z (ig_runVX (As := [.int x1, .int x2, .int x3, .int x4]) (rest := []) F E Z hl G_L_17 hM (i := 0) (by decide) (ig_k_0 _ _ _ _ _ _) rfl rfl md_X5_meet rfl ⟨rfl, rfl⟩ ⟨Nat.le_of_ble_eq_true rfl, Nat.le_of_ble_eq_true rfl⟩ (Nat.le_of_ble_eq_true rfl) dL_meet_6 ⟨Nat.le_of_ble_eq_true rfl, Nat.le_of_ble_eq_true rfl⟩) (fun u q9 ce H locs hu Z hce hcv hcl => ?_) (fun u H locs hf Z => ?_)
  · rcases hu with ⟨rfl, hf⟩ | ⟨rfl, hf⟩ | ⟨rfl, hf⟩
    · refine ig_catch F E htab 2 [] [⟨0, 9, 16, 13⟩, ⟨0, 9, 20, 15⟩] ⟨0, 9, 12, 21⟩ rfl (by decide) (fun z hz => nomatch hz) rfl (by decide) mw_469 hce hcv hcl ?_
      refine lv_astore (lv' := [(5, .ref q9), (0, .ref (ad 0)), (1, .int x1), (2, .int x2), (3, .int x3), (4, .int x4)]) F.1 F.2.1 dL_meet_12 hl (by decide) rfl (fun ls hl => ?_)
      refine lv_iconst (v := 1) F.1 F.2.1 dL_meet_14 (by decide) ?_
      refine W.widen (k := 3) (n := 18) (Nat.le_of_ble_eq_true rfl) (Nat.le_of_ble_eq_true rfl) ?_
      exact W.iret (v := 1) F.1 F.2.1 hr (fun t ht hW => ⟨⟨_, (a, la, lo), rfl, hf, Z.wd E ht hW⟩, Z.fr ht⟩) Z.2.2.2 dL_meet_15
    · refine ig_catch F E htab 0 [⟨0, 9, 12, 21⟩] [⟨0, 9, 20, 15⟩] ⟨0, 9, 16, 13⟩ rfl (by decide) (List.forall_mem_cons.mpr ⟨⟨by decide, "java/lang/IndexOutOfBoundsException", mw_469, by decide +kernel⟩, (fun z hz => nomatch hz)⟩) rfl (by decide) mw_463 hce hcv hcl ?_
      refine lv_astore (lv' := [(5, .ref q9), (0, .ref (ad 0)), (1, .int x1), (2, .int x2), (3, .int x3), (4, .int x4)]) F.1 F.2.1 dL_meet_16 hl (by decide) rfl (fun ls hl => ?_)
      refine lv_iconst (v := 2) F.1 F.2.1 dL_meet_18 (by decide) ?_
      refine W.widen (k := 3) (n := 18) (Nat.le_of_ble_eq_true rfl) (Nat.le_of_ble_eq_true rfl) ?_
      exact W.iret (v := 2) F.1 F.2.1 hr (fun t ht hW => ⟨⟨_, (a, la, lo), rfl, hf, Z.wd E ht hW⟩, Z.fr ht⟩) Z.2.2.2 dL_meet_19
    · refine ig_catch F E htab 1 [⟨0, 9, 12, 21⟩, ⟨0, 9, 16, 13⟩] [] ⟨0, 9, 20, 15⟩ rfl (by decide) (List.forall_mem_cons.mpr ⟨⟨by decide, "java/lang/IndexOutOfBoundsException", mw_469, by decide +kernel⟩, (List.forall_mem_cons.mpr ⟨⟨by decide, "java/lang/IllegalArgumentException", mw_463, by decide +kernel⟩, (fun z hz => nomatch hz)⟩)⟩) rfl (by decide) mw_464 hce hcv hcl ?_
      refine lv_astore (lv' := [(5, .ref q9), (0, .ref (ad 0)), (1, .int x1), (2, .int x2), (3, .int x3), (4, .int x4)]) F.1 F.2.1 dL_meet_20 hl (by decide) rfl (fun ls hl => ?_)
      refine lv_iconst (v := 3) F.1 F.2.1 dL_meet_22 (by decide) ?_
      refine W.widen (k := 3) (n := 18) (Nat.le_of_ble_eq_true rfl) (Nat.le_of_ble_eq_true rfl) ?_
      exact W.iret (v := 3) F.1 F.2.1 hr (fun t ht hW => ⟨⟨_, (a, la, lo), rfl, hf, Z.wd E ht hW⟩, Z.fr ht⟩) Z.2.2.2 dL_meet_23
  · obtain ⟨a1, la1⟩ := u
    have Z : ig_Z D kk ad bs s H locs a1 la1 b lb lo := Z
    refine lv_goto (tgt := 24) F.1 F.2.1 dL_meet_9 (by decide) ?_
    refine lv_iconst (v := 0) F.1 F.2.1 dL_meet_24 (by decide) ?_
    refine W.widen (k := 3) (n := 18) (Nat.le_of_ble_eq_true rfl) (Nat.le_of_ble_eq_true rfl) ?_
    exact W.iret (v := 0) F.1 F.2.1 hr (fun t ht hW => ⟨⟨_, (a1, la1, lo), rfl, hf, Z.wd E ht hW⟩, Z.fr ht⟩) Z.2.2.2 dL_meet_25
set_option maxHeartbeats 4000000 in
set_option maxRecDepth 100000 in
theorem k_L_stage (l : Launch) {D : va_G} {kk : Nat → ClassId} {ad : Nat → Nat} {bs : Nat} {a : ig_M} {la : Int64} {b : ig_M} {lb lo : Int64} (x1 : Int32) (hlt : l.stackTraces = false) {post : Int32 → ig_M → Int64 → Int64 → Prop} (hf : wp_L_stage a la lo x1 post) : Met l yL_stage (ig_wsW yL_stage cL_stage 4 (some .int) [(0, 9, 12, 13), (0, 9, 15, 15)]) ({ frames := 7, cells := 1, slots := 6, locals := 111 } : Room) (va_Pc [.ref (ad 0), .int x1, .ref (ad 115)] (ig_Wd D kk ad bs a la b lb lo)) (va_Qi (fun (r : Int32) (u : ig_M × Int64 × Int64) => post r u.1 u.2.1 u.2.2) (fun u t => ig_Wd D kk ad bs u.1 u.2.1 b lb u.2.2 t) (ig_A bs)) 1 6 (ig_A bs) := by
  refine ig_ofWH (cc := cL_stage) (maxL := 4) (ret := some .int) (hh := [(0, 9, 12, 13), (0, 9, 15, 15)]) (by decide) rfl ?_
  intro p e s m args below meth c s₁ B hml htab hv
  obtain ⟨rfl, E, hP⟩ := hv
  have hk := B.notSynchronized
  have hr := B.returns
  have F : CallFix p m c cL_stage 4 s _ ig_all RL := ⟨B.exec, B.bytes, hml, findClass_of_methodNamed B.named, fun w hw => atoms_spec B.pre w (List.mem_cons_of_mem _ hw)⟩
  have Z : ig_Z D kk ad bs s s.heap [] a la b lb lo := ig_Z.rf hP
  have hl := lv_entry ([.ref (ad 0), .int x1, .ref (ad 115)]) (n := 4) (Nat.le_of_ble_eq_true rfl)
  rw [lg_entry_eq]
  generalize (lg_sl ([.ref (ad 0), .int x1, .ref (ad 115)]) ++ List.replicate (4 - (lg_sl ([.ref (ad 0), .int x1, .ref (ad 115)])).length) Slot.unset).toArray = ls at hl ⊢
  have hl : lv_has ls 4 [(0, .ref (ad 0)), (1, .int x1), (2, .ref (ad 115))] := hl
  refine lv_aload_n F.1 F.2.1 dL_stage_0 rfl (lv_at hl 2 rfl) ?_
  refine lv_iconst (v := 0) F.1 F.2.1 dL_stage_1 (by decide) ?_
  refine lv_aload_n F.1 F.2.1 dL_stage_2 rfl (lv_at hl 0 rfl) ?_
  refine lv_iload_n F.1 F.2.1 dL_stage_3 rfl (lv_at hl 1 rfl) ?_
  have hM := k_X5_stage l (D := D) (kk := kk) (ad := ad) (bs := bs) (a := a) (la := la) (b := b) (lb := lb) (lo := lo) x1 hlt hf
  refine ig_callXi E Z (ig_runVX (As := [.int x1]) (rest := [.int 0, .ref (ad 115)]) F E Z hl G_L_23 hM (i := 0) (by decide) (ig_k_0 _ _ _ _ _ _) rfl rfl md_X5_stage rfl ⟨rfl, rfl⟩ ⟨Nat.le_of_ble_eq_true rfl, Nat.le_of_ble_eq_true rfl⟩ (Nat.le_of_ble_eq_true rfl) dL_stage_4 ⟨Nat.le_of_ble_eq_true rfl, Nat.le_of_ble_eq_true rfl⟩) (fun u q9 ce H locs hu Z hce hcv hcl => ?_) (fun r1 u H locs hf Z => ?_)
  · rcases hu with ⟨rfl, hf⟩ | ⟨rfl, hf⟩
    · refine ig_catch F E htab 0 [] [⟨0, 9, 15, 15⟩] ⟨0, 9, 12, 13⟩ rfl (by decide) (fun z hz => nomatch hz) rfl (by decide) mw_463 hce hcv hcl ?_
      refine lv_astore_n (lv' := [(3, .ref q9), (0, .ref (ad 0)), (1, .int x1), (2, .ref (ad 115))]) F.1 F.2.1 dL_stage_12 rfl hl (by decide) rfl (fun ls hl => ?_)
      refine lv_iconst (v := 1) F.1 F.2.1 dL_stage_13 (by decide) ?_
      refine W.widen (k := 1) (n := 6) (Nat.le_of_ble_eq_true rfl) (Nat.le_of_ble_eq_true rfl) ?_
      exact W.iret (v := 1) F.1 F.2.1 hr (fun t ht hW => ⟨⟨_, (a, la, lo), rfl, hf, Z.wd E ht hW⟩, Z.fr ht⟩) Z.2.2.2 dL_stage_14
    · refine ig_catch F E htab 1 [⟨0, 9, 12, 13⟩] [] ⟨0, 9, 15, 15⟩ rfl (by decide) (List.forall_mem_cons.mpr ⟨⟨by decide, "java/lang/IllegalArgumentException", mw_463, by decide +kernel⟩, (fun z hz => nomatch hz)⟩) rfl (by decide) mw_464 hce hcv hcl ?_
      refine lv_astore_n (lv' := [(3, .ref q9), (0, .ref (ad 0)), (1, .int x1), (2, .ref (ad 115))]) F.1 F.2.1 dL_stage_15 rfl hl (by decide) rfl (fun ls hl => ?_)
      refine lv_iconst (v := 2) F.1 F.2.1 dL_stage_16 (by decide) ?_
      refine W.widen (k := 1) (n := 6) (Nat.le_of_ble_eq_true rfl) (Nat.le_of_ble_eq_true rfl) ?_
      exact W.iret (v := 2) F.1 F.2.1 hr (fun t ht hW => ⟨⟨_, (a, la, lo), rfl, hf, Z.wd E ht hW⟩, Z.fr ht⟩) Z.2.2.2 dL_stage_17
  · obtain ⟨a1, la1⟩ := u
    have Z : ig_Z D kk ad bs s H locs a1 la1 b lb lo := Z
    refine lv_i2l F.1 F.2.1 dL_stage_7 rfl ?_
    refine ig_last F E Z dL_stage_8 (fun H locs Z => ?_)
    refine lv_goto (tgt := 18) F.1 F.2.1 dL_stage_9 (by decide) ?_
    refine lv_iconst (v := 0) F.1 F.2.1 dL_stage_18 (by decide) ?_
    refine W.widen (k := 1) (n := 6) (Nat.le_of_ble_eq_true rfl) (Nat.le_of_ble_eq_true rfl) ?_
    exact W.iret (v := 0) F.1 F.2.1 hr (fun t ht hW => ⟨⟨_, (a1, la1, r1.toInt64), rfl, hf, Z.wd E ht hW⟩, Z.fr ht⟩) Z.2.2.2 dL_stage_19
set_option maxHeartbeats 4000000 in
set_option maxRecDepth 100000 in
theorem k_L_start (l : Launch) {D : va_G} {kk : Nat → ClassId} {ad : Nat → Nat} {bs : Nat} {a : ig_M} {la : Int64} {b : ig_M} {lb lo : Int64} (x1 : Int32) (hlt : l.stackTraces = false) {post : Int32 → ig_M → Int64 → Int64 → Prop} (hf : wp_L_start a la lo x1 post) : Met l yL_start (ig_wsW yL_start cL_start 3 (some .int) [(0, 5, 8, 21), (0, 5, 11, 15)]) ({ frames := 8, cells := 2, slots := 12, locals := 132 } : Room) (va_Pc [.ref (ad 0), .int x1] (ig_Wd D kk ad bs a la b lb lo)) (va_Qi (fun (r : Int32) (u : ig_M × Int64 × Int64) => post r u.1 u.2.1 u.2.2) (fun u t => ig_Wd D kk ad bs u.1 u.2.1 b lb u.2.2 t) (ig_A bs)) 2 12 (ig_A bs) := by
  refine ig_ofWH (cc := cL_start) (maxL := 3) (ret := some .int) (hh := [(0, 5, 8, 21), (0, 5, 11, 15)]) (by decide) rfl ?_
  intro p e s m args below meth c s₁ B hml htab hv
  obtain ⟨rfl, E, hP⟩ := hv
  have hk := B.notSynchronized
  have hr := B.returns
  have F : CallFix p m c cL_start 3 s _ ig_all RL := ⟨B.exec, B.bytes, hml, findClass_of_methodNamed B.named, fun w hw => atoms_spec B.pre w (List.mem_cons_of_mem _ hw)⟩
  have Z : ig_Z D kk ad bs s s.heap [] a la b lb lo := ig_Z.rf hP
  have hl := lv_entry ([.ref (ad 0), .int x1]) (n := 3) (Nat.le_of_ble_eq_true rfl)
  rw [lg_entry_eq]
  generalize (lg_sl ([.ref (ad 0), .int x1]) ++ List.replicate (3 - (lg_sl ([.ref (ad 0), .int x1])).length) Slot.unset).toArray = ls at hl ⊢
  have hl : lv_has ls 3 [(0, .ref (ad 0)), (1, .int x1)] := hl
  refine lv_aload_n F.1 F.2.1 dL_start_0 rfl (lv_at hl 0 rfl) ?_
  refine lv_iload_n F.1 F.2.1 dL_start_1 rfl (lv_at hl 1 rfl) ?_
  have hM := k_X5_start l (D := D) (kk := kk) (ad := ad) (bs := bs) (a := a) (la := la) (b := b) (lb := lb) (lo := lo) x1 hlt hf
  refine ig_callXv E Z (ig_runVX (As := [.int x1]) (rest := []) F E Z hl G_L_27 hM (i := 0) (by decide) (ig_k_0 _ _ _ _ _ _) rfl rfl md_X5_start rfl ⟨rfl, rfl⟩ ⟨Nat.le_of_ble_eq_true rfl, Nat.le_of_ble_eq_true rfl⟩ (Nat.le_of_ble_eq_true rfl) dL_start_2 ⟨Nat.le_of_ble_eq_true rfl, Nat.le_of_ble_eq_true rfl⟩) (fun u q9 ce H locs hu Z hce hcv hcl => ?_) (fun u H locs hf Z => ?_)
  · rcases hu with ⟨rfl, hf⟩ | ⟨rfl, hf⟩
    · refine ig_catch F E htab 2 [] [⟨0, 5, 11, 15⟩] ⟨0, 5, 8, 21⟩ rfl (by decide) (fun z hz => nomatch hz) rfl (by decide) mw_469 hce hcv hcl ?_
      refine lv_astore_n (lv' := [(2, .ref q9), (0, .ref (ad 0)), (1, .int x1)]) F.1 F.2.1 dL_start_8 rfl hl (by decide) rfl (fun ls hl => ?_)
      refine lv_iconst (v := 1) F.1 F.2.1 dL_start_9 (by decide) ?_
      refine W.widen (k := 2) (n := 12) (Nat.le_of_ble_eq_true rfl) (Nat.le_of_ble_eq_true rfl) ?_
      exact W.iret (v := 1) F.1 F.2.1 hr (fun t ht hW => ⟨⟨_, (a, la, lo), rfl, hf, Z.wd E ht hW⟩, Z.fr ht⟩) Z.2.2.2 dL_start_10
    · refine ig_catch F E htab 1 [⟨0, 5, 8, 21⟩] [] ⟨0, 5, 11, 15⟩ rfl (by decide) (List.forall_mem_cons.mpr ⟨⟨by decide, "java/lang/IndexOutOfBoundsException", mw_469, by decide +kernel⟩, (fun z hz => nomatch hz)⟩) rfl (by decide) mw_464 hce hcv hcl ?_
      refine lv_astore_n (lv' := [(2, .ref q9), (0, .ref (ad 0)), (1, .int x1)]) F.1 F.2.1 dL_start_11 rfl hl (by decide) rfl (fun ls hl => ?_)
      refine lv_iconst (v := 2) F.1 F.2.1 dL_start_12 (by decide) ?_
      refine W.widen (k := 2) (n := 12) (Nat.le_of_ble_eq_true rfl) (Nat.le_of_ble_eq_true rfl) ?_
      exact W.iret (v := 2) F.1 F.2.1 hr (fun t ht hW => ⟨⟨_, (a, la, lo), rfl, hf, Z.wd E ht hW⟩, Z.fr ht⟩) Z.2.2.2 dL_start_13
  · obtain ⟨a1, la1⟩ := u
    have Z : ig_Z D kk ad bs s H locs a1 la1 b lb lo := Z
    refine lv_goto (tgt := 14) F.1 F.2.1 dL_start_5 (by decide) ?_
    refine lv_iconst (v := 0) F.1 F.2.1 dL_start_14 (by decide) ?_
    refine W.widen (k := 2) (n := 12) (Nat.le_of_ble_eq_true rfl) (Nat.le_of_ble_eq_true rfl) ?_
    exact W.iret (v := 0) F.1 F.2.1 hr (fun t ht hW => ⟨⟨_, (a1, la1, lo), rfl, hf, Z.wd E ht hW⟩, Z.fr ht⟩) Z.2.2.2 dL_start_15
set_option maxHeartbeats 4000000 in
set_option maxRecDepth 100000 in
theorem k_L_stop (l : Launch) {D : va_G} {kk : Nat → ClassId} {ad : Nat → Nat} {bs : Nat} {a : ig_M} {la : Int64} {b : ig_M} {lb lo : Int64} (hlt : l.stackTraces = false) {post : Int32 → ig_M → Int64 → Int64 → Prop} (hf : wp_L_stop a la lo post) : Met l yL_stop (ig_wsW yL_stop cL_stop 2 (some .int) [(0, 4, 7, 15)]) ({ frames := 7, cells := 1, slots := 6, locals := 110 } : Room) (va_Pc [.ref (ad 0)] (ig_Wd D kk ad bs a la b lb lo)) (va_Qi (fun (r : Int32) (u : ig_M × Int64 × Int64) => post r u.1 u.2.1 u.2.2) (fun u t => ig_Wd D kk ad bs u.1 u.2.1 b lb u.2.2 t) (ig_A bs)) 1 6 (ig_A bs) := by
  refine ig_ofWH (cc := cL_stop) (maxL := 2) (ret := some .int) (hh := [(0, 4, 7, 15)]) (by decide) rfl ?_
  intro p e s m args below meth c s₁ B hml htab hv
  obtain ⟨rfl, E, hP⟩ := hv
  have hk := B.notSynchronized
  have hr := B.returns
  have F : CallFix p m c cL_stop 2 s _ ig_all RL := ⟨B.exec, B.bytes, hml, findClass_of_methodNamed B.named, fun w hw => atoms_spec B.pre w (List.mem_cons_of_mem _ hw)⟩
  have Z : ig_Z D kk ad bs s s.heap [] a la b lb lo := ig_Z.rf hP
  have hl := lv_entry ([.ref (ad 0)]) (n := 2) (Nat.le_of_ble_eq_true rfl)
  rw [lg_entry_eq]
  generalize (lg_sl ([.ref (ad 0)]) ++ List.replicate (2 - (lg_sl ([.ref (ad 0)])).length) Slot.unset).toArray = ls at hl ⊢
  have hl : lv_has ls 2 [(0, .ref (ad 0))] := hl
  refine lv_aload_n F.1 F.2.1 dL_stop_0 rfl (lv_at hl 0 rfl) ?_
  have hM := k_X5_stop l (D := D) (kk := kk) (ad := ad) (bs := bs) (a := a) (la := la) (b := b) (lb := lb) (lo := lo) hlt hf
  refine ig_callXv E Z (ig_runVX (As := []) (rest := []) F E Z hl G_L_31 hM (i := 0) (by decide) (ig_k_0 _ _ _ _ _ _) rfl rfl md_X5_stop rfl ⟨rfl, rfl⟩ ⟨Nat.le_of_ble_eq_true rfl, Nat.le_of_ble_eq_true rfl⟩ (Nat.le_of_ble_eq_true rfl) dL_stop_1 ⟨Nat.le_of_ble_eq_true rfl, Nat.le_of_ble_eq_true rfl⟩) (fun u q9 ce H locs hu Z hce hcv hcl => ?_) (fun u H locs hf Z => ?_)
  · rcases hu with ⟨rfl, hf⟩
    · refine ig_catch F E htab 1 [] [] ⟨0, 4, 7, 15⟩ rfl (by decide) (fun z hz => nomatch hz) rfl (by decide) mw_464 hce hcv hcl ?_
      refine lv_astore_n (lv' := [(1, .ref q9), (0, .ref (ad 0))]) F.1 F.2.1 dL_stop_7 rfl hl (by decide) rfl (fun ls hl => ?_)
      refine lv_iconst (v := 1) F.1 F.2.1 dL_stop_8 (by decide) ?_
      refine W.widen (k := 1) (n := 6) (Nat.le_of_ble_eq_true rfl) (Nat.le_of_ble_eq_true rfl) ?_
      exact W.iret (v := 1) F.1 F.2.1 hr (fun t ht hW => ⟨⟨_, (a, la, lo), rfl, hf, Z.wd E ht hW⟩, Z.fr ht⟩) Z.2.2.2 dL_stop_9
  · obtain ⟨a1, la1⟩ := u
    have Z : ig_Z D kk ad bs s H locs a1 la1 b lb lo := Z
    refine lv_goto (tgt := 10) F.1 F.2.1 dL_stop_4 (by decide) ?_
    refine lv_iconst (v := 0) F.1 F.2.1 dL_stop_10 (by decide) ?_
    refine W.widen (k := 1) (n := 6) (Nat.le_of_ble_eq_true rfl) (Nat.le_of_ble_eq_true rfl) ?_
    exact W.iret (v := 0) F.1 F.2.1 hr (fun t ht hW => ⟨⟨_, (a1, la1, lo), rfl, hf, Z.wd E ht hW⟩, Z.fr ht⟩) Z.2.2.2 dL_stop_11
set_option maxHeartbeats 4000000 in
set_option maxRecDepth 100000 in
theorem k_L_press (l : Launch) {D : va_G} {kk : Nat → ClassId} {ad : Nat → Nat} {bs : Nat} {a : ig_M} {la : Int64} {b : ig_M} {lb lo : Int64} (x1 : Int32) (hlt : l.stackTraces = false) {post : Int32 → ig_M → Int64 → Int64 → Prop} (hf : wp_L_press a la lo x1 post) : Met l yL_press (ig_wsW yL_press cL_press 4 (some .int) [(0, 16, 19, 21)]) ({ frames := 8, cells := 1, slots := 6, locals := 133 } : Room) (va_Pc [.ref (ad 0), .int x1, .ref (ad 115)] (ig_Wd D kk ad bs a la b lb lo)) (va_Qi (fun (r : Int32) (u : ig_M × Int64 × Int64) => post r u.1 u.2.1 u.2.2) (fun u t => ig_Wd D kk ad bs u.1 u.2.1 b lb u.2.2 t) (ig_A bs)) 1 6 (ig_A bs) := by
  refine ig_ofWH (cc := cL_press) (maxL := 4) (ret := some .int) (hh := [(0, 16, 19, 21)]) (by decide) rfl ?_
  intro p e s m args below meth c s₁ B hml htab hv
  obtain ⟨rfl, E, hP⟩ := hv
  have hk := B.notSynchronized
  have hr := B.returns
  have F : CallFix p m c cL_press 4 s _ ig_all RL := ⟨B.exec, B.bytes, hml, findClass_of_methodNamed B.named, fun w hw => atoms_spec B.pre w (List.mem_cons_of_mem _ hw)⟩
  have Z : ig_Z D kk ad bs s s.heap [] a la b lb lo := ig_Z.rf hP
  have hl := lv_entry ([.ref (ad 0), .int x1, .ref (ad 115)]) (n := 4) (Nat.le_of_ble_eq_true rfl)
  rw [lg_entry_eq]
  generalize (lg_sl ([.ref (ad 0), .int x1, .ref (ad 115)]) ++ List.replicate (4 - (lg_sl ([.ref (ad 0), .int x1, .ref (ad 115)])).length) Slot.unset).toArray = ls at hl ⊢
  have hl : lv_has ls 4 [(0, .ref (ad 0)), (1, .int x1), (2, .ref (ad 115))] := hl
  refine lv_aload_n F.1 F.2.1 dL_press_0 rfl (lv_at hl 2 rfl) ?_
  refine lv_iconst (v := 0) F.1 F.2.1 dL_press_1 (by decide) ?_
  refine lv_aload_n F.1 F.2.1 dL_press_2 rfl (lv_at hl 0 rfl) ?_
  refine lv_iload_n F.1 F.2.1 dL_press_3 rfl (lv_at hl 1 rfl) ?_
  have hM := k_X5_press l (D := D) (kk := kk) (ad := ad) (bs := bs) (a := a) (la := la) (b := b) (lb := lb) (lo := lo) x1 hlt hf
  refine ig_callXi E Z (ig_runVX (As := [.int x1]) (rest := [.int 0, .ref (ad 115)]) F E Z hl G_L_34 hM (i := 0) (by decide) (ig_k_0 _ _ _ _ _ _) rfl rfl md_X5_press rfl ⟨rfl, rfl⟩ ⟨Nat.le_of_ble_eq_true rfl, Nat.le_of_ble_eq_true rfl⟩ (Nat.le_of_ble_eq_true rfl) dL_press_4 ⟨Nat.le_of_ble_eq_true rfl, Nat.le_of_ble_eq_true rfl⟩) (fun u q9 ce H locs hu Z hce hcv hcl => ?_) (fun r1 u H locs hf Z => ?_)
  · rcases hu with ⟨rfl, hf⟩
    · refine ig_catch F E htab 2 [] [] ⟨0, 16, 19, 21⟩ rfl (by decide) (fun z hz => nomatch hz) rfl (by decide) mw_469 hce hcv hcl ?_
      refine lv_astore_n (lv' := [(3, .ref q9), (0, .ref (ad 0)), (1, .int x1), (2, .ref (ad 115))]) F.1 F.2.1 dL_press_19 rfl hl (by decide) rfl (fun ls hl => ?_)
      refine lv_iconst (v := 1) F.1 F.2.1 dL_press_20 (by decide) ?_
      refine W.widen (k := 1) (n := 6) (Nat.le_of_ble_eq_true rfl) (Nat.le_of_ble_eq_true rfl) ?_
      exact W.iret (v := 1) F.1 F.2.1 hr (fun t ht hW => ⟨⟨_, (a, la, lo), rfl, hf, Z.wd E ht hW⟩, Z.fr ht⟩) Z.2.2.2 dL_press_21
  · obtain ⟨a1, la1⟩ := u
    have Z : ig_Z D kk ad bs s H locs a1 la1 b lb lo := Z
    refine lv_if_eq (tgt := 14) F.1 F.2.1 dL_press_7 (by decide) (fun c_1 => ?_) (fun c_1 => ?_)
    · have hf := hf.1 c_1
      refine lv_lconst (v := 0) F.1 F.2.1 dL_press_14 (by decide) ?_
      refine ig_last F E Z dL_press_15 (fun H locs Z => ?_)
      refine lv_goto (tgt := 22) F.1 F.2.1 dL_press_16 (by decide) ?_
      refine lv_iconst (v := 0) F.1 F.2.1 dL_press_22 (by decide) ?_
      refine W.widen (k := 1) (n := 6) (Nat.le_of_ble_eq_true rfl) (Nat.le_of_ble_eq_true rfl) ?_
      exact W.iret (v := 0) F.1 F.2.1 hr (fun t ht hW => ⟨⟨_, (a1, la1, (0 : Int64)), rfl, hf, Z.wd E ht hW⟩, Z.fr ht⟩) Z.2.2.2 dL_press_23
    · have hf := hf.2 c_1
      refine lv_lconst (v := 1) F.1 F.2.1 dL_press_10 (by decide) ?_
      refine lv_goto (tgt := 15) F.1 F.2.1 dL_press_11 (by decide) ?_
      refine ig_last F E Z dL_press_15 (fun H locs Z => ?_)
      refine lv_goto (tgt := 22) F.1 F.2.1 dL_press_16 (by decide) ?_
      refine lv_iconst (v := 0) F.1 F.2.1 dL_press_22 (by decide) ?_
      refine W.widen (k := 1) (n := 6) (Nat.le_of_ble_eq_true rfl) (Nat.le_of_ble_eq_true rfl) ?_
      exact W.iret (v := 0) F.1 F.2.1 hr (fun t ht hW => ⟨⟨_, (a1, la1, (1 : Int64)), rfl, hf, Z.wd E ht hW⟩, Z.fr ht⟩) Z.2.2.2 dL_press_23
set_option maxHeartbeats 4000000 in
set_option maxRecDepth 100000 in
theorem k_L_arrive (l : Launch) {D : va_G} {kk : Nat → ClassId} {ad : Nat → Nat} {bs : Nat} {a : ig_M} {la : Int64} {b : ig_M} {lb lo : Int64} (x1 : Int32) (x2 : Int32) (hlt : l.stackTraces = false) {post : Int32 → ig_M → Int64 → Int64 → Prop} (hf : wp_L_arrive a la lo x1 x2 post) : Met l yL_arrive (ig_wsW yL_arrive cL_arrive 5 (some .int) [(0, 10, 13, 21), (0, 10, 17, 13), (0, 10, 21, 15)]) ({ frames := 8, cells := 2, slots := 12, locals := 134 } : Room) (va_Pc [.ref (ad 0), .int x1, .int x2, .ref (ad 115)] (ig_Wd D kk ad bs a la b lb lo)) (va_Qi (fun (r : Int32) (u : ig_M × Int64 × Int64) => post r u.1 u.2.1 u.2.2) (fun u t => ig_Wd D kk ad bs u.1 u.2.1 b lb u.2.2 t) (ig_A bs)) 2 12 (ig_A bs) := by
  refine ig_ofWH (cc := cL_arrive) (maxL := 5) (ret := some .int) (hh := [(0, 10, 13, 21), (0, 10, 17, 13), (0, 10, 21, 15)]) (by decide) rfl ?_
  intro p e s m args below meth c s₁ B hml htab hv
  obtain ⟨rfl, E, hP⟩ := hv
  have hk := B.notSynchronized
  have hr := B.returns
  have F : CallFix p m c cL_arrive 5 s _ ig_all RL := ⟨B.exec, B.bytes, hml, findClass_of_methodNamed B.named, fun w hw => atoms_spec B.pre w (List.mem_cons_of_mem _ hw)⟩
  have Z : ig_Z D kk ad bs s s.heap [] a la b lb lo := ig_Z.rf hP
  have hl := lv_entry ([.ref (ad 0), .int x1, .int x2, .ref (ad 115)]) (n := 5) (Nat.le_of_ble_eq_true rfl)
  rw [lg_entry_eq]
  generalize (lg_sl ([.ref (ad 0), .int x1, .int x2, .ref (ad 115)]) ++ List.replicate (5 - (lg_sl ([.ref (ad 0), .int x1, .int x2, .ref (ad 115)])).length) Slot.unset).toArray = ls at hl ⊢
  have hl : lv_has ls 5 [(0, .ref (ad 0)), (1, .int x1), (2, .int x2), (3, .ref (ad 115))] := hl
  refine lv_aload_n F.1 F.2.1 dL_arrive_0 rfl (lv_at hl 3 rfl) ?_
  refine lv_iconst (v := 0) F.1 F.2.1 dL_arrive_1 (by decide) ?_
  refine lv_aload_n F.1 F.2.1 dL_arrive_2 rfl (lv_at hl 0 rfl) ?_
  refine lv_iload_n F.1 F.2.1 dL_arrive_3 rfl (lv_at hl 1 rfl) ?_
  refine lv_iload_n F.1 F.2.1 dL_arrive_4 rfl (lv_at hl 2 rfl) ?_
  have hM := k_X5_arrive l (D := D) (kk := kk) (ad := ad) (bs := bs) (a := a) (la := la) (b := b) (lb := lb) (lo := lo) x1 x2 hlt hf
  refine ig_callXi E Z (ig_runVX (As := [.int x1, .int x2]) (rest := [.int 0, .ref (ad 115)]) F E Z hl G_L_38 hM (i := 0) (by decide) (ig_k_0 _ _ _ _ _ _) rfl rfl md_X5_arrive rfl ⟨rfl, rfl⟩ ⟨Nat.le_of_ble_eq_true rfl, Nat.le_of_ble_eq_true rfl⟩ (Nat.le_of_ble_eq_true rfl) dL_arrive_5 ⟨Nat.le_of_ble_eq_true rfl, Nat.le_of_ble_eq_true rfl⟩) (fun u q9 ce H locs hu Z hce hcv hcl => ?_) (fun r1 u H locs hf Z => ?_)
  · rcases hu with ⟨rfl, hf⟩ | ⟨rfl, hf⟩ | ⟨rfl, hf⟩
    · refine ig_catch F E htab 2 [] [⟨0, 10, 17, 13⟩, ⟨0, 10, 21, 15⟩] ⟨0, 10, 13, 21⟩ rfl (by decide) (fun z hz => nomatch hz) rfl (by decide) mw_469 hce hcv hcl ?_
      refine lv_astore (lv' := [(4, .ref q9), (0, .ref (ad 0)), (1, .int x1), (2, .int x2), (3, .ref (ad 115))]) F.1 F.2.1 dL_arrive_13 hl (by decide) rfl (fun ls hl => ?_)
      refine lv_iconst (v := 1) F.1 F.2.1 dL_arrive_15 (by decide) ?_
      refine W.widen (k := 2) (n := 12) (Nat.le_of_ble_eq_true rfl) (Nat.le_of_ble_eq_true rfl) ?_
      exact W.iret (v := 1) F.1 F.2.1 hr (fun t ht hW => ⟨⟨_, (a, la, lo), rfl, hf, Z.wd E ht hW⟩, Z.fr ht⟩) Z.2.2.2 dL_arrive_16
    · refine ig_catch F E htab 0 [⟨0, 10, 13, 21⟩] [⟨0, 10, 21, 15⟩] ⟨0, 10, 17, 13⟩ rfl (by decide) (List.forall_mem_cons.mpr ⟨⟨by decide, "java/lang/IndexOutOfBoundsException", mw_469, by decide +kernel⟩, (fun z hz => nomatch hz)⟩) rfl (by decide) mw_463 hce hcv hcl ?_
      refine lv_astore (lv' := [(4, .ref q9), (0, .ref (ad 0)), (1, .int x1), (2, .int x2), (3, .ref (ad 115))]) F.1 F.2.1 dL_arrive_17 hl (by decide) rfl (fun ls hl => ?_)
      refine lv_iconst (v := 2) F.1 F.2.1 dL_arrive_19 (by decide) ?_
      refine W.widen (k := 2) (n := 12) (Nat.le_of_ble_eq_true rfl) (Nat.le_of_ble_eq_true rfl) ?_
      exact W.iret (v := 2) F.1 F.2.1 hr (fun t ht hW => ⟨⟨_, (a, la, lo), rfl, hf, Z.wd E ht hW⟩, Z.fr ht⟩) Z.2.2.2 dL_arrive_20
    · refine ig_catch F E htab 1 [⟨0, 10, 13, 21⟩, ⟨0, 10, 17, 13⟩] [] ⟨0, 10, 21, 15⟩ rfl (by decide) (List.forall_mem_cons.mpr ⟨⟨by decide, "java/lang/IndexOutOfBoundsException", mw_469, by decide +kernel⟩, (List.forall_mem_cons.mpr ⟨⟨by decide, "java/lang/IllegalArgumentException", mw_463, by decide +kernel⟩, (fun z hz => nomatch hz)⟩)⟩) rfl (by decide) mw_464 hce hcv hcl ?_
      refine lv_astore (lv' := [(4, .ref q9), (0, .ref (ad 0)), (1, .int x1), (2, .int x2), (3, .ref (ad 115))]) F.1 F.2.1 dL_arrive_21 hl (by decide) rfl (fun ls hl => ?_)
      refine lv_iconst (v := 3) F.1 F.2.1 dL_arrive_23 (by decide) ?_
      refine W.widen (k := 2) (n := 12) (Nat.le_of_ble_eq_true rfl) (Nat.le_of_ble_eq_true rfl) ?_
      exact W.iret (v := 3) F.1 F.2.1 hr (fun t ht hW => ⟨⟨_, (a, la, lo), rfl, hf, Z.wd E ht hW⟩, Z.fr ht⟩) Z.2.2.2 dL_arrive_24
  · obtain ⟨a1, la1⟩ := u
    have Z : ig_Z D kk ad bs s H locs a1 la1 b lb lo := Z
    refine lv_i2l F.1 F.2.1 dL_arrive_8 rfl ?_
    refine ig_last F E Z dL_arrive_9 (fun H locs Z => ?_)
    refine lv_goto (tgt := 25) F.1 F.2.1 dL_arrive_10 (by decide) ?_
    refine lv_iconst (v := 0) F.1 F.2.1 dL_arrive_25 (by decide) ?_
    refine W.widen (k := 2) (n := 12) (Nat.le_of_ble_eq_true rfl) (Nat.le_of_ble_eq_true rfl) ?_
    exact W.iret (v := 0) F.1 F.2.1 hr (fun t ht hW => ⟨⟨_, (a1, la1, r1.toInt64), rfl, hf, Z.wd E ht hW⟩, Z.fr ht⟩) Z.2.2.2 dL_arrive_26
set_option maxHeartbeats 4000000 in
set_option maxRecDepth 100000 in
theorem k_L_ask (l : Launch) {D : va_G} {kk : Nat → ClassId} {ad : Nat → Nat} {bs : Nat} {a : ig_M} {la : Int64} {b : ig_M} {lb lo : Int64} (x1 : Int32) (hlt : l.stackTraces = false) {post : Int32 → ig_M → Int64 → Int64 → Prop} (hf : wp_L_ask a la lo x1 post) : Met l yL_ask (ig_wsW yL_ask cL_ask 3 (some .int) [(0, 5, 8, 21), (0, 5, 11, 15)]) ({ frames := 8, cells := 2, slots := 12, locals := 132 } : Room) (va_Pc [.ref (ad 0), .int x1] (ig_Wd D kk ad bs a la b lb lo)) (va_Qi (fun (r : Int32) (u : ig_M × Int64 × Int64) => post r u.1 u.2.1 u.2.2) (fun u t => ig_Wd D kk ad bs u.1 u.2.1 b lb u.2.2 t) (ig_A bs)) 2 12 (ig_A bs) := by
  refine ig_ofWH (cc := cL_ask) (maxL := 3) (ret := some .int) (hh := [(0, 5, 8, 21), (0, 5, 11, 15)]) (by decide) rfl ?_
  intro p e s m args below meth c s₁ B hml htab hv
  obtain ⟨rfl, E, hP⟩ := hv
  have hk := B.notSynchronized
  have hr := B.returns
  have F : CallFix p m c cL_ask 3 s _ ig_all RL := ⟨B.exec, B.bytes, hml, findClass_of_methodNamed B.named, fun w hw => atoms_spec B.pre w (List.mem_cons_of_mem _ hw)⟩
  have Z : ig_Z D kk ad bs s s.heap [] a la b lb lo := ig_Z.rf hP
  have hl := lv_entry ([.ref (ad 0), .int x1]) (n := 3) (Nat.le_of_ble_eq_true rfl)
  rw [lg_entry_eq]
  generalize (lg_sl ([.ref (ad 0), .int x1]) ++ List.replicate (3 - (lg_sl ([.ref (ad 0), .int x1])).length) Slot.unset).toArray = ls at hl ⊢
  have hl : lv_has ls 3 [(0, .ref (ad 0)), (1, .int x1)] := hl
  refine lv_aload_n F.1 F.2.1 dL_ask_0 rfl (lv_at hl 0 rfl) ?_
  refine lv_iload_n F.1 F.2.1 dL_ask_1 rfl (lv_at hl 1 rfl) ?_
  have hM := k_X5_ask l (D := D) (kk := kk) (ad := ad) (bs := bs) (a := a) (la := la) (b := b) (lb := lb) (lo := lo) x1 hlt hf
  refine ig_callXv E Z (ig_runVX (As := [.int x1]) (rest := []) F E Z hl G_L_42 hM (i := 0) (by decide) (ig_k_0 _ _ _ _ _ _) rfl rfl md_X5_ask rfl ⟨rfl, rfl⟩ ⟨Nat.le_of_ble_eq_true rfl, Nat.le_of_ble_eq_true rfl⟩ (Nat.le_of_ble_eq_true rfl) dL_ask_2 ⟨Nat.le_of_ble_eq_true rfl, Nat.le_of_ble_eq_true rfl⟩) (fun u q9 ce H locs hu Z hce hcv hcl => ?_) (fun u H locs hf Z => ?_)
  · rcases hu with ⟨rfl, hf⟩ | ⟨rfl, hf⟩
    · refine ig_catch F E htab 2 [] [⟨0, 5, 11, 15⟩] ⟨0, 5, 8, 21⟩ rfl (by decide) (fun z hz => nomatch hz) rfl (by decide) mw_469 hce hcv hcl ?_
      refine lv_astore_n (lv' := [(2, .ref q9), (0, .ref (ad 0)), (1, .int x1)]) F.1 F.2.1 dL_ask_8 rfl hl (by decide) rfl (fun ls hl => ?_)
      refine lv_iconst (v := 1) F.1 F.2.1 dL_ask_9 (by decide) ?_
      refine W.widen (k := 2) (n := 12) (Nat.le_of_ble_eq_true rfl) (Nat.le_of_ble_eq_true rfl) ?_
      exact W.iret (v := 1) F.1 F.2.1 hr (fun t ht hW => ⟨⟨_, (a, la, lo), rfl, hf, Z.wd E ht hW⟩, Z.fr ht⟩) Z.2.2.2 dL_ask_10
    · refine ig_catch F E htab 1 [⟨0, 5, 8, 21⟩] [] ⟨0, 5, 11, 15⟩ rfl (by decide) (List.forall_mem_cons.mpr ⟨⟨by decide, "java/lang/IndexOutOfBoundsException", mw_469, by decide +kernel⟩, (fun z hz => nomatch hz)⟩) rfl (by decide) mw_464 hce hcv hcl ?_
      refine lv_astore_n (lv' := [(2, .ref q9), (0, .ref (ad 0)), (1, .int x1)]) F.1 F.2.1 dL_ask_11 rfl hl (by decide) rfl (fun ls hl => ?_)
      refine lv_iconst (v := 2) F.1 F.2.1 dL_ask_12 (by decide) ?_
      refine W.widen (k := 2) (n := 12) (Nat.le_of_ble_eq_true rfl) (Nat.le_of_ble_eq_true rfl) ?_
      exact W.iret (v := 2) F.1 F.2.1 hr (fun t ht hW => ⟨⟨_, (a, la, lo), rfl, hf, Z.wd E ht hW⟩, Z.fr ht⟩) Z.2.2.2 dL_ask_13
  · obtain ⟨a1, la1⟩ := u
    have Z : ig_Z D kk ad bs s H locs a1 la1 b lb lo := Z
    refine lv_goto (tgt := 14) F.1 F.2.1 dL_ask_5 (by decide) ?_
    refine lv_iconst (v := 0) F.1 F.2.1 dL_ask_14 (by decide) ?_
    refine W.widen (k := 2) (n := 12) (Nat.le_of_ble_eq_true rfl) (Nat.le_of_ble_eq_true rfl) ?_
    exact W.iret (v := 0) F.1 F.2.1 hr (fun t ht hW => ⟨⟨_, (a1, la1, lo), rfl, hf, Z.wd E ht hW⟩, Z.fr ht⟩) Z.2.2.2 dL_ask_15
set_option maxHeartbeats 4000000 in
set_option maxRecDepth 100000 in
theorem k_L_cancel (l : Launch) {D : va_G} {kk : Nat → ClassId} {ad : Nat → Nat} {bs : Nat} {a : ig_M} {la : Int64} {b : ig_M} {lb lo : Int64} (hlt : l.stackTraces = false) {post : Int32 → ig_M → Int64 → Int64 → Prop} (hf : wp_L_cancel a la lo post) : Met l yL_cancel (ig_wsW yL_cancel cL_cancel 3 (some .int) [(0, 8, 11, 15)]) ({ frames := 7, cells := 1, slots := 6, locals := 111 } : Room) (va_Pc [.ref (ad 0), .ref (ad 115)] (ig_Wd D kk ad bs a la b lb lo)) (va_Qi (fun (r : Int32) (u : ig_M × Int64 × Int64) => post r u.1 u.2.1 u.2.2) (fun u t => ig_Wd D kk ad bs u.1 u.2.1 b lb u.2.2 t) (ig_A bs)) 1 6 (ig_A bs) := by
  refine ig_ofWH (cc := cL_cancel) (maxL := 3) (ret := some .int) (hh := [(0, 8, 11, 15)]) (by decide) rfl ?_
  intro p e s m args below meth c s₁ B hml htab hv
  obtain ⟨rfl, E, hP⟩ := hv
  have hk := B.notSynchronized
  have hr := B.returns
  have F : CallFix p m c cL_cancel 3 s _ ig_all RL := ⟨B.exec, B.bytes, hml, findClass_of_methodNamed B.named, fun w hw => atoms_spec B.pre w (List.mem_cons_of_mem _ hw)⟩
  have Z : ig_Z D kk ad bs s s.heap [] a la b lb lo := ig_Z.rf hP
  have hl := lv_entry ([.ref (ad 0), .ref (ad 115)]) (n := 3) (Nat.le_of_ble_eq_true rfl)
  rw [lg_entry_eq]
  generalize (lg_sl ([.ref (ad 0), .ref (ad 115)]) ++ List.replicate (3 - (lg_sl ([.ref (ad 0), .ref (ad 115)])).length) Slot.unset).toArray = ls at hl ⊢
  have hl : lv_has ls 3 [(0, .ref (ad 0)), (1, .ref (ad 115))] := hl
  refine lv_aload_n F.1 F.2.1 dL_cancel_0 rfl (lv_at hl 1 rfl) ?_
  refine lv_iconst (v := 0) F.1 F.2.1 dL_cancel_1 (by decide) ?_
  refine lv_aload_n F.1 F.2.1 dL_cancel_2 rfl (lv_at hl 0 rfl) ?_
  have hM := k_X5_cancel l (D := D) (kk := kk) (ad := ad) (bs := bs) (a := a) (la := la) (b := b) (lb := lb) (lo := lo) hlt hf
  refine ig_callXi E Z (ig_runVX (As := []) (rest := [.int 0, .ref (ad 115)]) F E Z hl G_L_45 hM (i := 0) (by decide) (ig_k_0 _ _ _ _ _ _) rfl rfl md_X5_cancel rfl ⟨rfl, rfl⟩ ⟨Nat.le_of_ble_eq_true rfl, Nat.le_of_ble_eq_true rfl⟩ (Nat.le_of_ble_eq_true rfl) dL_cancel_3 ⟨Nat.le_of_ble_eq_true rfl, Nat.le_of_ble_eq_true rfl⟩) (fun u q9 ce H locs hu Z hce hcv hcl => ?_) (fun r1 u H locs hf Z => ?_)
  · rcases hu with ⟨rfl, hf⟩
    · refine ig_catch F E htab 1 [] [] ⟨0, 8, 11, 15⟩ rfl (by decide) (fun z hz => nomatch hz) rfl (by decide) mw_464 hce hcv hcl ?_
      refine lv_astore_n (lv' := [(2, .ref q9), (0, .ref (ad 0)), (1, .ref (ad 115))]) F.1 F.2.1 dL_cancel_11 rfl hl (by decide) rfl (fun ls hl => ?_)
      refine lv_iconst (v := 1) F.1 F.2.1 dL_cancel_12 (by decide) ?_
      refine W.widen (k := 1) (n := 6) (Nat.le_of_ble_eq_true rfl) (Nat.le_of_ble_eq_true rfl) ?_
      exact W.iret (v := 1) F.1 F.2.1 hr (fun t ht hW => ⟨⟨_, (a, la, lo), rfl, hf, Z.wd E ht hW⟩, Z.fr ht⟩) Z.2.2.2 dL_cancel_13
  · obtain ⟨a1, la1⟩ := u
    have Z : ig_Z D kk ad bs s H locs a1 la1 b lb lo := Z
    refine lv_i2l F.1 F.2.1 dL_cancel_6 rfl ?_
    refine ig_last F E Z dL_cancel_7 (fun H locs Z => ?_)
    refine lv_goto (tgt := 14) F.1 F.2.1 dL_cancel_8 (by decide) ?_
    refine lv_iconst (v := 0) F.1 F.2.1 dL_cancel_14 (by decide) ?_
    refine W.widen (k := 1) (n := 6) (Nat.le_of_ble_eq_true rfl) (Nat.le_of_ble_eq_true rfl) ?_
    exact W.iret (v := 0) F.1 F.2.1 hr (fun t ht hW => ⟨⟨_, (a1, la1, r1.toInt64), rfl, hf, Z.wd E ht hW⟩, Z.fr ht⟩) Z.2.2.2 dL_cancel_15
set_option maxHeartbeats 4000000 in
set_option maxRecDepth 100000 in
theorem k_L_breaks (l : Launch) {D : va_G} {kk : Nat → ClassId} {ad : Nat → Nat} {bs : Nat} {a : ig_M} {la : Int64} {b : ig_M} {lb lo : Int64} (x1 : Int32) (x2 : Int32) (x3 : Int32) (hlt : l.stackTraces = false) {post : Int32 → ig_M → Int64 → Int64 → Prop} (hf : wp_L_breaks a la lo x1 x2 x3 post) : Met l yL_breaks (ig_wsW yL_breaks cL_breaks 6 (some .int) [(0, 19, 22, 21), (0, 19, 26, 13)]) ({ frames := 8, cells := 2, slots := 12, locals := 136 } : Room) (va_Pc [.ref (ad 0), .int x1, .int x2, .int x3, .ref (ad 115)] (ig_Wd D kk ad bs a la b lb lo)) (va_Qi (fun (r : Int32) (u : ig_M × Int64 × Int64) => post r u.1 u.2.1 u.2.2) (fun u t => ig_Wd D kk ad bs u.1 u.2.1 b lb u.2.2 t) (ig_A bs)) 2 12 (ig_A bs) := by
  refine ig_ofWH (cc := cL_breaks) (maxL := 6) (ret := some .int) (hh := [(0, 19, 22, 21), (0, 19, 26, 13)]) (by decide) rfl ?_
  intro p e s m args below meth c s₁ B hml htab hv
  obtain ⟨rfl, E, hP⟩ := hv
  have hk := B.notSynchronized
  have hr := B.returns
  have F : CallFix p m c cL_breaks 6 s _ ig_all RL := ⟨B.exec, B.bytes, hml, findClass_of_methodNamed B.named, fun w hw => atoms_spec B.pre w (List.mem_cons_of_mem _ hw)⟩
  have Z : ig_Z D kk ad bs s s.heap [] a la b lb lo := ig_Z.rf hP
  have hl := lv_entry ([.ref (ad 0), .int x1, .int x2, .int x3, .ref (ad 115)]) (n := 6) (Nat.le_of_ble_eq_true rfl)
  rw [lg_entry_eq]
  generalize (lg_sl ([.ref (ad 0), .int x1, .int x2, .int x3, .ref (ad 115)]) ++ List.replicate (6 - (lg_sl ([.ref (ad 0), .int x1, .int x2, .int x3, .ref (ad 115)])).length) Slot.unset).toArray = ls at hl ⊢
  have hl : lv_has ls 6 [(0, .ref (ad 0)), (1, .int x1), (2, .int x2), (3, .int x3), (4, .ref (ad 115))] := hl
  refine lv_aload F.1 F.2.1 dL_breaks_0 (lv_at hl 4 rfl) ?_
  refine lv_iconst (v := 0) F.1 F.2.1 dL_breaks_2 (by decide) ?_
  refine lv_aload_n F.1 F.2.1 dL_breaks_3 rfl (lv_at hl 0 rfl) ?_
  refine lv_iload_n F.1 F.2.1 dL_breaks_4 rfl (lv_at hl 1 rfl) ?_
  refine lv_iload_n F.1 F.2.1 dL_breaks_5 rfl (lv_at hl 2 rfl) ?_
  refine lv_iload_n F.1 F.2.1 dL_breaks_6 rfl (lv_at hl 3 rfl) ?_
  have hM := k_X5_breaks l (D := D) (kk := kk) (ad := ad) (bs := bs) (a := a) (la := la) (b := b) (lb := lb) (lo := lo) x1 x2 x3 hlt hf
  refine ig_callXi E Z (ig_runVX (As := [.int x1, .int x2, .int x3]) (rest := [.int 0, .ref (ad 115)]) F E Z hl G_L_49 hM (i := 0) (by decide) (ig_k_0 _ _ _ _ _ _) rfl rfl md_X5_breaks rfl ⟨rfl, rfl⟩ ⟨Nat.le_of_ble_eq_true rfl, Nat.le_of_ble_eq_true rfl⟩ (Nat.le_of_ble_eq_true rfl) dL_breaks_7 ⟨Nat.le_of_ble_eq_true rfl, Nat.le_of_ble_eq_true rfl⟩) (fun u q9 ce H locs hu Z hce hcv hcl => ?_) (fun r1 u H locs hf Z => ?_)
  · rcases hu with ⟨rfl, hf⟩ | ⟨rfl, hf⟩
    · refine ig_catch F E htab 2 [] [⟨0, 19, 26, 13⟩] ⟨0, 19, 22, 21⟩ rfl (by decide) (fun z hz => nomatch hz) rfl (by decide) mw_469 hce hcv hcl ?_
      refine lv_astore (lv' := [(5, .ref q9), (0, .ref (ad 0)), (1, .int x1), (2, .int x2), (3, .int x3), (4, .ref (ad 115))]) F.1 F.2.1 dL_breaks_22 hl (by decide) rfl (fun ls hl => ?_)
      refine lv_iconst (v := 1) F.1 F.2.1 dL_breaks_24 (by decide) ?_
      refine W.widen (k := 2) (n := 12) (Nat.le_of_ble_eq_true rfl) (Nat.le_of_ble_eq_true rfl) ?_
      exact W.iret (v := 1) F.1 F.2.1 hr (fun t ht hW => ⟨⟨_, (a, la, lo), rfl, hf, Z.wd E ht hW⟩, Z.fr ht⟩) Z.2.2.2 dL_breaks_25
    · refine ig_catch F E htab 0 [⟨0, 19, 22, 21⟩] [] ⟨0, 19, 26, 13⟩ rfl (by decide) (List.forall_mem_cons.mpr ⟨⟨by decide, "java/lang/IndexOutOfBoundsException", mw_469, by decide +kernel⟩, (fun z hz => nomatch hz)⟩) rfl (by decide) mw_463 hce hcv hcl ?_
      refine lv_astore (lv' := [(5, .ref q9), (0, .ref (ad 0)), (1, .int x1), (2, .int x2), (3, .int x3), (4, .ref (ad 115))]) F.1 F.2.1 dL_breaks_26 hl (by decide) rfl (fun ls hl => ?_)
      refine lv_iconst (v := 2) F.1 F.2.1 dL_breaks_28 (by decide) ?_
      refine W.widen (k := 2) (n := 12) (Nat.le_of_ble_eq_true rfl) (Nat.le_of_ble_eq_true rfl) ?_
      exact W.iret (v := 2) F.1 F.2.1 hr (fun t ht hW => ⟨⟨_, (a, la, lo), rfl, hf, Z.wd E ht hW⟩, Z.fr ht⟩) Z.2.2.2 dL_breaks_29
  · obtain ⟨a1, la1⟩ := u
    have Z : ig_Z D kk ad bs s H locs a1 la1 b lb lo := Z
    refine lv_if_eq (tgt := 17) F.1 F.2.1 dL_breaks_10 (by decide) (fun c_1 => ?_) (fun c_1 => ?_)
    · have hf := hf.1 c_1
      refine lv_lconst (v := 0) F.1 F.2.1 dL_breaks_17 (by decide) ?_
      refine ig_last F E Z dL_breaks_18 (fun H locs Z => ?_)
      refine lv_goto (tgt := 30) F.1 F.2.1 dL_breaks_19 (by decide) ?_
      refine lv_iconst (v := 0) F.1 F.2.1 dL_breaks_30 (by decide) ?_
      refine W.widen (k := 2) (n := 12) (Nat.le_of_ble_eq_true rfl) (Nat.le_of_ble_eq_true rfl) ?_
      exact W.iret (v := 0) F.1 F.2.1 hr (fun t ht hW => ⟨⟨_, (a1, la1, (0 : Int64)), rfl, hf, Z.wd E ht hW⟩, Z.fr ht⟩) Z.2.2.2 dL_breaks_31
    · have hf := hf.2 c_1
      refine lv_lconst (v := 1) F.1 F.2.1 dL_breaks_13 (by decide) ?_
      refine lv_goto (tgt := 18) F.1 F.2.1 dL_breaks_14 (by decide) ?_
      refine ig_last F E Z dL_breaks_18 (fun H locs Z => ?_)
      refine lv_goto (tgt := 30) F.1 F.2.1 dL_breaks_19 (by decide) ?_
      refine lv_iconst (v := 0) F.1 F.2.1 dL_breaks_30 (by decide) ?_
      refine W.widen (k := 2) (n := 12) (Nat.le_of_ble_eq_true rfl) (Nat.le_of_ble_eq_true rfl) ?_
      exact W.iret (v := 0) F.1 F.2.1 hr (fun t ht hW => ⟨⟨_, (a1, la1, (1 : Int64)), rfl, hf, Z.wd E ht hW⟩, Z.fr ht⟩) Z.2.2.2 dL_breaks_31
set_option maxHeartbeats 4000000 in
set_option maxRecDepth 100000 in
theorem k_L_go (l : Launch) {D : va_G} {kk : Nat → ClassId} {ad : Nat → Nat} {bs : Nat} {a : ig_M} {la : Int64} {b : ig_M} {lb lo : Int64} (x1 : Int32) (hlt : l.stackTraces = false) {post : Int32 → ig_M → Int64 → Int64 → Prop} (hf : wp_L_go a la lo x1 post) : Met l yL_go (ig_wsW yL_go cL_go 4 (some .int) [(0, 9, 12, 13), (0, 9, 15, 15)]) ({ frames := 7, cells := 1, slots := 6, locals := 131 } : Room) (va_Pc [.ref (ad 0), .int x1, .ref (ad 115)] (ig_Wd D kk ad bs a la b lb lo)) (va_Qi (fun (r : Int32) (u : ig_M × Int64 × Int64) => post r u.1 u.2.1 u.2.2) (fun u t => ig_Wd D kk ad bs u.1 u.2.1 b lb u.2.2 t) (ig_A bs)) 1 6 (ig_A bs) := by
  refine ig_ofWH (cc := cL_go) (maxL := 4) (ret := some .int) (hh := [(0, 9, 12, 13), (0, 9, 15, 15)]) (by decide) rfl ?_
  intro p e s m args below meth c s₁ B hml htab hv
  obtain ⟨rfl, E, hP⟩ := hv
  have hk := B.notSynchronized
  have hr := B.returns
  have F : CallFix p m c cL_go 4 s _ ig_all RL := ⟨B.exec, B.bytes, hml, findClass_of_methodNamed B.named, fun w hw => atoms_spec B.pre w (List.mem_cons_of_mem _ hw)⟩
  have Z : ig_Z D kk ad bs s s.heap [] a la b lb lo := ig_Z.rf hP
  have hl := lv_entry ([.ref (ad 0), .int x1, .ref (ad 115)]) (n := 4) (Nat.le_of_ble_eq_true rfl)
  rw [lg_entry_eq]
  generalize (lg_sl ([.ref (ad 0), .int x1, .ref (ad 115)]) ++ List.replicate (4 - (lg_sl ([.ref (ad 0), .int x1, .ref (ad 115)])).length) Slot.unset).toArray = ls at hl ⊢
  have hl : lv_has ls 4 [(0, .ref (ad 0)), (1, .int x1), (2, .ref (ad 115))] := hl
  refine lv_aload_n F.1 F.2.1 dL_go_0 rfl (lv_at hl 2 rfl) ?_
  refine lv_iconst (v := 0) F.1 F.2.1 dL_go_1 (by decide) ?_
  refine lv_aload_n F.1 F.2.1 dL_go_2 rfl (lv_at hl 0 rfl) ?_
  refine lv_iload_n F.1 F.2.1 dL_go_3 rfl (lv_at hl 1 rfl) ?_
  have hM := k_X5_go l (D := D) (kk := kk) (ad := ad) (bs := bs) (a := a) (la := la) (b := b) (lb := lb) (lo := lo) x1 hlt hf
  refine ig_callXi E Z (ig_runVX (As := [.int x1]) (rest := [.int 0, .ref (ad 115)]) F E Z hl G_L_53 hM (i := 0) (by decide) (ig_k_0 _ _ _ _ _ _) rfl rfl md_X5_go rfl ⟨rfl, rfl⟩ ⟨Nat.le_of_ble_eq_true rfl, Nat.le_of_ble_eq_true rfl⟩ (Nat.le_of_ble_eq_true rfl) dL_go_4 ⟨Nat.le_of_ble_eq_true rfl, Nat.le_of_ble_eq_true rfl⟩) (fun u q9 ce H locs hu Z hce hcv hcl => ?_) (fun r1 u H locs hf Z => ?_)
  · rcases hu with ⟨rfl, hf⟩ | ⟨rfl, hf⟩
    · refine ig_catch F E htab 0 [] [⟨0, 9, 15, 15⟩] ⟨0, 9, 12, 13⟩ rfl (by decide) (fun z hz => nomatch hz) rfl (by decide) mw_463 hce hcv hcl ?_
      refine lv_astore_n (lv' := [(3, .ref q9), (0, .ref (ad 0)), (1, .int x1), (2, .ref (ad 115))]) F.1 F.2.1 dL_go_12 rfl hl (by decide) rfl (fun ls hl => ?_)
      refine lv_iconst (v := 1) F.1 F.2.1 dL_go_13 (by decide) ?_
      refine W.widen (k := 1) (n := 6) (Nat.le_of_ble_eq_true rfl) (Nat.le_of_ble_eq_true rfl) ?_
      exact W.iret (v := 1) F.1 F.2.1 hr (fun t ht hW => ⟨⟨_, (a, la, lo), rfl, hf, Z.wd E ht hW⟩, Z.fr ht⟩) Z.2.2.2 dL_go_14
    · refine ig_catch F E htab 1 [⟨0, 9, 12, 13⟩] [] ⟨0, 9, 15, 15⟩ rfl (by decide) (List.forall_mem_cons.mpr ⟨⟨by decide, "java/lang/IllegalArgumentException", mw_463, by decide +kernel⟩, (fun z hz => nomatch hz)⟩) rfl (by decide) mw_464 hce hcv hcl ?_
      refine lv_astore_n (lv' := [(3, .ref q9), (0, .ref (ad 0)), (1, .int x1), (2, .ref (ad 115))]) F.1 F.2.1 dL_go_15 rfl hl (by decide) rfl (fun ls hl => ?_)
      refine lv_iconst (v := 2) F.1 F.2.1 dL_go_16 (by decide) ?_
      refine W.widen (k := 1) (n := 6) (Nat.le_of_ble_eq_true rfl) (Nat.le_of_ble_eq_true rfl) ?_
      exact W.iret (v := 2) F.1 F.2.1 hr (fun t ht hW => ⟨⟨_, (a, la, lo), rfl, hf, Z.wd E ht hW⟩, Z.fr ht⟩) Z.2.2.2 dL_go_17
  · obtain ⟨a1, la1⟩ := u
    have Z : ig_Z D kk ad bs s H locs a1 la1 b lb lo := Z
    refine lv_i2l F.1 F.2.1 dL_go_7 rfl ?_
    refine ig_last F E Z dL_go_8 (fun H locs Z => ?_)
    refine lv_goto (tgt := 18) F.1 F.2.1 dL_go_9 (by decide) ?_
    refine lv_iconst (v := 0) F.1 F.2.1 dL_go_18 (by decide) ?_
    refine W.widen (k := 1) (n := 6) (Nat.le_of_ble_eq_true rfl) (Nat.le_of_ble_eq_true rfl) ?_
    exact W.iret (v := 0) F.1 F.2.1 hr (fun t ht hW => ⟨⟨_, (a1, la1, r1.toInt64), rfl, hf, Z.wd E ht hW⟩, Z.fr ht⟩) Z.2.2.2 dL_go_19
set_option maxHeartbeats 4000000 in
set_option maxRecDepth 100000 in
theorem k_L_lamp (l : Launch) {D : va_G} {kk : Nat → ClassId} {ad : Nat → Nat} {bs : Nat} {a : ig_M} {la : Int64} {b : ig_M} {lb lo : Int64} (x1 : Int32) (x2 : Int32) (hlt : l.stackTraces = false) {post : Int32 → ig_M → Int64 → Int64 → Prop} (hf : wp_L_lamp a la lo x1 x2 post) : Met l yL_lamp (ig_wsW yL_lamp cL_lamp 5 (some .int) [(0, 10, 13, 21)]) ({ frames := 8, cells := 2, slots := 12, locals := 133 } : Room) (va_Pc [.ref (ad 0), .int x1, .int x2, .ref (ad 115)] (ig_Wd D kk ad bs a la b lb lo)) (va_Qi (fun (r : Int32) (u : ig_M × Int64 × Int64) => post r u.1 u.2.1 u.2.2) (fun u t => ig_Wd D kk ad bs u.1 u.2.1 b lb u.2.2 t) (ig_A bs)) 2 12 (ig_A bs) := by
  refine ig_ofWH (cc := cL_lamp) (maxL := 5) (ret := some .int) (hh := [(0, 10, 13, 21)]) (by decide) rfl ?_
  intro p e s m args below meth c s₁ B hml htab hv
  obtain ⟨rfl, E, hP⟩ := hv
  have hk := B.notSynchronized
  have hr := B.returns
  have F : CallFix p m c cL_lamp 5 s _ ig_all RL := ⟨B.exec, B.bytes, hml, findClass_of_methodNamed B.named, fun w hw => atoms_spec B.pre w (List.mem_cons_of_mem _ hw)⟩
  have Z : ig_Z D kk ad bs s s.heap [] a la b lb lo := ig_Z.rf hP
  have hl := lv_entry ([.ref (ad 0), .int x1, .int x2, .ref (ad 115)]) (n := 5) (Nat.le_of_ble_eq_true rfl)
  rw [lg_entry_eq]
  generalize (lg_sl ([.ref (ad 0), .int x1, .int x2, .ref (ad 115)]) ++ List.replicate (5 - (lg_sl ([.ref (ad 0), .int x1, .int x2, .ref (ad 115)])).length) Slot.unset).toArray = ls at hl ⊢
  have hl : lv_has ls 5 [(0, .ref (ad 0)), (1, .int x1), (2, .int x2), (3, .ref (ad 115))] := hl
  refine lv_aload_n F.1 F.2.1 dL_lamp_0 rfl (lv_at hl 3 rfl) ?_
  refine lv_iconst (v := 0) F.1 F.2.1 dL_lamp_1 (by decide) ?_
  refine lv_aload_n F.1 F.2.1 dL_lamp_2 rfl (lv_at hl 0 rfl) ?_
  refine lv_iload_n F.1 F.2.1 dL_lamp_3 rfl (lv_at hl 1 rfl) ?_
  refine lv_iload_n F.1 F.2.1 dL_lamp_4 rfl (lv_at hl 2 rfl) ?_
  have hM := k_X5_lamp l (D := D) (kk := kk) (ad := ad) (bs := bs) (a := a) (la := la) (b := b) (lb := lb) (lo := lo) x1 x2 hlt hf
  refine ig_callXi E Z (ig_runVX (As := [.int x1, .int x2]) (rest := [.int 0, .ref (ad 115)]) F E Z hl G_L_56 hM (i := 0) (by decide) (ig_k_0 _ _ _ _ _ _) rfl rfl md_X5_lamp rfl ⟨rfl, rfl⟩ ⟨Nat.le_of_ble_eq_true rfl, Nat.le_of_ble_eq_true rfl⟩ (Nat.le_of_ble_eq_true rfl) dL_lamp_5 ⟨Nat.le_of_ble_eq_true rfl, Nat.le_of_ble_eq_true rfl⟩) (fun u q9 ce H locs hu Z hce hcv hcl => ?_) (fun r1 u H locs hf Z => ?_)
  · rcases hu with ⟨rfl, hf⟩
    · refine ig_catch F E htab 2 [] [] ⟨0, 10, 13, 21⟩ rfl (by decide) (fun z hz => nomatch hz) rfl (by decide) mw_469 hce hcv hcl ?_
      refine lv_astore (lv' := [(4, .ref q9), (0, .ref (ad 0)), (1, .int x1), (2, .int x2), (3, .ref (ad 115))]) F.1 F.2.1 dL_lamp_13 hl (by decide) rfl (fun ls hl => ?_)
      refine lv_iconst (v := 1) F.1 F.2.1 dL_lamp_15 (by decide) ?_
      refine W.widen (k := 2) (n := 12) (Nat.le_of_ble_eq_true rfl) (Nat.le_of_ble_eq_true rfl) ?_
      exact W.iret (v := 1) F.1 F.2.1 hr (fun t ht hW => ⟨⟨_, (a, la, lo), rfl, hf, Z.wd E ht hW⟩, Z.fr ht⟩) Z.2.2.2 dL_lamp_16
  · have Z := Z
    refine lv_i2l F.1 F.2.1 dL_lamp_8 rfl ?_
    refine ig_last F E Z dL_lamp_9 (fun H locs Z => ?_)
    refine lv_goto (tgt := 17) F.1 F.2.1 dL_lamp_10 (by decide) ?_
    refine lv_iconst (v := 0) F.1 F.2.1 dL_lamp_17 (by decide) ?_
    refine W.widen (k := 2) (n := 12) (Nat.le_of_ble_eq_true rfl) (Nat.le_of_ble_eq_true rfl) ?_
    exact W.iret (v := 0) F.1 F.2.1 hr (fun t ht hW => ⟨⟨_, (a, la, r1.toInt64), rfl, hf, Z.wd E ht hW⟩, Z.fr ht⟩) Z.2.2.2 dL_lamp_18
set_option maxHeartbeats 4000000 in
set_option maxRecDepth 100000 in
theorem k_L_ofPhase (l : Launch) {D : va_G} {kk : Nat → ClassId} {ad : Nat → Nat} {bs : Nat} {a : ig_M} {la : Int64} {b : ig_M} {lb lo : Int64} (x1 : Int32) (x2 : Int32) (hlt : l.stackTraces = false) {post : Int32 → ig_M → Int64 → Int64 → Prop} (hf : wp_L_ofPhase a la lo x1 x2 post) : Met l yL_ofPhase (ig_wsW yL_ofPhase cL_ofPhase 5 (some .int) [(0, 10, 13, 21), (0, 10, 17, 13)]) ({ frames := 8, cells := 2, slots := 12, locals := 133 } : Room) (va_Pc [.ref (ad 0), .int x1, .int x2, .ref (ad 115)] (ig_Wd D kk ad bs a la b lb lo)) (va_Qi (fun (r : Int32) (u : ig_M × Int64 × Int64) => post r u.1 u.2.1 u.2.2) (fun u t => ig_Wd D kk ad bs u.1 u.2.1 b lb u.2.2 t) (ig_A bs)) 2 12 (ig_A bs) := by
  refine ig_ofWH (cc := cL_ofPhase) (maxL := 5) (ret := some .int) (hh := [(0, 10, 13, 21), (0, 10, 17, 13)]) (by decide) rfl ?_
  intro p e s m args below meth c s₁ B hml htab hv
  obtain ⟨rfl, E, hP⟩ := hv
  have hk := B.notSynchronized
  have hr := B.returns
  have F : CallFix p m c cL_ofPhase 5 s _ ig_all RL := ⟨B.exec, B.bytes, hml, findClass_of_methodNamed B.named, fun w hw => atoms_spec B.pre w (List.mem_cons_of_mem _ hw)⟩
  have Z : ig_Z D kk ad bs s s.heap [] a la b lb lo := ig_Z.rf hP
  have hl := lv_entry ([.ref (ad 0), .int x1, .int x2, .ref (ad 115)]) (n := 5) (Nat.le_of_ble_eq_true rfl)
  rw [lg_entry_eq]
  generalize (lg_sl ([.ref (ad 0), .int x1, .int x2, .ref (ad 115)]) ++ List.replicate (5 - (lg_sl ([.ref (ad 0), .int x1, .int x2, .ref (ad 115)])).length) Slot.unset).toArray = ls at hl ⊢
  have hl : lv_has ls 5 [(0, .ref (ad 0)), (1, .int x1), (2, .int x2), (3, .ref (ad 115))] := hl
  refine lv_aload_n F.1 F.2.1 dL_ofPhase_0 rfl (lv_at hl 3 rfl) ?_
  refine lv_iconst (v := 0) F.1 F.2.1 dL_ofPhase_1 (by decide) ?_
  refine lv_aload_n F.1 F.2.1 dL_ofPhase_2 rfl (lv_at hl 0 rfl) ?_
  refine lv_iload_n F.1 F.2.1 dL_ofPhase_3 rfl (lv_at hl 1 rfl) ?_
  refine lv_iload_n F.1 F.2.1 dL_ofPhase_4 rfl (lv_at hl 2 rfl) ?_
  have hM := k_X5_ofPhase l (D := D) (kk := kk) (ad := ad) (bs := bs) (a := a) (la := la) (b := b) (lb := lb) (lo := lo) x1 x2 hlt hf
  refine ig_callXi E Z (ig_runVX (As := [.int x1, .int x2]) (rest := [.int 0, .ref (ad 115)]) F E Z hl G_L_59 hM (i := 0) (by decide) (ig_k_0 _ _ _ _ _ _) rfl rfl md_X5_ofPhase rfl ⟨rfl, rfl⟩ ⟨Nat.le_of_ble_eq_true rfl, Nat.le_of_ble_eq_true rfl⟩ (Nat.le_of_ble_eq_true rfl) dL_ofPhase_5 ⟨Nat.le_of_ble_eq_true rfl, Nat.le_of_ble_eq_true rfl⟩) (fun u q9 ce H locs hu Z hce hcv hcl => ?_) (fun r1 u H locs hf Z => ?_)
  · rcases hu with ⟨rfl, hf⟩ | ⟨rfl, hf⟩
    · refine ig_catch F E htab 2 [] [⟨0, 10, 17, 13⟩] ⟨0, 10, 13, 21⟩ rfl (by decide) (fun z hz => nomatch hz) rfl (by decide) mw_469 hce hcv hcl ?_
      refine lv_astore (lv' := [(4, .ref q9), (0, .ref (ad 0)), (1, .int x1), (2, .int x2), (3, .ref (ad 115))]) F.1 F.2.1 dL_ofPhase_13 hl (by decide) rfl (fun ls hl => ?_)
      refine lv_iconst (v := 1) F.1 F.2.1 dL_ofPhase_15 (by decide) ?_
      refine W.widen (k := 2) (n := 12) (Nat.le_of_ble_eq_true rfl) (Nat.le_of_ble_eq_true rfl) ?_
      exact W.iret (v := 1) F.1 F.2.1 hr (fun t ht hW => ⟨⟨_, (a, la, lo), rfl, hf, Z.wd E ht hW⟩, Z.fr ht⟩) Z.2.2.2 dL_ofPhase_16
    · refine ig_catch F E htab 0 [⟨0, 10, 13, 21⟩] [] ⟨0, 10, 17, 13⟩ rfl (by decide) (List.forall_mem_cons.mpr ⟨⟨by decide, "java/lang/IndexOutOfBoundsException", mw_469, by decide +kernel⟩, (fun z hz => nomatch hz)⟩) rfl (by decide) mw_463 hce hcv hcl ?_
      refine lv_astore (lv' := [(4, .ref q9), (0, .ref (ad 0)), (1, .int x1), (2, .int x2), (3, .ref (ad 115))]) F.1 F.2.1 dL_ofPhase_17 hl (by decide) rfl (fun ls hl => ?_)
      refine lv_iconst (v := 2) F.1 F.2.1 dL_ofPhase_19 (by decide) ?_
      refine W.widen (k := 2) (n := 12) (Nat.le_of_ble_eq_true rfl) (Nat.le_of_ble_eq_true rfl) ?_
      exact W.iret (v := 2) F.1 F.2.1 hr (fun t ht hW => ⟨⟨_, (a, la, lo), rfl, hf, Z.wd E ht hW⟩, Z.fr ht⟩) Z.2.2.2 dL_ofPhase_20
  · have Z := Z
    refine lv_i2l F.1 F.2.1 dL_ofPhase_8 rfl ?_
    refine ig_last F E Z dL_ofPhase_9 (fun H locs Z => ?_)
    refine lv_goto (tgt := 21) F.1 F.2.1 dL_ofPhase_10 (by decide) ?_
    refine lv_iconst (v := 0) F.1 F.2.1 dL_ofPhase_21 (by decide) ?_
    refine W.widen (k := 2) (n := 12) (Nat.le_of_ble_eq_true rfl) (Nat.le_of_ble_eq_true rfl) ?_
    exact W.iret (v := 0) F.1 F.2.1 hr (fun t ht hW => ⟨⟨_, (a, la, r1.toInt64), rfl, hf, Z.wd E ht hW⟩, Z.fr ht⟩) Z.2.2.2 dL_ofPhase_22
set_option maxHeartbeats 4000000 in
set_option maxRecDepth 100000 in
theorem k_L_of (l : Launch) {D : va_G} {kk : Nat → ClassId} {ad : Nat → Nat} {bs : Nat} {a : ig_M} {la : Int64} {b : ig_M} {lb lo : Int64} (x1 : Int32) (hlt : l.stackTraces = false) {post : Int32 → ig_M → Int64 → Int64 → Prop} (hf : wp_L_of a la lo x1 post) : Met l yL_of (ig_wsW yL_of cL_of 4 (some .int) [(0, 9, 12, 13)]) ({ frames := 7, cells := 1, slots := 6, locals := 111 } : Room) (va_Pc [.ref (ad 0), .int x1, .ref (ad 115)] (ig_Wd D kk ad bs a la b lb lo)) (va_Qi (fun (r : Int32) (u : ig_M × Int64 × Int64) => post r u.1 u.2.1 u.2.2) (fun u t => ig_Wd D kk ad bs u.1 u.2.1 b lb u.2.2 t) (ig_A bs)) 1 6 (ig_A bs) := by
  refine ig_ofWH (cc := cL_of) (maxL := 4) (ret := some .int) (hh := [(0, 9, 12, 13)]) (by decide) rfl ?_
  intro p e s m args below meth c s₁ B hml htab hv
  obtain ⟨rfl, E, hP⟩ := hv
  have hk := B.notSynchronized
  have hr := B.returns
  have F : CallFix p m c cL_of 4 s _ ig_all RL := ⟨B.exec, B.bytes, hml, findClass_of_methodNamed B.named, fun w hw => atoms_spec B.pre w (List.mem_cons_of_mem _ hw)⟩
  have Z : ig_Z D kk ad bs s s.heap [] a la b lb lo := ig_Z.rf hP
  have hl := lv_entry ([.ref (ad 0), .int x1, .ref (ad 115)]) (n := 4) (Nat.le_of_ble_eq_true rfl)
  rw [lg_entry_eq]
  generalize (lg_sl ([.ref (ad 0), .int x1, .ref (ad 115)]) ++ List.replicate (4 - (lg_sl ([.ref (ad 0), .int x1, .ref (ad 115)])).length) Slot.unset).toArray = ls at hl ⊢
  have hl : lv_has ls 4 [(0, .ref (ad 0)), (1, .int x1), (2, .ref (ad 115))] := hl
  refine lv_aload_n F.1 F.2.1 dL_of_0 rfl (lv_at hl 2 rfl) ?_
  refine lv_iconst (v := 0) F.1 F.2.1 dL_of_1 (by decide) ?_
  refine lv_aload_n F.1 F.2.1 dL_of_2 rfl (lv_at hl 0 rfl) ?_
  refine lv_iload_n F.1 F.2.1 dL_of_3 rfl (lv_at hl 1 rfl) ?_
  have hM := k_X5_of l (D := D) (kk := kk) (ad := ad) (bs := bs) (a := a) (la := la) (b := b) (lb := lb) (lo := lo) x1 hlt hf
  refine ig_callXi E Z (ig_runVX (As := [.int x1]) (rest := [.int 0, .ref (ad 115)]) F E Z hl G_L_62 hM (i := 0) (by decide) (ig_k_0 _ _ _ _ _ _) rfl rfl md_X5_of rfl ⟨rfl, rfl⟩ ⟨Nat.le_of_ble_eq_true rfl, Nat.le_of_ble_eq_true rfl⟩ (Nat.le_of_ble_eq_true rfl) dL_of_4 ⟨Nat.le_of_ble_eq_true rfl, Nat.le_of_ble_eq_true rfl⟩) (fun u q9 ce H locs hu Z hce hcv hcl => ?_) (fun r1 u H locs hf Z => ?_)
  · rcases hu with ⟨rfl, hf⟩
    · refine ig_catch F E htab 0 [] [] ⟨0, 9, 12, 13⟩ rfl (by decide) (fun z hz => nomatch hz) rfl (by decide) mw_463 hce hcv hcl ?_
      refine lv_astore_n (lv' := [(3, .ref q9), (0, .ref (ad 0)), (1, .int x1), (2, .ref (ad 115))]) F.1 F.2.1 dL_of_12 rfl hl (by decide) rfl (fun ls hl => ?_)
      refine lv_iconst (v := 1) F.1 F.2.1 dL_of_13 (by decide) ?_
      refine W.widen (k := 1) (n := 6) (Nat.le_of_ble_eq_true rfl) (Nat.le_of_ble_eq_true rfl) ?_
      exact W.iret (v := 1) F.1 F.2.1 hr (fun t ht hW => ⟨⟨_, (a, la, lo), rfl, hf, Z.wd E ht hW⟩, Z.fr ht⟩) Z.2.2.2 dL_of_14
  · have Z := Z
    refine lv_i2l F.1 F.2.1 dL_of_7 rfl ?_
    refine ig_last F E Z dL_of_8 (fun H locs Z => ?_)
    refine lv_goto (tgt := 15) F.1 F.2.1 dL_of_9 (by decide) ?_
    refine lv_iconst (v := 0) F.1 F.2.1 dL_of_15 (by decide) ?_
    refine W.widen (k := 1) (n := 6) (Nat.le_of_ble_eq_true rfl) (Nat.le_of_ble_eq_true rfl) ?_
    exact W.iret (v := 0) F.1 F.2.1 hr (fun t ht hW => ⟨⟨_, (a, la, r1.toInt64), rfl, hf, Z.wd E ht hW⟩, Z.fr ht⟩) Z.2.2.2 dL_of_16
set_option maxHeartbeats 4000000 in
set_option maxRecDepth 100000 in
theorem k_L_seen (l : Launch) {D : va_G} {kk : Nat → ClassId} {ad : Nat → Nat} {bs : Nat} {a : ig_M} {la : Int64} {b : ig_M} {lb lo : Int64} (x1 : Int32) (x2 : Int32) (hlt : l.stackTraces = false) {post : Int32 → ig_M → Int64 → Int64 → Prop} (hf : wp_L_seen a la lo x1 x2 post) : Met l yL_seen (ig_wsW yL_seen cL_seen 5 (some .int) [(0, 10, 13, 21), (0, 10, 17, 13)]) ({ frames := 8, cells := 3, slots := 18, locals := 133 } : Room) (va_Pc [.ref (ad 0), .int x1, .int x2, .ref (ad 115)] (ig_Wd D kk ad bs a la b lb lo)) (va_Qi (fun (r : Int32) (u : ig_M × Int64 × Int64) => post r u.1 u.2.1 u.2.2) (fun u t => ig_Wd D kk ad bs u.1 u.2.1 b lb u.2.2 t) (ig_A bs)) 3 18 (ig_A bs) := by
  refine ig_ofWH (cc := cL_seen) (maxL := 5) (ret := some .int) (hh := [(0, 10, 13, 21), (0, 10, 17, 13)]) (by decide) rfl ?_
  intro p e s m args below meth c s₁ B hml htab hv
  obtain ⟨rfl, E, hP⟩ := hv
  have hk := B.notSynchronized
  have hr := B.returns
  have F : CallFix p m c cL_seen 5 s _ ig_all RL := ⟨B.exec, B.bytes, hml, findClass_of_methodNamed B.named, fun w hw => atoms_spec B.pre w (List.mem_cons_of_mem _ hw)⟩
  have Z : ig_Z D kk ad bs s s.heap [] a la b lb lo := ig_Z.rf hP
  have hl := lv_entry ([.ref (ad 0), .int x1, .int x2, .ref (ad 115)]) (n := 5) (Nat.le_of_ble_eq_true rfl)
  rw [lg_entry_eq]
  generalize (lg_sl ([.ref (ad 0), .int x1, .int x2, .ref (ad 115)]) ++ List.replicate (5 - (lg_sl ([.ref (ad 0), .int x1, .int x2, .ref (ad 115)])).length) Slot.unset).toArray = ls at hl ⊢
  have hl : lv_has ls 5 [(0, .ref (ad 0)), (1, .int x1), (2, .int x2), (3, .ref (ad 115))] := hl
  refine lv_aload_n F.1 F.2.1 dL_seen_0 rfl (lv_at hl 3 rfl) ?_
  refine lv_iconst (v := 0) F.1 F.2.1 dL_seen_1 (by decide) ?_
  refine lv_aload_n F.1 F.2.1 dL_seen_2 rfl (lv_at hl 0 rfl) ?_
  refine lv_iload_n F.1 F.2.1 dL_seen_3 rfl (lv_at hl 1 rfl) ?_
  refine lv_iload_n F.1 F.2.1 dL_seen_4 rfl (lv_at hl 2 rfl) ?_
  have hM := k_X5_seen l (D := D) (kk := kk) (ad := ad) (bs := bs) (a := a) (la := la) (b := b) (lb := lb) (lo := lo) x1 x2 hlt hf
  refine ig_callXi E Z (ig_runVX (As := [.int x1, .int x2]) (rest := [.int 0, .ref (ad 115)]) F E Z hl G_L_65 hM (i := 0) (by decide) (ig_k_0 _ _ _ _ _ _) rfl rfl md_X5_seen rfl ⟨rfl, rfl⟩ ⟨Nat.le_of_ble_eq_true rfl, Nat.le_of_ble_eq_true rfl⟩ (Nat.le_of_ble_eq_true rfl) dL_seen_5 ⟨Nat.le_of_ble_eq_true rfl, Nat.le_of_ble_eq_true rfl⟩) (fun u q9 ce H locs hu Z hce hcv hcl => ?_) (fun r1 u H locs hf Z => ?_)
  · rcases hu with ⟨rfl, hf⟩ | ⟨rfl, hf⟩
    · refine ig_catch F E htab 2 [] [⟨0, 10, 17, 13⟩] ⟨0, 10, 13, 21⟩ rfl (by decide) (fun z hz => nomatch hz) rfl (by decide) mw_469 hce hcv hcl ?_
      refine lv_astore (lv' := [(4, .ref q9), (0, .ref (ad 0)), (1, .int x1), (2, .int x2), (3, .ref (ad 115))]) F.1 F.2.1 dL_seen_13 hl (by decide) rfl (fun ls hl => ?_)
      refine lv_iconst (v := 1) F.1 F.2.1 dL_seen_15 (by decide) ?_
      refine W.widen (k := 3) (n := 18) (Nat.le_of_ble_eq_true rfl) (Nat.le_of_ble_eq_true rfl) ?_
      exact W.iret (v := 1) F.1 F.2.1 hr (fun t ht hW => ⟨⟨_, (a, la, lo), rfl, hf, Z.wd E ht hW⟩, Z.fr ht⟩) Z.2.2.2 dL_seen_16
    · refine ig_catch F E htab 0 [⟨0, 10, 13, 21⟩] [] ⟨0, 10, 17, 13⟩ rfl (by decide) (List.forall_mem_cons.mpr ⟨⟨by decide, "java/lang/IndexOutOfBoundsException", mw_469, by decide +kernel⟩, (fun z hz => nomatch hz)⟩) rfl (by decide) mw_463 hce hcv hcl ?_
      refine lv_astore (lv' := [(4, .ref q9), (0, .ref (ad 0)), (1, .int x1), (2, .int x2), (3, .ref (ad 115))]) F.1 F.2.1 dL_seen_17 hl (by decide) rfl (fun ls hl => ?_)
      refine lv_iconst (v := 2) F.1 F.2.1 dL_seen_19 (by decide) ?_
      refine W.widen (k := 3) (n := 18) (Nat.le_of_ble_eq_true rfl) (Nat.le_of_ble_eq_true rfl) ?_
      exact W.iret (v := 2) F.1 F.2.1 hr (fun t ht hW => ⟨⟨_, (a, la, lo), rfl, hf, Z.wd E ht hW⟩, Z.fr ht⟩) Z.2.2.2 dL_seen_20
  · have Z := Z
    refine lv_i2l F.1 F.2.1 dL_seen_8 rfl ?_
    refine ig_last F E Z dL_seen_9 (fun H locs Z => ?_)
    refine lv_goto (tgt := 21) F.1 F.2.1 dL_seen_10 (by decide) ?_
    refine lv_iconst (v := 0) F.1 F.2.1 dL_seen_21 (by decide) ?_
    refine W.widen (k := 3) (n := 18) (Nat.le_of_ble_eq_true rfl) (Nat.le_of_ble_eq_true rfl) ?_
    exact W.iret (v := 0) F.1 F.2.1 hr (fun t ht hW => ⟨⟨_, (a, la, r1.toInt64), rfl, hf, Z.wd E ht hW⟩, Z.fr ht⟩) Z.2.2.2 dL_seen_22
set_option maxHeartbeats 4000000 in
set_option maxRecDepth 100000 in
theorem k_L_change (l : Launch) {D : va_G} {kk : Nat → ClassId} {ad : Nat → Nat} {bs : Nat} {a : ig_M} {la : Int64} {b : ig_M} {lb lo : Int64} (x1 : Int32) (x2 : Int32) (hlt : l.stackTraces = false) {post : Int32 → ig_M → Int64 → Int64 → Prop} (hf : wp_L_change a la lo x1 x2 post) : Met l yL_change (ig_wsW yL_change cL_change 5 (some .int) [(0, 10, 13, 21)]) ({ frames := 8, cells := 2, slots := 12, locals := 133 } : Room) (va_Pc [.ref (ad 0), .int x1, .int x2, .ref (ad 115)] (ig_Wd D kk ad bs a la b lb lo)) (va_Qi (fun (r : Int32) (u : ig_M × Int64 × Int64) => post r u.1 u.2.1 u.2.2) (fun u t => ig_Wd D kk ad bs u.1 u.2.1 b lb u.2.2 t) (ig_A bs)) 2 12 (ig_A bs) := by
  refine ig_ofWH (cc := cL_change) (maxL := 5) (ret := some .int) (hh := [(0, 10, 13, 21)]) (by decide) rfl ?_
  intro p e s m args below meth c s₁ B hml htab hv
  obtain ⟨rfl, E, hP⟩ := hv
  have hk := B.notSynchronized
  have hr := B.returns
  have F : CallFix p m c cL_change 5 s _ ig_all RL := ⟨B.exec, B.bytes, hml, findClass_of_methodNamed B.named, fun w hw => atoms_spec B.pre w (List.mem_cons_of_mem _ hw)⟩
  have Z : ig_Z D kk ad bs s s.heap [] a la b lb lo := ig_Z.rf hP
  have hl := lv_entry ([.ref (ad 0), .int x1, .int x2, .ref (ad 115)]) (n := 5) (Nat.le_of_ble_eq_true rfl)
  rw [lg_entry_eq]
  generalize (lg_sl ([.ref (ad 0), .int x1, .int x2, .ref (ad 115)]) ++ List.replicate (5 - (lg_sl ([.ref (ad 0), .int x1, .int x2, .ref (ad 115)])).length) Slot.unset).toArray = ls at hl ⊢
  have hl : lv_has ls 5 [(0, .ref (ad 0)), (1, .int x1), (2, .int x2), (3, .ref (ad 115))] := hl
  refine lv_aload_n F.1 F.2.1 dL_change_0 rfl (lv_at hl 3 rfl) ?_
  refine lv_iconst (v := 0) F.1 F.2.1 dL_change_1 (by decide) ?_
  refine lv_aload_n F.1 F.2.1 dL_change_2 rfl (lv_at hl 0 rfl) ?_
  refine lv_iload_n F.1 F.2.1 dL_change_3 rfl (lv_at hl 1 rfl) ?_
  refine lv_iload_n F.1 F.2.1 dL_change_4 rfl (lv_at hl 2 rfl) ?_
  have hM := k_X5_change l (D := D) (kk := kk) (ad := ad) (bs := bs) (a := a) (la := la) (b := b) (lb := lb) (lo := lo) x1 x2 hlt hf
  refine ig_callXi E Z (ig_runVX (As := [.int x1, .int x2]) (rest := [.int 0, .ref (ad 115)]) F E Z hl G_L_68 hM (i := 0) (by decide) (ig_k_0 _ _ _ _ _ _) rfl rfl md_X5_change rfl ⟨rfl, rfl⟩ ⟨Nat.le_of_ble_eq_true rfl, Nat.le_of_ble_eq_true rfl⟩ (Nat.le_of_ble_eq_true rfl) dL_change_5 ⟨Nat.le_of_ble_eq_true rfl, Nat.le_of_ble_eq_true rfl⟩) (fun u q9 ce H locs hu Z hce hcv hcl => ?_) (fun r1 u H locs hf Z => ?_)
  · rcases hu with ⟨rfl, hf⟩
    · refine ig_catch F E htab 2 [] [] ⟨0, 10, 13, 21⟩ rfl (by decide) (fun z hz => nomatch hz) rfl (by decide) mw_469 hce hcv hcl ?_
      refine lv_astore (lv' := [(4, .ref q9), (0, .ref (ad 0)), (1, .int x1), (2, .int x2), (3, .ref (ad 115))]) F.1 F.2.1 dL_change_13 hl (by decide) rfl (fun ls hl => ?_)
      refine lv_iconst (v := 1) F.1 F.2.1 dL_change_15 (by decide) ?_
      refine W.widen (k := 2) (n := 12) (Nat.le_of_ble_eq_true rfl) (Nat.le_of_ble_eq_true rfl) ?_
      exact W.iret (v := 1) F.1 F.2.1 hr (fun t ht hW => ⟨⟨_, (a, la, lo), rfl, hf, Z.wd E ht hW⟩, Z.fr ht⟩) Z.2.2.2 dL_change_16
  · have Z := Z
    refine lv_i2l F.1 F.2.1 dL_change_8 rfl ?_
    refine ig_last F E Z dL_change_9 (fun H locs Z => ?_)
    refine lv_goto (tgt := 17) F.1 F.2.1 dL_change_10 (by decide) ?_
    refine lv_iconst (v := 0) F.1 F.2.1 dL_change_17 (by decide) ?_
    refine W.widen (k := 2) (n := 12) (Nat.le_of_ble_eq_true rfl) (Nat.le_of_ble_eq_true rfl) ?_
    exact W.iret (v := 0) F.1 F.2.1 hr (fun t ht hW => ⟨⟨_, (a, la, r1.toInt64), rfl, hf, Z.wd E ht hW⟩, Z.fr ht⟩) Z.2.2.2 dL_change_18
set_option maxHeartbeats 4000000 in
set_option maxRecDepth 100000 in
theorem k_L_inRound (l : Launch) {D : va_G} {kk : Nat → ClassId} {ad : Nat → Nat} {bs : Nat} {a : ig_M} {la : Int64} {b : ig_M} {lb lo : Int64} (x1 : Int32) (hlt : l.stackTraces = false) {post : Int32 → ig_M → Int64 → Int64 → Prop} (hf : wp_L_inRound a la lo x1 post) : Met l yL_inRound (ig_wsW yL_inRound cL_inRound 4 (some .int) [(0, 9, 12, 21)]) ({ frames := 7, cells := 1, slots := 6, locals := 161 } : Room) (va_Pc [.ref (ad 0), .int x1, .ref (ad 115)] (ig_Wd D kk ad bs a la b lb lo)) (va_Qi (fun (r : Int32) (u : ig_M × Int64 × Int64) => post r u.1 u.2.1 u.2.2) (fun u t => ig_Wd D kk ad bs u.1 u.2.1 b lb u.2.2 t) (ig_A bs)) 1 6 (ig_A bs) := by
  refine ig_ofWH (cc := cL_inRound) (maxL := 4) (ret := some .int) (hh := [(0, 9, 12, 21)]) (by decide) rfl ?_
  intro p e s m args below meth c s₁ B hml htab hv
  obtain ⟨rfl, E, hP⟩ := hv
  have hk := B.notSynchronized
  have hr := B.returns
  have F : CallFix p m c cL_inRound 4 s _ ig_all RL := ⟨B.exec, B.bytes, hml, findClass_of_methodNamed B.named, fun w hw => atoms_spec B.pre w (List.mem_cons_of_mem _ hw)⟩
  have Z : ig_Z D kk ad bs s s.heap [] a la b lb lo := ig_Z.rf hP
  have hl := lv_entry ([.ref (ad 0), .int x1, .ref (ad 115)]) (n := 4) (Nat.le_of_ble_eq_true rfl)
  rw [lg_entry_eq]
  generalize (lg_sl ([.ref (ad 0), .int x1, .ref (ad 115)]) ++ List.replicate (4 - (lg_sl ([.ref (ad 0), .int x1, .ref (ad 115)])).length) Slot.unset).toArray = ls at hl ⊢
  have hl : lv_has ls 4 [(0, .ref (ad 0)), (1, .int x1), (2, .ref (ad 115))] := hl
  refine lv_aload_n F.1 F.2.1 dL_inRound_0 rfl (lv_at hl 2 rfl) ?_
  refine lv_iconst (v := 0) F.1 F.2.1 dL_inRound_1 (by decide) ?_
  refine lv_aload_n F.1 F.2.1 dL_inRound_2 rfl (lv_at hl 0 rfl) ?_
  refine lv_iload_n F.1 F.2.1 dL_inRound_3 rfl (lv_at hl 1 rfl) ?_
  have hM := k_X5_inRound l (D := D) (kk := kk) (ad := ad) (bs := bs) (a := a) (la := la) (b := b) (lb := lb) (lo := lo) x1 hlt hf
  refine ig_callXi E Z (ig_runVX (As := [.int x1]) (rest := [.int 0, .ref (ad 115)]) F E Z hl G_L_71 hM (i := 0) (by decide) (ig_k_0 _ _ _ _ _ _) rfl rfl md_X5_inRound rfl ⟨rfl, rfl⟩ ⟨Nat.le_of_ble_eq_true rfl, Nat.le_of_ble_eq_true rfl⟩ (Nat.le_of_ble_eq_true rfl) dL_inRound_4 ⟨Nat.le_of_ble_eq_true rfl, Nat.le_of_ble_eq_true rfl⟩) (fun u q9 ce H locs hu Z hce hcv hcl => ?_) (fun r1 u H locs hf Z => ?_)
  · rcases hu with ⟨rfl, hf⟩
    · refine ig_catch F E htab 2 [] [] ⟨0, 9, 12, 21⟩ rfl (by decide) (fun z hz => nomatch hz) rfl (by decide) mw_469 hce hcv hcl ?_
      refine lv_astore_n (lv' := [(3, .ref q9), (0, .ref (ad 0)), (1, .int x1), (2, .ref (ad 115))]) F.1 F.2.1 dL_inRound_12 rfl hl (by decide) rfl (fun ls hl => ?_)
      refine lv_iconst (v := 1) F.1 F.2.1 dL_inRound_13 (by decide) ?_
      refine W.widen (k := 1) (n := 6) (Nat.le_of_ble_eq_true rfl) (Nat.le_of_ble_eq_true rfl) ?_
      exact W.iret (v := 1) F.1 F.2.1 hr (fun t ht hW => ⟨⟨_, (a, la, lo), rfl, hf, Z.wd E ht hW⟩, Z.fr ht⟩) Z.2.2.2 dL_inRound_14
  · obtain ⟨a1, la1⟩ := u
    have Z : ig_Z D kk ad bs s H locs a1 la1 b lb lo := Z
    refine lv_i2l F.1 F.2.1 dL_inRound_7 rfl ?_
    refine ig_last F E Z dL_inRound_8 (fun H locs Z => ?_)
    refine lv_goto (tgt := 15) F.1 F.2.1 dL_inRound_9 (by decide) ?_
    refine lv_iconst (v := 0) F.1 F.2.1 dL_inRound_15 (by decide) ?_
    refine W.widen (k := 1) (n := 6) (Nat.le_of_ble_eq_true rfl) (Nat.le_of_ble_eq_true rfl) ?_
    exact W.iret (v := 0) F.1 F.2.1 hr (fun t ht hW => ⟨⟨_, (a1, la1, r1.toInt64), rfl, hf, Z.wd E ht hW⟩, Z.fr ht⟩) Z.2.2.2 dL_inRound_16
end IGM
