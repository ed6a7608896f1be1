theorem md_L_low : ig_md yL_low 2 := by decide +kernel
theorem md_L_stop : ig_md yL_stop 1 := by decide +kernel
theorem GL_92 : GoodIn ig_all (va_wsS RL 92 yL_stop (ig_wsW yL_stop cL_stop 2 (some .int) [(0, 5, 6, 17)])) := ig_LW mw_414 mw_415 mw_409 mw_416
theorem md_L_press : ig_md yL_press 2 := by decide +kernel
theorem GL_98 : GoodIn ig_all (va_wsS RL 98 yL_press (ig_wsW yL_press cL_press 3 (some .int) [(0, 13, 14, 23)])) := ig_LW mw_417 mw_418 mw_409 mw_419
theorem md_L_ask : ig_md yL_ask 2 := by decide +kernel
theorem GL_103 : GoodIn ig_all (va_wsS RL 103 yL_ask (ig_wsW yL_ask cL_ask 3 (some .int) [(0, 6, 7, 23), (0, 6, 11, 17)])) := ig_LW mw_420 mw_421 mw_409 mw_422
theorem md_L_cancel : ig_md yL_cancel 1 := by decide +kernel
theorem GL_105 : GoodIn ig_all (va_wsS RL 105 yL_cancel (ig_wsW yL_cancel cL_cancel 2 (some .int) [(0, 4, 5, 17)])) := ig_LW mw_423 mw_424 mw_409 mw_425
theorem md_L_breaks : ig_md yL_breaks 4 := by decide +kernel
theorem GL_107 : GoodIn ig_all (va_wsS RL 107 yL_breaks (ig_wsW yL_breaks cL_breaks 5 (some .int) [(0, 15, 16, 23), (0, 15, 21, 14)])) := ig_LW mw_426 mw_427 mw_409 mw_428
theorem md_L_seen : ig_md yL_seen 3 := by decide +kernel
theorem GL_127 : GoodIn ig_all (va_wsS RL 127 yL_seen (ig_wsW yL_seen cL_seen 4 (some .int) [(0, 6, 7, 23), (0, 6, 11, 14)])) := ig_LW mw_438 mw_439 mw_409 mw_440
theorem md_L_go : ig_md yL_go 2 := by decide +kernel
theorem GL_110 : GoodIn ig_all (va_wsS RL 110 yL_go (ig_wsW yL_go cL_go 3 (some .int) [(0, 5, 6, 14), (0, 5, 10, 17)])) := ig_LW mw_445 mw_446 mw_409 mw_447
theorem md_L_inRound : ig_md yL_inRound 2 := by decide +kernel
theorem GL_134 : GoodIn ig_all (va_wsS RL 134 yL_inRound (ig_wsW yL_inRound cL_inRound 3 (some .int) [(0, 5, 6, 23)])) := ig_LW mw_448 mw_449 mw_409 mw_450
theorem md_L_change : ig_md yL_change 3 := by decide +kernel
theorem GL_129 : GoodIn ig_all (va_wsS RL 129 yL_change (ig_wsW yL_change cL_change 4 (some .int) [(0, 6, 7, 23)])) := ig_LW mw_451 mw_452 mw_409 mw_453
theorem md_L_of : ig_md yL_of 2 := by decide +kernel
theorem GL_116 : GoodIn ig_all (va_wsS RL 116 yL_of (ig_wsW yL_of cL_of 3 (some .int) [(0, 5, 6, 14)])) := ig_LW mw_454 mw_455 mw_409 mw_456
theorem md_L_ofPhase : ig_md yL_ofPhase 3 := by decide +kernel
theorem GL_114 : GoodIn ig_all (va_wsS RL 114 yL_ofPhase (ig_wsW yL_ofPhase cL_ofPhase 4 (some .int) [(0, 6, 7, 23), (0, 6, 11, 14)])) := ig_LW mw_457 mw_458 mw_409 mw_459
theorem md_L_lamp : ig_md yL_lamp 3 := by decide +kernel
theorem GL_112 : GoodIn ig_all (va_wsS RL 112 yL_lamp (ig_wsW yL_lamp cL_lamp 4 (some .int) [(0, 6, 7, 23)])) := ig_LW mw_460 mw_461 mw_409 mw_462
theorem md_L_arrive : ig_md yL_arrive 3 := by decide +kernel
theorem GL_100 : GoodIn ig_all (va_wsS RL 100 yL_arrive (ig_wsW yL_arrive cL_arrive 4 (some .int) [(0, 6, 7, 23), (0, 6, 11, 14), (0, 6, 15, 17)])) := ig_LW mw_463 mw_464 mw_409 mw_465
theorem md_L_start : ig_md yL_start 2 := by decide +kernel
theorem GL_90 : GoodIn ig_all (va_wsS RL 90 yL_start (ig_wsW yL_start cL_start 3 (some .int) [(0, 6, 7, 23), (0, 6, 11, 17)])) := ig_LW mw_466 mw_467 mw_409 mw_468
theorem md_L_stage : ig_md yL_stage 2 := by decide +kernel
theorem GL_87 : GoodIn ig_all (va_wsS RL 87 yL_stage (ig_wsW yL_stage cL_stage 3 (some .int) [(0, 5, 6, 14), (0, 5, 10, 17)])) := ig_LW mw_469 mw_470 mw_409 mw_471
theorem md_L_meet : ig_md yL_meet 5 := by decide +kernel
theorem GL_84 : GoodIn ig_all (va_wsS RL 84 yL_meet (ig_wsW yL_meet cL_meet 6 (some .int) [(0, 10, 11, 23), (0, 10, 16, 14), (0, 10, 21, 17)])) := ig_LW mw_472 mw_473 mw_409 mw_474
theorem md_L_phase : ig_md yL_phase 4 := by decide +kernel
theorem GL_81 : GoodIn ig_all (va_wsS RL 81 yL_phase (ig_wsW yL_phase cL_phase 5 (some .int) [(0, 7, 8, 14), (0, 7, 13, 17)])) := ig_LW mw_475 mw_476 mw_409 mw_477
theorem md_L_isSafe : ig_md yL_isSafe 4 := by decide +kernel
theorem md_L_cell : ig_md yL_cell 2 := by decide +kernel
theorem md_L_prepare : ig_md yL_prepare 2 := by decide +kernel
theorem md_L_isSo : ig_md yL_isSo 2 := by decide +kernel
theorem md_L_act : ig_md yL_act 2 := by decide +kernel
theorem md_L_areAlike : ig_md yL_areAlike 3 := by decide +kernel
section IGM
variable {p : Program} {l : Launch} {e : Env} {s : State} {m : MethodId} {args : Array Value} {below : List Frame} {meth : Method} {c : Code}
variable {D : va_G} {kk : Nat → ClassId} {ad : Nat → Nat} {bs : Nat} {a b a9 : ig_M} {la lb lo la9 : Int64}
set_option maxHeartbeats 4000000 in
set_option maxRecDepth 100000 in
theorem k_X5_delayEach (l : Launch) {D : va_G} {kk : Nat → ClassId} {ad : Nat → Nat} {bs : Nat} {a : ig_M} {la : Int64} {b : ig_M} {lb lo : Int64} {post : UInt32 → Prop} (hf : wp_X5_delayEach a la post) : MetD lw_cs l yX5_delayEach (ig_ws yX5_delayEach cX5_delayEach 1 (some .float)) (k2_rm 0 0) (va_Pc [.ref (ad 0)] (ig_Wd D kk ad bs a la b lb lo)) (va_Qf (fun (r : UInt32) (_ : Unit) => post r) (fun _ t => ig_Wd D kk ad bs a la b lb lo t) (ig_A bs)) 0 0 (ig_A bs) := by
  refine MetD.ofW (cc := cX5_delayEach) (maxL := 1) (ret := some .float) (by decide) rfl ?_
  intro p e s m args below meth c s₁ B hml hv hd0
  obtain ⟨rfl, E, hP⟩ := hv
  have hk := B.notSynchronized
  have hr := B.returns
  have F : CallFix p m c cX5_delayEach 1 s _ ig_all RX5 := ⟨B.exec, B.bytes, hml, findClass_of_methodNamed B.named, fun w hw => atoms_spec B.pre w (List.mem_cons_of_mem _ hw)⟩
  have Z : ig_Z D kk ad bs s s.heap [] a la b lb lo := ig_Z.rf hP
  have hl := lv_entry ([.ref (ad 0)]) (n := 1) (Nat.le_of_ble_eq_true rfl)
  rw [lg_entry_eq]
  generalize (lg_sl ([.ref (ad 0)]) ++ List.replicate (1 - (lg_sl ([.ref (ad 0)])).length) Slot.unset).toArray = ls at hl ⊢
  have hl : lv_has ls 1 [(0, .ref (ad 0))] := hl
  have F := ig_Fd F s.drawn
  have E := ig_Ed E s.drawn
  have Z := ig_Zd Z s.drawn
  refine lv_aload_n F.1 F.2.1 dX5_delayEach_0 rfl (lv_at hl 0 rfl) ?_
  refine gf_X5_28 F E Z dX5_delayEach_1 ?_
  refine gf_X5_162 F E Z dX5_delayEach_4 ?_
  refine lv_if_ne (tgt := 12) F.1 F.2.1 dX5_delayEach_7 (by decide) (fun c_1 => ?_) (fun c_1 => ?_)
  · have hf := hf.1 c_1
    refine lv_aload_n F.1 F.2.1 dX5_delayEach_12 rfl (lv_at hl 0 rfl) ?_
    refine gf_X5_28 F E Z dX5_delayEach_13 ?_
    refine gf_X5_183 F E Z dX5_delayEach_16 ?_
    refine lv_l2f F.1 F.2.1 dX5_delayEach_19 ?_
    refine lv_aload_n F.1 F.2.1 dX5_delayEach_20 rfl (lv_at hl 0 rfl) ?_
    refine gf_X5_28 F E Z dX5_delayEach_21 ?_
    refine gf_X5_162 F E Z dX5_delayEach_24 ?_
    refine lv_i2f F.1 F.2.1 dX5_delayEach_27 ?_
    refine lv_fdiv_any hd0 lw_bits F.1 F.2.1 dX5_delayEach_28 (fun r2 d2 hal2 hd2 => ?_)
    have hf := hf r2 hal2
    have F := ig_Fd F d2
    have E := ig_Ed E d2
    have Z := ig_Zd Z d2
    refine W.endD hd2 ?_
    exact W.fret F.1 F.2.1 hr (fun t ht hW => ⟨⟨r2, (), rfl, hf, Z.wd E ht hW⟩, Z.fr ht⟩) Z.2.2.2 dX5_delayEach_29
  · have hf := hf.2 c_1
    refine lv_fconst0 F.1 F.2.1 dX5_delayEach_10 ?_
    refine W.endD hd0 ?_
    exact W.fret F.1 F.2.1 hr (fun t ht hW => ⟨⟨FP.fconst0, (), rfl, hf, Z.wd E ht hW⟩, Z.fr ht⟩) Z.2.2.2 dX5_delayEach_11
set_option maxHeartbeats 4000000 in
set_option maxRecDepth 100000 in
theorem k_L_cell (l : Launch) {D : va_G} {kk : Nat → ClassId} {ad : Nat → Nat} {bs : Nat} {a : ig_M} {la : Int64} {b : ig_M} {lb lo : Int64} {b0 Ln : Nat} {xs : Nat → Int32} (x1 : Int32) {post : Int32 → Prop} (hf : wp_L_cell xs Ln x1 post) : Met l yL_cell (ig_ws yL_cell cL_cell 2 (some .int)) ({ frames := 0, cells := 0, slots := 0, locals := 0 } : Room) (va_Pc [.ref b0, .int x1] (ig_WX D kk ad bs a la b lb lo b0 Ln xs)) (va_Qi (fun (r : Int32) (u : Unit) => post r) (fun u t => ig_Wd D kk ad bs a la b lb lo t) (ig_A bs)) 0 0 (ig_A bs) := by
  refine Met.ofW (cc := cL_cell) (maxL := 2) (ret := (some .int)) (by decide) rfl ?_
  intro p e s m args below meth c s₁ B hml hv
  obtain ⟨rfl, ⟨E, hP⟩, hX, hbA⟩ := hv
  have hbl : b0 < s.heap.size := (Array.getElem?_eq_some_iff.mp hX.choose_spec.1).1
  have hk := B.notSynchronized
  have hr := B.returns
  have F : CallFix p m c cL_cell 2 s _ ig_all RL := ⟨B.exec, B.bytes, hml, findClass_of_methodNamed B.named, fun w hw => atoms_spec B.pre w (List.mem_cons_of_mem _ hw)⟩
  have Z : ig_Z D kk ad bs s s.heap [] a la b lb lo := ig_Z.rf hP
  have hl := lv_entry ([.ref b0, .int x1]) (n := 2) (Nat.le_of_ble_eq_true rfl)
  rw [lg_entry_eq]
  generalize (lg_sl ([.ref b0, .int x1]) ++ List.replicate (2 - (lg_sl ([.ref b0, .int x1])).length) Slot.unset).toArray = ls at hl ⊢
  have hl : lv_has ls 2 [(0, .ref b0), (1, .int x1)] := hl
  refine lv_iload_n F.1 F.2.1 dL_cell_0 rfl (lv_at hl 1 rfl) ?_
  refine lv_aload_n F.1 F.2.1 dL_cell_1 rfl (lv_at hl 0 rfl) ?_
  refine va_slen F.1 F.2.1 hX hbl hbA Z.2 dL_cell_2 ?_
  refine lv_icmp_ge (tgt := 12) F.1 F.2.1 dL_cell_3 (by decide) (fun c_1 => ?_) (fun c_1 => ?_)
  · have hf := hf.1 c_1
    refine lv_sipush (v := 7919) F.1 F.2.1 dL_cell_12 (by decide) ?_
    refine lv_iload_n F.1 F.2.1 dL_cell_15 rfl (lv_at hl 1 rfl) ?_
    refine lv_sipush (v := 3023) F.1 F.2.1 dL_cell_16 (by decide) ?_
    refine lv_iadd F.1 F.2.1 dL_cell_19 ?_
    refine lv_imul F.1 F.2.1 dL_cell_20 ?_
    refine lv_iload_n F.1 F.2.1 dL_cell_21 rfl (lv_at hl 1 rfl) ?_
    refine lv_sipush (v := 709) F.1 F.2.1 dL_cell_22 (by decide) ?_
    refine lv_iadd F.1 F.2.1 dL_cell_25 ?_
    refine lv_imul F.1 F.2.1 dL_cell_26 ?_
    refine W.widen (k := 0) (n := 0) (by omega) (by omega) ?_
    exact W.iret (v := (7919 * (x1 + 3023)) * (x1 + 709)) F.1 F.2.1 hr (fun t ht hW => ⟨⟨_, (), rfl, hf, Z.wd E ht hW⟩, Z.fr ht⟩) Z.2.2.2 dL_cell_27
  · have hf := hf.2 c_1
    refine lv_aload_n F.1 F.2.1 dL_cell_6 rfl (lv_at hl 0 rfl) ?_
    refine lv_iload_n F.1 F.2.1 dL_cell_7 rfl (lv_at hl 1 rfl) ?_
    have hv2 := hf.1
    have hf := hf.2
    refine va_sld F.1 F.2.1 hX hbl hbA Z.2 hv2 dL_cell_8 ?_
    refine lv_goto (tgt := 27) F.1 F.2.1 dL_cell_9 (by decide) ?_
    refine W.widen (k := 0) (n := 0) (by omega) (by omega) ?_
    exact W.iret (v := xs x1.toNatClampNeg) F.1 F.2.1 hr (fun t ht hW => ⟨⟨_, (), rfl, hf, Z.wd E ht hW⟩, Z.fr ht⟩) Z.2.2.2 dL_cell_27
set_option maxHeartbeats 4000000 in
set_option maxRecDepth 100000 in
theorem k_L_low (l : Launch) {D : va_G} {kk : Nat → ClassId} {ad : Nat → Nat} {bs : Nat} {a : ig_M} {la : Int64} {b : ig_M} {lb lo : Int64} (x0 : Int32) (x1 : Int32) {post : Int32 → Prop} (hf : wp_L_low x0 x1 post) : Met l yL_low (ig_ws yL_low cL_low 2 (some .int)) ({ frames := 0, cells := 0, slots := 0, locals := 0 } : Room) (va_Pc [.int x0, .int x1] (ig_Wd D kk ad bs a la b lb lo)) (va_Qi (fun (r : Int32) (u : Unit) => post r) (fun u t => ig_Wd D kk ad bs a la b lb lo t) (ig_A bs)) 0 0 (ig_A bs) := by
  refine Met.ofW (cc := cL_low) (maxL := 2) (ret := (some .int)) (by decide) rfl ?_
  intro p e s m args below meth c s₁ B hml hv
  obtain ⟨rfl, E, hP⟩ := hv
  have hk := B.notSynchronized
  have hr := B.returns
  have F : CallFix p m c cL_low 2 s _ ig_all RL := ⟨B.exec, B.bytes, hml, findClass_of_methodNamed B.named, fun w hw => atoms_spec B.pre w (List.mem_cons_of_mem _ hw)⟩
  have Z : ig_Z D kk ad bs s s.heap [] a la b lb lo := ig_Z.rf hP
  have hl := lv_entry ([.int x0, .int x1]) (n := 2) (Nat.le_of_ble_eq_true rfl)
  rw [lg_entry_eq]
  generalize (lg_sl ([.int x0, .int x1]) ++ List.replicate (2 - (lg_sl ([.int x0, .int x1])).length) Slot.unset).toArray = ls at hl ⊢
  have hl : lv_has ls 2 [(0, .int x0), (1, .int x1)] := hl
  refine lv_iload_n F.1 F.2.1 dL_low_0 rfl (lv_at hl 0 rfl) ?_
  refine lv_ldc (v := 2147483647) F.1 F.2.1 F.2.2.2.1 (F.2.2.2.2 _ mw_333) dL_low_1 ?_
  refine lv_iand F.1 F.2.1 dL_low_3 ?_
  refine lv_iload_n F.1 F.2.1 dL_low_4 rfl (lv_at hl 1 rfl) ?_
  have hz1 := hf.1
  have hf := hf.2
  refine lv_irem F.1 F.2.1 dL_low_5 hz1 ?_
  refine W.widen (k := 0) (n := 0) (by omega) (by omega) ?_
  exact W.iret (v := (x0 &&& 2147483647) - (x0 &&& 2147483647) / x1 * x1) F.1 F.2.1 hr (fun t ht hW => ⟨⟨_, (), rfl, hf, Z.wd E ht hW⟩, Z.fr ht⟩) Z.2.2.2 dL_low_6
set_option maxHeartbeats 4000000 in
set_option maxRecDepth 100000 in
theorem k_L_phase (l : Launch) {D : va_G} {kk : Nat → ClassId} {ad : Nat → Nat} {bs : Nat} {a : ig_M} {la : Int64} {b : ig_M} {lb lo : Int64} (x1 : Int32) (x2 : Int32) (x3 : Int32) (hlt : l.stackTraces = false) {post : Int32 → ig_M → Int64 → Prop} (hf : wp_L_phase a la x1 x2 x3 post) : Met l yL_phase (ig_wsW yL_phase cL_phase 5 (some .int) [(0, 7, 8, 14), (0, 7, 13, 17)]) ({ frames := 7, cells := 1, slots := 6, locals := 113 } : Room) (va_Pc [.ref (ad 0), .int x1, .int x2, .int x3] (ig_Wd D kk ad bs a la b lb lo)) (va_Qi (fun (r : Int32) (u : ig_M × Int64) => post r u.1 u.2) (fun u t => ig_Wd D kk ad bs u.1 u.2 b lb lo t) (ig_A bs)) 1 6 (ig_A bs) := by
  refine ig_ofWH (cc := cL_phase) (maxL := 5) (ret := (some .int)) (hh := [(0, 7, 8, 14), (0, 7, 13, 17)]) (by decide) rfl ?_
  intro p e s m args below meth c s₁ B hml htab hv
  obtain ⟨rfl, E, hP⟩ := hv
  have hk := B.notSynchronized
  have hr := B.returns
  have F : CallFix p m c cL_phase 5 s _ ig_all RL := ⟨B.exec, B.bytes, hml, findClass_of_methodNamed B.named, fun w hw => atoms_spec B.pre w (List.mem_cons_of_mem _ hw)⟩
  have Z : ig_Z D kk ad bs s s.heap [] a la b lb lo := ig_Z.rf hP
  have hl := lv_entry ([.ref (ad 0), .int x1, .int x2, .int x3]) (n := 5) (Nat.le_of_ble_eq_true rfl)
  rw [lg_entry_eq]
  generalize (lg_sl ([.ref (ad 0), .int x1, .int x2, .int x3]) ++ List.replicate (5 - (lg_sl ([.ref (ad 0), .int x1, .int x2, .int x3])).length) Slot.unset).toArray = ls at hl ⊢
  have hl : lv_has ls 5 [(0, .ref (ad 0)), (1, .int x1), (2, .int x2), (3, .int x3)] := hl
  refine lv_aload_n F.1 F.2.1 dL_phase_0 rfl (lv_at hl 0 rfl) ?_
  refine lv_iload_n F.1 F.2.1 dL_phase_1 rfl (lv_at hl 1 rfl) ?_
  refine lv_iload_n F.1 F.2.1 dL_phase_2 rfl (lv_at hl 2 rfl) ?_
  refine lv_iload_n F.1 F.2.1 dL_phase_3 rfl (lv_at hl 3 rfl) ?_
  have hM := k_X5_phase l (D := D) (kk := kk) (ad := ad) (bs := bs) (a := a) (la := la) (b := b) (lb := lb) (lo := lo) x1 x2 x3 hlt hf
  refine ig_callXi E Z (ig_runVX (As := [.int x1, .int x2, .int x3]) (rest := []) F E Z hl G_L_8 hM (i := 0) (by decide) (ig_k_0 _ _ _ _ _ _) rfl rfl md_X5_phase rfl ⟨rfl, rfl⟩ ⟨Nat.le_of_ble_eq_true rfl, Nat.le_of_ble_eq_true rfl⟩ (Nat.le_of_ble_eq_true rfl) dL_phase_4 ⟨(by show _ ≤ 1; omega), (by show _ ≤ 6; omega)⟩) (fun u q9 ce H locs hu Z hce hcv hcl => ?_) (fun r1 u H locs hf Z => ?_)
  · rcases hu with ⟨rfl, hf⟩ | ⟨rfl, hf⟩
    · refine ig_catch F E htab 0 [] [⟨0, 7, 13, 17⟩] ⟨0, 7, 8, 14⟩ rfl (by decide) (fun z hz => nomatch hz) rfl (by decide) mw_339 hce hcv hcl ?_
      refine lv_astore (lv' := [(4, .ref q9), (0, .ref (ad 0)), (1, .int x1), (2, .int x2), (3, .int x3)]) F.1 F.2.1 dL_phase_8 hl (by decide) rfl (fun ls hl => ?_)
      refine lv_ldc (v := (-99999999)) F.1 F.2.1 F.2.2.2.1 (F.2.2.2.2 _ mw_338) dL_phase_10 ?_
      refine W.widen (k := 1) (n := 6) (by omega) (by omega) ?_
      exact W.iret (v := (-99999999)) F.1 F.2.1 hr (fun t ht hW => ⟨⟨_, (a, la), rfl, hf, Z.wd E ht hW⟩, Z.fr ht⟩) Z.2.2.2 dL_phase_12
    · refine ig_catch F E htab 1 [⟨0, 7, 8, 14⟩] [] ⟨0, 7, 13, 17⟩ rfl (by decide) (List.forall_mem_cons.mpr ⟨⟨by decide, "java/lang/IllegalArgumentException", mw_339, by decide +kernel⟩, (fun z hz => nomatch hz)⟩) rfl (by decide) mw_340 hce hcv hcl ?_
      refine lv_astore (lv' := [(4, .ref q9), (0, .ref (ad 0)), (1, .int x1), (2, .int x2), (3, .int x3)]) F.1 F.2.1 dL_phase_13 hl (by decide) rfl (fun ls hl => ?_)
      refine lv_ldc (v := (-99999999)) F.1 F.2.1 F.2.2.2.1 (F.2.2.2.2 _ mw_338) dL_phase_15 ?_
      refine W.widen (k := 1) (n := 6) (by omega) (by omega) ?_
      exact W.iret (v := (-99999999)) F.1 F.2.1 hr (fun t ht hW => ⟨⟨_, (a, la), rfl, hf, Z.wd E ht hW⟩, Z.fr ht⟩) Z.2.2.2 dL_phase_17
  · obtain ⟨a2, la3⟩ := u
    have Z : ig_Z D kk ad bs s H locs a2 la3 b lb lo := Z
    refine W.widen (k := 1) (n := 6) (by omega) (by omega) ?_
    exact W.iret (v := r1) F.1 F.2.1 hr (fun t ht hW => ⟨⟨_, (a2, la3), rfl, hf, Z.wd E ht hW⟩, Z.fr ht⟩) Z.2.2.2 dL_phase_7
set_option maxHeartbeats 4000000 in
set_option maxRecDepth 100000 in
theorem k_L_meet (l : Launch) {D : va_G} {kk : Nat → ClassId} {ad : Nat → Nat} {bs : Nat} {a : ig_M} {la : Int64} {b : ig_M} {lb lo : Int64} (x1 : Int32) (x2 : Int32) (x3 : Int32) (x4 : Int32) (hlt : l.stackTraces = false) {post : Int32 → ig_M → Int64 → Prop} (hf : wp_L_meet a la x1 x2 x3 x4 post) : Met l yL_meet (ig_wsW yL_meet cL_meet 6 (some .int) [(0, 10, 11, 23), (0, 10, 16, 14), (0, 10, 21, 17)]) ({ frames := 8, cells := 3, slots := 18, locals := 135 } : Room) (va_Pc [.ref (ad 0), .int x1, .int x2, .int x3, .int x4] (ig_Wd D kk ad bs a la b lb lo)) (va_Qi (fun (r : Int32) (u : ig_M × Int64) => post r u.1 u.2) (fun u t => ig_Wd D kk ad bs u.1 u.2 b lb lo t) (ig_A bs)) 3 18 (ig_A bs) := by
  refine ig_ofWH (cc := cL_meet) (maxL := 6) (ret := (some .int)) (hh := [(0, 10, 11, 23), (0, 10, 16, 14), (0, 10, 21, 17)]) (by decide) rfl ?_
  intro p e s m args below meth c s₁ B hml htab hv
  obtain ⟨rfl, E, hP⟩ := hv
  have hk := B.notSynchronized
  have hr := B.returns
  have F : CallFix p m c cL_meet 6 s _ ig_all RL := ⟨B.exec, B.bytes, hml, findClass_of_methodNamed B.named, fun w hw => atoms_spec B.pre w (List.mem_cons_of_mem _ hw)⟩
  have Z : ig_Z D kk ad bs s s.heap [] a la b lb lo := ig_Z.rf hP
  have hl := lv_entry ([.ref (ad 0), .int x1, .int x2, .int x3, .int x4]) (n := 6) (Nat.le_of_ble_eq_true rfl)
  rw [lg_entry_eq]
  generalize (lg_sl ([.ref (ad 0), .int x1, .int x2, .int x3, .int x4]) ++ List.replicate (6 - (lg_sl ([.ref (ad 0), .int x1, .int x2, .int x3, .int x4])).length) Slot.unset).toArray = ls at hl ⊢
  have hl : lv_has ls 6 [(0, .ref (ad 0)), (1, .int x1), (2, .int x2), (3, .int x3), (4, .int x4)] := hl
  refine lv_aload_n F.1 F.2.1 dL_meet_0 rfl (lv_at hl 0 rfl) ?_
  refine lv_iload_n F.1 F.2.1 dL_meet_1 rfl (lv_at hl 1 rfl) ?_
  refine lv_iload_n F.1 F.2.1 dL_meet_2 rfl (lv_at hl 2 rfl) ?_
  refine lv_iload_n F.1 F.2.1 dL_meet_3 rfl (lv_at hl 3 rfl) ?_
  refine lv_iload F.1 F.2.1 dL_meet_4 (lv_at hl 4 rfl) ?_
  have hM := k_X5_meet l (D := D) (kk := kk) (ad := ad) (bs := bs) (a := a) (la := la) (b := b) (lb := lb) (lo := lo) x1 x2 x3 x4 hlt hf
  refine ig_callXv E Z (ig_runVX (As := [.int x1, .int x2, .int x3, .int x4]) (rest := []) F E Z hl G_L_19 hM (i := 0) (by decide) (ig_k_0 _ _ _ _ _ _) rfl rfl md_X5_meet rfl ⟨rfl, rfl⟩ ⟨Nat.le_of_ble_eq_true rfl, Nat.le_of_ble_eq_true rfl⟩ (Nat.le_of_ble_eq_true rfl) dL_meet_6 ⟨(by show _ ≤ 3; omega), (by show _ ≤ 18; omega)⟩) (fun u q9 ce H locs hu Z hce hcv hcl => ?_) (fun u H locs hf Z => ?_)
  · rcases hu with ⟨rfl, hf⟩ | ⟨rfl, hf⟩ | ⟨rfl, hf⟩
    · refine ig_catch F E htab 2 [] [⟨0, 10, 16, 14⟩, ⟨0, 10, 21, 17⟩] ⟨0, 10, 11, 23⟩ rfl (by decide) (fun z hz => nomatch hz) rfl (by decide) mw_345 hce hcv hcl ?_
      refine lv_astore (lv' := [(5, .ref q9), (0, .ref (ad 0)), (1, .int x1), (2, .int x2), (3, .int x3), (4, .int x4)]) F.1 F.2.1 dL_meet_11 hl (by decide) rfl (fun ls hl => ?_)
      refine lv_ldc (v := (-99999999)) F.1 F.2.1 F.2.2.2.1 (F.2.2.2.2 _ mw_338) dL_meet_13 ?_
      refine W.widen (k := 3) (n := 18) (by omega) (by omega) ?_
      exact W.iret (v := (-99999999)) F.1 F.2.1 hr (fun t ht hW => ⟨⟨_, (a, la), rfl, hf, Z.wd E ht hW⟩, Z.fr ht⟩) Z.2.2.2 dL_meet_15
    · refine ig_catch F E htab 0 [⟨0, 10, 11, 23⟩] [⟨0, 10, 21, 17⟩] ⟨0, 10, 16, 14⟩ rfl (by decide) (List.forall_mem_cons.mpr ⟨⟨by decide, "java/lang/IndexOutOfBoundsException", mw_345, by decide +kernel⟩, (fun z hz => nomatch hz)⟩) rfl (by decide) mw_339 hce hcv hcl ?_
      refine lv_astore (lv' := [(5, .ref q9), (0, .ref (ad 0)), (1, .int x1), (2, .int x2), (3, .int x3), (4, .int x4)]) F.1 F.2.1 dL_meet_16 hl (by decide) rfl (fun ls hl => ?_)
      refine lv_ldc (v := (-99999999)) F.1 F.2.1 F.2.2.2.1 (F.2.2.2.2 _ mw_338) dL_meet_18 ?_
      refine W.widen (k := 3) (n := 18) (by omega) (by omega) ?_
      exact W.iret (v := (-99999999)) F.1 F.2.1 hr (fun t ht hW => ⟨⟨_, (a, la), rfl, hf, Z.wd E ht hW⟩, Z.fr ht⟩) Z.2.2.2 dL_meet_20
    · refine ig_catch F E htab 1 [⟨0, 10, 11, 23⟩, ⟨0, 10, 16, 14⟩] [] ⟨0, 10, 21, 17⟩ rfl (by decide) (List.forall_mem_cons.mpr ⟨⟨by decide, "java/lang/IndexOutOfBoundsException", mw_345, by decide +kernel⟩, (List.forall_mem_cons.mpr ⟨⟨by decide, "java/lang/IllegalArgumentException", mw_339, by decide +kernel⟩, (fun z hz => nomatch hz)⟩)⟩) rfl (by decide) mw_340 hce hcv hcl ?_
      refine lv_astore (lv' := [(5, .ref q9), (0, .ref (ad 0)), (1, .int x1), (2, .int x2), (3, .int x3), (4, .int x4)]) F.1 F.2.1 dL_meet_21 hl (by decide) rfl (fun ls hl => ?_)
      refine lv_ldc (v := (-99999999)) F.1 F.2.1 F.2.2.2.1 (F.2.2.2.2 _ mw_338) dL_meet_23 ?_
      refine W.widen (k := 3) (n := 18) (by omega) (by omega) ?_
      exact W.iret (v := (-99999999)) F.1 F.2.1 hr (fun t ht hW => ⟨⟨_, (a, la), rfl, hf, Z.wd E ht hW⟩, Z.fr ht⟩) Z.2.2.2 dL_meet_25
  · obtain ⟨a1, la2⟩ := u
    have Z : ig_Z D kk ad bs s H locs a1 la2 b lb lo := Z
    refine lv_iconst (v := 0) F.1 F.2.1 dL_meet_9 (by decide) ?_
    refine W.widen (k := 3) (n := 18) (by omega) (by omega) ?_
    exact W.iret (v := 0) F.1 F.2.1 hr (fun t ht hW => ⟨⟨_, (a1, la2), rfl, hf, Z.wd E ht hW⟩, Z.fr ht⟩) Z.2.2.2 dL_meet_10
set_option maxHeartbeats 4000000 in
set_option maxRecDepth 100000 in
theorem k_L_stage (l : Launch) {D : va_G} {kk : Nat → ClassId} {ad : Nat → Nat} {bs : Nat} {a : ig_M} {la : Int64} {b : ig_M} {lb lo : Int64} (x1 : Int32) (hlt : l.stackTraces = false) {post : Int32 → ig_M → Int64 → Prop} (hf : wp_L_stage a la x1 post) : Met l yL_stage (ig_wsW yL_stage cL_stage 3 (some .int) [(0, 5, 6, 14), (0, 5, 10, 17)]) ({ frames := 7, cells := 1, slots := 6, locals := 111 } : Room) (va_Pc [.ref (ad 0), .int x1] (ig_Wd D kk ad bs a la b lb lo)) (va_Qi (fun (r : Int32) (u : ig_M × Int64) => post r u.1 u.2) (fun u t => ig_Wd D kk ad bs u.1 u.2 b lb lo t) (ig_A bs)) 1 6 (ig_A bs) := by
  refine ig_ofWH (cc := cL_stage) (maxL := 3) (ret := (some .int)) (hh := [(0, 5, 6, 14), (0, 5, 10, 17)]) (by decide) rfl ?_
  intro p e s m args below meth c s₁ B hml htab hv
  obtain ⟨rfl, E, hP⟩ := hv
  have hk := B.notSynchronized
  have hr := B.returns
  have F : CallFix p m c cL_stage 3 s _ ig_all RL := ⟨B.exec, B.bytes, hml, findClass_of_methodNamed B.named, fun w hw => atoms_spec B.pre w (List.mem_cons_of_mem _ hw)⟩
  have Z : ig_Z D kk ad bs s s.heap [] a la b lb lo := ig_Z.rf hP
  have hl := lv_entry ([.ref (ad 0), .int x1]) (n := 3) (Nat.le_of_ble_eq_true rfl)
  rw [lg_entry_eq]
  generalize (lg_sl ([.ref (ad 0), .int x1]) ++ List.replicate (3 - (lg_sl ([.ref (ad 0), .int x1])).length) Slot.unset).toArray = ls at hl ⊢
  have hl : lv_has ls 3 [(0, .ref (ad 0)), (1, .int x1)] := hl
  refine lv_aload_n F.1 F.2.1 dL_stage_0 rfl (lv_at hl 0 rfl) ?_
  refine lv_iload_n F.1 F.2.1 dL_stage_1 rfl (lv_at hl 1 rfl) ?_
  have hM := k_X5_stage l (D := D) (kk := kk) (ad := ad) (bs := bs) (a := a) (la := la) (b := b) (lb := lb) (lo := lo) x1 hlt hf
  refine ig_callXi E Z (ig_runVX (As := [.int x1]) (rest := []) F E Z hl G_L_25 hM (i := 0) (by decide) (ig_k_0 _ _ _ _ _ _) rfl rfl md_X5_stage rfl ⟨rfl, rfl⟩ ⟨Nat.le_of_ble_eq_true rfl, Nat.le_of_ble_eq_true rfl⟩ (Nat.le_of_ble_eq_true rfl) dL_stage_2 ⟨(by show _ ≤ 1; omega), (by show _ ≤ 6; omega)⟩) (fun u q9 ce H locs hu Z hce hcv hcl => ?_) (fun r1 u H locs hf Z => ?_)
  · rcases hu with ⟨rfl, hf⟩ | ⟨rfl, hf⟩
    · refine ig_catch F E htab 0 [] [⟨0, 5, 10, 17⟩] ⟨0, 5, 6, 14⟩ rfl (by decide) (fun z hz => nomatch hz) rfl (by decide) mw_339 hce hcv hcl ?_
      refine lv_astore_n (lv' := [(2, .ref q9), (0, .ref (ad 0)), (1, .int x1)]) F.1 F.2.1 dL_stage_6 rfl hl (by decide) rfl (fun ls hl => ?_)
      refine lv_ldc (v := (-99999999)) F.1 F.2.1 F.2.2.2.1 (F.2.2.2.2 _ mw_338) dL_stage_7 ?_
      refine W.widen (k := 1) (n := 6) (by omega) (by omega) ?_
      exact W.iret (v := (-99999999)) F.1 F.2.1 hr (fun t ht hW => ⟨⟨_, (a, la), rfl, hf, Z.wd E ht hW⟩, Z.fr ht⟩) Z.2.2.2 dL_stage_9
    · refine ig_catch F E htab 1 [⟨0, 5, 6, 14⟩] [] ⟨0, 5, 10, 17⟩ rfl (by decide) (List.forall_mem_cons.mpr ⟨⟨by decide, "java/lang/IllegalArgumentException", mw_339, by decide +kernel⟩, (fun z hz => nomatch hz)⟩) rfl (by decide) mw_340 hce hcv hcl ?_
      refine lv_astore_n (lv' := [(2, .ref q9), (0, .ref (ad 0)), (1, .int x1)]) F.1 F.2.1 dL_stage_10 rfl hl (by decide) rfl (fun ls hl => ?_)
      refine lv_ldc (v := (-99999999)) F.1 F.2.1 F.2.2.2.1 (F.2.2.2.2 _ mw_338) dL_stage_11 ?_
      refine W.widen (k := 1) (n := 6) (by omega) (by omega) ?_
      exact W.iret (v := (-99999999)) F.1 F.2.1 hr (fun t ht hW => ⟨⟨_, (a, la), rfl, hf, Z.wd E ht hW⟩, Z.fr ht⟩) Z.2.2.2 dL_stage_13
  · obtain ⟨a2, la3⟩ := u
    have Z : ig_Z D kk ad bs s H locs a2 la3 b lb lo := Z
    refine W.widen (k := 1) (n := 6) (by omega) (by omega) ?_
    exact W.iret (v := r1) F.1 F.2.1 hr (fun t ht hW => ⟨⟨_, (a2, la3), rfl, hf, Z.wd E ht hW⟩, Z.fr ht⟩) Z.2.2.2 dL_stage_5
set_option maxHeartbeats 4000000 in
set_option maxRecDepth 100000 in
theorem k_L_start (l : Launch) {D : va_G} {kk : Nat → ClassId} {ad : Nat → Nat} {bs : Nat} {a : ig_M} {la : Int64} {b : ig_M} {lb lo : Int64} (x1 : Int32) (hlt : l.stackTraces = false) {post : Int32 → ig_M → Int64 → Prop} (hf : wp_L_start a la x1 post) : Met l yL_start (ig_wsW yL_start cL_start 3 (some .int) [(0, 6, 7, 23), (0, 6, 11, 17)]) ({ frames := 8, cells := 2, slots := 12, locals := 132 } : Room) (va_Pc [.ref (ad 0), .int x1] (ig_Wd D kk ad bs a la b lb lo)) (va_Qi (fun (r : Int32) (u : ig_M × Int64) => post r u.1 u.2) (fun u t => ig_Wd D kk ad bs u.1 u.2 b lb lo t) (ig_A bs)) 2 12 (ig_A bs) := by
  refine ig_ofWH (cc := cL_start) (maxL := 3) (ret := (some .int)) (hh := [(0, 6, 7, 23), (0, 6, 11, 17)]) (by decide) rfl ?_
  intro p e s m args below meth c s₁ B hml htab hv
  obtain ⟨rfl, E, hP⟩ := hv
  have hk := B.notSynchronized
  have hr := B.returns
  have F : CallFix p m c cL_start 3 s _ ig_all RL := ⟨B.exec, B.bytes, hml, findClass_of_methodNamed B.named, fun w hw => atoms_spec B.pre w (List.mem_cons_of_mem _ hw)⟩
  have Z : ig_Z D kk ad bs s s.heap [] a la b lb lo := ig_Z.rf hP
  have hl := lv_entry ([.ref (ad 0), .int x1]) (n := 3) (Nat.le_of_ble_eq_true rfl)
  rw [lg_entry_eq]
  generalize (lg_sl ([.ref (ad 0), .int x1]) ++ List.replicate (3 - (lg_sl ([.ref (ad 0), .int x1])).length) Slot.unset).toArray = ls at hl ⊢
  have hl : lv_has ls 3 [(0, .ref (ad 0)), (1, .int x1)] := hl
  refine lv_aload_n F.1 F.2.1 dL_start_0 rfl (lv_at hl 0 rfl) ?_
  refine lv_iload_n F.1 F.2.1 dL_start_1 rfl (lv_at hl 1 rfl) ?_
  have hM := k_X5_start l (D := D) (kk := kk) (ad := ad) (bs := bs) (a := a) (la := la) (b := b) (lb := lb) (lo := lo) x1 hlt hf
  refine ig_callXv E Z (ig_runVX (As := [.int x1]) (rest := []) F E Z hl G_L_29 hM (i := 0) (by decide) (ig_k_0 _ _ _ _ _ _) rfl rfl md_X5_start rfl ⟨rfl, rfl⟩ ⟨Nat.le_of_ble_eq_true rfl, Nat.le_of_ble_eq_true rfl⟩ (Nat.le_of_ble_eq_true rfl) dL_start_2 ⟨(by show _ ≤ 2; omega), (by show _ ≤ 12; omega)⟩) (fun u q9 ce H locs hu Z hce hcv hcl => ?_) (fun u H locs hf Z => ?_)
  · rcases hu with ⟨rfl, hf⟩ | ⟨rfl, hf⟩
    · refine ig_catch F E htab 2 [] [⟨0, 6, 11, 17⟩] ⟨0, 6, 7, 23⟩ rfl (by decide) (fun z hz => nomatch hz) rfl (by decide) mw_345 hce hcv hcl ?_
      refine lv_astore_n (lv' := [(2, .ref q9), (0, .ref (ad 0)), (1, .int x1)]) F.1 F.2.1 dL_start_7 rfl hl (by decide) rfl (fun ls hl => ?_)
      refine lv_ldc (v := (-99999999)) F.1 F.2.1 F.2.2.2.1 (F.2.2.2.2 _ mw_338) dL_start_8 ?_
      refine W.widen (k := 2) (n := 12) (by omega) (by omega) ?_
      exact W.iret (v := (-99999999)) F.1 F.2.1 hr (fun t ht hW => ⟨⟨_, (a, la), rfl, hf, Z.wd E ht hW⟩, Z.fr ht⟩) Z.2.2.2 dL_start_10
    · refine ig_catch F E htab 1 [⟨0, 6, 7, 23⟩] [] ⟨0, 6, 11, 17⟩ rfl (by decide) (List.forall_mem_cons.mpr ⟨⟨by decide, "java/lang/IndexOutOfBoundsException", mw_345, by decide +kernel⟩, (fun z hz => nomatch hz)⟩) rfl (by decide) mw_340 hce hcv hcl ?_
      refine lv_astore_n (lv' := [(2, .ref q9), (0, .ref (ad 0)), (1, .int x1)]) F.1 F.2.1 dL_start_11 rfl hl (by decide) rfl (fun ls hl => ?_)
      refine lv_ldc (v := (-99999999)) F.1 F.2.1 F.2.2.2.1 (F.2.2.2.2 _ mw_338) dL_start_12 ?_
      refine W.widen (k := 2) (n := 12) (by omega) (by omega) ?_
      exact W.iret (v := (-99999999)) F.1 F.2.1 hr (fun t ht hW => ⟨⟨_, (a, la), rfl, hf, Z.wd E ht hW⟩, Z.fr ht⟩) Z.2.2.2 dL_start_14
  · obtain ⟨a1, la2⟩ := u
    have Z : ig_Z D kk ad bs s H locs a1 la2 b lb lo := Z
    refine lv_iconst (v := 0) F.1 F.2.1 dL_start_5 (by decide) ?_
    refine W.widen (k := 2) (n := 12) (by omega) (by omega) ?_
    exact W.iret (v := 0) F.1 F.2.1 hr (fun t ht hW => ⟨⟨_, (a1, la2), rfl, hf, Z.wd E ht hW⟩, Z.fr ht⟩) Z.2.2.2 dL_start_6
set_option maxHeartbeats 4000000 in
set_option maxRecDepth 100000 in
theorem k_L_stop (l : Launch) {D : va_G} {kk : Nat → ClassId} {ad : Nat → Nat} {bs : Nat} {a : ig_M} {la : Int64} {b : ig_M} {lb lo : Int64} (hlt : l.stackTraces = false) {post : Int32 → ig_M → Int64 → Prop} (hf : wp_L_stop a la post) : Met l yL_stop (ig_wsW yL_stop cL_stop 2 (some .int) [(0, 5, 6, 17)]) ({ frames := 7, cells := 1, slots := 6, locals := 110 } : Room) (va_Pc [.ref (ad 0)] (ig_Wd D kk ad bs a la b lb lo)) (va_Qi (fun (r : Int32) (u : ig_M × Int64) => post r u.1 u.2) (fun u t => ig_Wd D kk ad bs u.1 u.2 b lb lo t) (ig_A bs)) 1 6 (ig_A bs) := by
  refine ig_ofWH (cc := cL_stop) (maxL := 2) (ret := (some .int)) (hh := [(0, 5, 6, 17)]) (by decide) rfl ?_
  intro p e s m args below meth c s₁ B hml htab hv
  obtain ⟨rfl, E, hP⟩ := hv
  have hk := B.notSynchronized
  have hr := B.returns
  have F : CallFix p m c cL_stop 2 s _ ig_all RL := ⟨B.exec, B.bytes, hml, findClass_of_methodNamed B.named, fun w hw => atoms_spec B.pre w (List.mem_cons_of_mem _ hw)⟩
  have Z : ig_Z D kk ad bs s s.heap [] a la b lb lo := ig_Z.rf hP
  have hl := lv_entry ([.ref (ad 0)]) (n := 2) (Nat.le_of_ble_eq_true rfl)
  rw [lg_entry_eq]
  generalize (lg_sl ([.ref (ad 0)]) ++ List.replicate (2 - (lg_sl ([.ref (ad 0)])).length) Slot.unset).toArray = ls at hl ⊢
  have hl : lv_has ls 2 [(0, .ref (ad 0))] := hl
  refine lv_aload_n F.1 F.2.1 dL_stop_0 rfl (lv_at hl 0 rfl) ?_
  have hM := k_X5_stop l (D := D) (kk := kk) (ad := ad) (bs := bs) (a := a) (la := la) (b := b) (lb := lb) (lo := lo) hlt hf
  refine ig_callXv E Z (ig_runVX (As := []) (rest := []) F E Z hl G_L_33 hM (i := 0) (by decide) (ig_k_0 _ _ _ _ _ _) rfl rfl md_X5_stop rfl ⟨rfl, rfl⟩ ⟨Nat.le_of_ble_eq_true rfl, Nat.le_of_ble_eq_true rfl⟩ (Nat.le_of_ble_eq_true rfl) dL_stop_1 ⟨(by show _ ≤ 1; omega), (by show _ ≤ 6; omega)⟩) (fun u q9 ce H locs hu Z hce hcv hcl => ?_) (fun u H locs hf Z => ?_)
  · obtain ⟨rfl, hf⟩ := hu
    · refine ig_catch F E htab 1 [] [] ⟨0, 5, 6, 17⟩ rfl (by decide) (fun z hz => nomatch hz) rfl (by decide) mw_340 hce hcv hcl ?_
      refine lv_astore_n (lv' := [(1, .ref q9), (0, .ref (ad 0))]) F.1 F.2.1 dL_stop_6 rfl hl (by decide) rfl (fun ls hl => ?_)
      refine lv_ldc (v := (-99999999)) F.1 F.2.1 F.2.2.2.1 (F.2.2.2.2 _ mw_338) dL_stop_7 ?_
      refine W.widen (k := 1) (n := 6) (by omega) (by omega) ?_
      exact W.iret (v := (-99999999)) F.1 F.2.1 hr (fun t ht hW => ⟨⟨_, (a, la), rfl, hf, Z.wd E ht hW⟩, Z.fr ht⟩) Z.2.2.2 dL_stop_9
  · obtain ⟨a1, la2⟩ := u
    have Z : ig_Z D kk ad bs s H locs a1 la2 b lb lo := Z
    refine lv_iconst (v := 0) F.1 F.2.1 dL_stop_4 (by decide) ?_
    refine W.widen (k := 1) (n := 6) (by omega) (by omega) ?_
    exact W.iret (v := 0) F.1 F.2.1 hr (fun t ht hW => ⟨⟨_, (a1, la2), rfl, hf, Z.wd E ht hW⟩, Z.fr ht⟩) Z.2.2.2 dL_stop_5
set_option maxHeartbeats 4000000 in
set_option maxRecDepth 100000 in
theorem k_L_press (l : Launch) {D : va_G} {kk : Nat → ClassId} {ad : Nat → Nat} {bs : Nat} {a : ig_M} {la : Int64} {b : ig_M} {lb lo : Int64} (x1 : Int32) (hlt : l.stackTraces = false) {post : Int32 → ig_M → Int64 → Prop} (hf : wp_L_press a la x1 post) : Met l yL_press (ig_wsW yL_press cL_press 3 (some .int) [(0, 13, 14, 23)]) ({ frames := 8, cells := 1, slots := 6, locals := 133 } : Room) (va_Pc [.ref (ad 0), .int x1] (ig_Wd D kk ad bs a la b lb lo)) (va_Qi (fun (r : Int32) (u : ig_M × Int64) => post r u.1 u.2) (fun u t => ig_Wd D kk ad bs u.1 u.2 b lb lo t) (ig_A bs)) 1 6 (ig_A bs) := by
  refine ig_ofWH (cc := cL_press) (maxL := 3) (ret := (some .int)) (hh := [(0, 13, 14, 23)]) (by decide) rfl ?_
  intro p e s m args below meth c s₁ B hml htab hv
  obtain ⟨rfl, E, hP⟩ := hv
  have hk := B.notSynchronized
  have hr := B.returns
  have F : CallFix p m c cL_press 3 s _ ig_all RL := ⟨B.exec, B.bytes, hml, findClass_of_methodNamed B.named, fun w hw => atoms_spec B.pre w (List.mem_cons_of_mem _ hw)⟩
  have Z : ig_Z D kk ad bs s s.heap [] a la b lb lo := ig_Z.rf hP
  have hl := lv_entry ([.ref (ad 0), .int x1]) (n := 3) (Nat.le_of_ble_eq_true rfl)
  rw [lg_entry_eq]
  generalize (lg_sl ([.ref (ad 0), .int x1]) ++ List.replicate (3 - (lg_sl ([.ref (ad 0), .int x1])).length) Slot.unset).toArray = ls at hl ⊢
  have hl : lv_has ls 3 [(0, .ref (ad 0)), (1, .int x1)] := hl
  refine lv_aload_n F.1 F.2.1 dL_press_0 rfl (lv_at hl 0 rfl) ?_
  refine lv_iload_n F.1 F.2.1 dL_press_1 rfl (lv_at hl 1 rfl) ?_
  have hM := k_X5_press l (D := D) (kk := kk) (ad := ad) (bs := bs) (a := a) (la := la) (b := b) (lb := lb) (lo := lo) x1 hlt hf
  refine ig_callXi E Z (ig_runVX (As := [.int x1]) (rest := []) F E Z hl G_L_36 hM (i := 0) (by decide) (ig_k_0 _ _ _ _ _ _) rfl rfl md_X5_press rfl ⟨rfl, rfl⟩ ⟨Nat.le_of_ble_eq_true rfl, Nat.le_of_ble_eq_true rfl⟩ (Nat.le_of_ble_eq_true rfl) dL_press_2 ⟨(by show _ ≤ 1; omega), (by show _ ≤ 6; omega)⟩) (fun u q9 ce H locs hu Z hce hcv hcl => ?_) (fun r1 u H locs hf Z => ?_)
  · obtain ⟨rfl, hf⟩ := hu
    · refine ig_catch F E htab 2 [] [] ⟨0, 13, 14, 23⟩ rfl (by decide) (fun z hz => nomatch hz) rfl (by decide) mw_345 hce hcv hcl ?_
      refine lv_astore_n (lv' := [(2, .ref q9), (0, .ref (ad 0)), (1, .int x1)]) F.1 F.2.1 dL_press_14 rfl hl (by decide) rfl (fun ls hl => ?_)
      refine lv_ldc (v := (-99999999)) F.1 F.2.1 F.2.2.2.1 (F.2.2.2.2 _ mw_338) dL_press_15 ?_
      refine W.widen (k := 1) (n := 6) (by omega) (by omega) ?_
      exact W.iret (v := (-99999999)) F.1 F.2.1 hr (fun t ht hW => ⟨⟨_, (a, la), rfl, hf, Z.wd E ht hW⟩, Z.fr ht⟩) Z.2.2.2 dL_press_17
  · obtain ⟨a2, la3⟩ := u
    have Z : ig_Z D kk ad bs s H locs a2 la3 b lb lo := Z
    refine lv_if_eq (tgt := 12) F.1 F.2.1 dL_press_5 (by decide) (fun c_4 => ?_) (fun c_4 => ?_)
    · have hf := hf.1 c_4
      refine lv_iconst (v := 0) F.1 F.2.1 dL_press_12 (by decide) ?_
      refine W.widen (k := 1) (n := 6) (by omega) (by omega) ?_
      exact W.iret (v := 0) F.1 F.2.1 hr (fun t ht hW => ⟨⟨_, (a2, la3), rfl, hf, Z.wd E ht hW⟩, Z.fr ht⟩) Z.2.2.2 dL_press_13
    · have hf := hf.2 c_4
      refine lv_iconst (v := 1) F.1 F.2.1 dL_press_8 (by decide) ?_
      refine lv_goto (tgt := 13) F.1 F.2.1 dL_press_9 (by decide) ?_
      refine W.widen (k := 1) (n := 6) (by omega) (by omega) ?_
      exact W.iret (v := 1) F.1 F.2.1 hr (fun t ht hW => ⟨⟨_, (a2, la3), rfl, hf, Z.wd E ht hW⟩, Z.fr ht⟩) Z.2.2.2 dL_press_13
set_option maxHeartbeats 4000000 in
set_option maxRecDepth 100000 in
theorem k_L_arrive (l : Launch) {D : va_G} {kk : Nat → ClassId} {ad : Nat → Nat} {bs : Nat} {a : ig_M} {la : Int64} {b : ig_M} {lb lo : Int64} (x1 : Int32) (x2 : Int32) (hlt : l.stackTraces = false) {post : Int32 → ig_M → Int64 → Prop} (hf : wp_L_arrive a la x1 x2 post) : Met l yL_arrive (ig_wsW yL_arrive cL_arrive 4 (some .int) [(0, 6, 7, 23), (0, 6, 11, 14), (0, 6, 15, 17)]) ({ frames := 8, cells := 2, slots := 12, locals := 134 } : Room) (va_Pc [.ref (ad 0), .int x1, .int x2] (ig_Wd D kk ad bs a la b lb lo)) (va_Qi (fun (r : Int32) (u : ig_M × Int64) => post r u.1 u.2) (fun u t => ig_Wd D kk ad bs u.1 u.2 b lb lo t) (ig_A bs)) 2 12 (ig_A bs) := by
  refine ig_ofWH (cc := cL_arrive) (maxL := 4) (ret := (some .int)) (hh := [(0, 6, 7, 23), (0, 6, 11, 14), (0, 6, 15, 17)]) (by decide) rfl ?_
  intro p e s m args below meth c s₁ B hml htab hv
  obtain ⟨rfl, E, hP⟩ := hv
  have hk := B.notSynchronized
  have hr := B.returns
  have F : CallFix p m c cL_arrive 4 s _ ig_all RL := ⟨B.exec, B.bytes, hml, findClass_of_methodNamed B.named, fun w hw => atoms_spec B.pre w (List.mem_cons_of_mem _ hw)⟩
  have Z : ig_Z D kk ad bs s s.heap [] a la b lb lo := ig_Z.rf hP
  have hl := lv_entry ([.ref (ad 0), .int x1, .int x2]) (n := 4) (Nat.le_of_ble_eq_true rfl)
  rw [lg_entry_eq]
  generalize (lg_sl ([.ref (ad 0), .int x1, .int x2]) ++ List.replicate (4 - (lg_sl ([.ref (ad 0), .int x1, .int x2])).length) Slot.unset).toArray = ls at hl ⊢
  have hl : lv_has ls 4 [(0, .ref (ad 0)), (1, .int x1), (2, .int x2)] := hl
  refine lv_aload_n F.1 F.2.1 dL_arrive_0 rfl (lv_at hl 0 rfl) ?_
  refine lv_iload_n F.1 F.2.1 dL_arrive_1 rfl (lv_at hl 1 rfl) ?_
  refine lv_iload_n F.1 F.2.1 dL_arrive_2 rfl (lv_at hl 2 rfl) ?_
  have hM := k_X5_arrive l (D := D) (kk := kk) (ad := ad) (bs := bs) (a := a) (la := la) (b := b) (lb := lb) (lo := lo) x1 x2 hlt hf
  refine ig_callXi E Z (ig_runVX (As := [.int x1, .int x2]) (rest := []) F E Z hl G_L_40 hM (i := 0) (by decide) (ig_k_0 _ _ _ _ _ _) rfl rfl md_X5_arrive rfl ⟨rfl, rfl⟩ ⟨Nat.le_of_ble_eq_true rfl, Nat.le_of_ble_eq_true rfl⟩ (Nat.le_of_ble_eq_true rfl) dL_arrive_3 ⟨(by show _ ≤ 2; omega), (by show _ ≤ 12; omega)⟩) (fun u q9 ce H locs hu Z hce hcv hcl => ?_) (fun r1 u H locs hf Z => ?_)
  · rcases hu with ⟨rfl, hf⟩ | ⟨rfl, hf⟩ | ⟨rfl, hf⟩
    · refine ig_catch F E htab 2 [] [⟨0, 6, 11, 14⟩, ⟨0, 6, 15, 17⟩] ⟨0, 6, 7, 23⟩ rfl (by decide) (fun z hz => nomatch hz) rfl (by decide) mw_345 hce hcv hcl ?_
      refine lv_astore_n (lv' := [(3, .ref q9), (0, .ref (ad 0)), (1, .int x1), (2, .int x2)]) F.1 F.2.1 dL_arrive_7 rfl hl (by decide) rfl (fun ls hl => ?_)
      refine lv_ldc (v := (-99999999)) F.1 F.2.1 F.2.2.2.1 (F.2.2.2.2 _ mw_338) dL_arrive_8 ?_
      refine W.widen (k := 2) (n := 12) (by omega) (by omega) ?_
      exact W.iret (v := (-99999999)) F.1 F.2.1 hr (fun t ht hW => ⟨⟨_, (a, la), rfl, hf, Z.wd E ht hW⟩, Z.fr ht⟩) Z.2.2.2 dL_arrive_10
    · refine ig_catch F E htab 0 [⟨0, 6, 7, 23⟩] [⟨0, 6, 15, 17⟩] ⟨0, 6, 11, 14⟩ rfl (by decide) (List.forall_mem_cons.mpr ⟨⟨by decide, "java/lang/IndexOutOfBoundsException", mw_345, by decide +kernel⟩, (fun z hz => nomatch hz)⟩) rfl (by decide) mw_339 hce hcv hcl ?_
      refine lv_astore_n (lv' := [(3, .ref q9), (0, .ref (ad 0)), (1, .int x1), (2, .int x2)]) F.1 F.2.1 dL_arrive_11 rfl hl (by decide) rfl (fun ls hl => ?_)
      refine lv_ldc (v := (-99999999)) F.1 F.2.1 F.2.2.2.1 (F.2.2.2.2 _ mw_338) dL_arrive_12 ?_
      refine W.widen (k := 2) (n := 12) (by omega) (by omega) ?_
      exact W.iret (v := (-99999999)) F.1 F.2.1 hr (fun t ht hW => ⟨⟨_, (a, la), rfl, hf, Z.wd E ht hW⟩, Z.fr ht⟩) Z.2.2.2 dL_arrive_14
    · refine ig_catch F E htab 1 [⟨0, 6, 7, 23⟩, ⟨0, 6, 11, 14⟩] [] ⟨0, 6, 15, 17⟩ rfl (by decide) (List.forall_mem_cons.mpr ⟨⟨by decide, "java/lang/IndexOutOfBoundsException", mw_345, by decide +kernel⟩, (List.forall_mem_cons.mpr ⟨⟨by decide, "java/lang/IllegalArgumentException", mw_339, by decide +kernel⟩, (fun z hz => nomatch hz)⟩)⟩) rfl (by decide) mw_340 hce hcv hcl ?_
      refine lv_astore_n (lv' := [(3, .ref q9), (0, .ref (ad 0)), (1, .int x1), (2, .int x2)]) F.1 F.2.1 dL_arrive_15 rfl hl (by decide) rfl (fun ls hl => ?_)
      refine lv_ldc (v := (-99999999)) F.1 F.2.1 F.2.2.2.1 (F.2.2.2.2 _ mw_338) dL_arrive_16 ?_
      refine W.widen (k := 2) (n := 12) (by omega) (by omega) ?_
      exact W.iret (v := (-99999999)) F.1 F.2.1 hr (fun t ht hW => ⟨⟨_, (a, la), rfl, hf, Z.wd E ht hW⟩, Z.fr ht⟩) Z.2.2.2 dL_arrive_18
  · obtain ⟨a2, la3⟩ := u
    have Z : ig_Z D kk ad bs s H locs a2 la3 b lb lo := Z
    refine W.widen (k := 2) (n := 12) (by omega) (by omega) ?_
    exact W.iret (v := r1) F.1 F.2.1 hr (fun t ht hW => ⟨⟨_, (a2, la3), rfl, hf, Z.wd E ht hW⟩, Z.fr ht⟩) Z.2.2.2 dL_arrive_6
set_option maxHeartbeats 4000000 in
set_option maxRecDepth 100000 in
theorem k_L_ask (l : Launch) {D : va_G} {kk : Nat → ClassId} {ad : Nat → Nat} {bs : Nat} {a : ig_M} {la : Int64} {b : ig_M} {lb lo : Int64} (x1 : Int32) (hlt : l.stackTraces = false) {post : Int32 → ig_M → Int64 → Prop} (hf : wp_L_ask a la x1 post) : Met l yL_ask (ig_wsW yL_ask cL_ask 3 (some .int) [(0, 6, 7, 23), (0, 6, 11, 17)]) ({ frames := 8, cells := 2, slots := 12, locals := 132 } : Room) (va_Pc [.ref (ad 0), .int x1] (ig_Wd D kk ad bs a la b lb lo)) (va_Qi (fun (r : Int32) (u : ig_M × Int64) => post r u.1 u.2) (fun u t => ig_Wd D kk ad bs u.1 u.2 b lb lo t) (ig_A bs)) 2 12 (ig_A bs) := by
  refine ig_ofWH (cc := cL_ask) (maxL := 3) (ret := (some .int)) (hh := [(0, 6, 7, 23), (0, 6, 11, 17)]) (by decide) rfl ?_
  intro p e s m args below meth c s₁ B hml htab hv
  obtain ⟨rfl, E, hP⟩ := hv
  have hk := B.notSynchronized
  have hr := B.returns
  have F : CallFix p m c cL_ask 3 s _ ig_all RL := ⟨B.exec, B.bytes, hml, findClass_of_methodNamed B.named, fun w hw => atoms_spec B.pre w (List.mem_cons_of_mem _ hw)⟩
  have Z : ig_Z D kk ad bs s s.heap [] a la b lb lo := ig_Z.rf hP
  have hl := lv_entry ([.ref (ad 0), .int x1]) (n := 3) (Nat.le_of_ble_eq_true rfl)
  rw [lg_entry_eq]
  generalize (lg_sl ([.ref (ad 0), .int x1]) ++ List.replicate (3 - (lg_sl ([.ref (ad 0), .int x1])).length) Slot.unset).toArray = ls at hl ⊢
  have hl : lv_has ls 3 [(0, .ref (ad 0)), (1, .int x1)] := hl
  refine lv_aload_n F.1 F.2.1 dL_ask_0 rfl (lv_at hl 0 rfl) ?_
  refine lv_iload_n F.1 F.2.1 dL_ask_1 rfl (lv_at hl 1 rfl) ?_
  have hM := k_X5_ask l (D := D) (kk := kk) (ad := ad) (bs := bs) (a := a) (la := la) (b := b) (lb := lb) (lo := lo) x1 hlt hf
  refine ig_callXv E Z (ig_runVX (As := [.int x1]) (rest := []) F E Z hl G_L_44 hM (i := 0) (by decide) (ig_k_0 _ _ _ _ _ _) rfl rfl md_X5_ask rfl ⟨rfl, rfl⟩ ⟨Nat.le_of_ble_eq_true rfl, Nat.le_of_ble_eq_true rfl⟩ (Nat.le_of_ble_eq_true rfl) dL_ask_2 ⟨(by show _ ≤ 2; omega), (by show _ ≤ 12; omega)⟩) (fun u q9 ce H locs hu Z hce hcv hcl => ?_) (fun u H locs hf Z => ?_)
  · rcases hu with ⟨rfl, hf⟩ | ⟨rfl, hf⟩
    · refine ig_catch F E htab 2 [] [⟨0, 6, 11, 17⟩] ⟨0, 6, 7, 23⟩ rfl (by decide) (fun z hz => nomatch hz) rfl (by decide) mw_345 hce hcv hcl ?_
      refine lv_astore_n (lv' := [(2, .ref q9), (0, .ref (ad 0)), (1, .int x1)]) F.1 F.2.1 dL_ask_7 rfl hl (by decide) rfl (fun ls hl => ?_)
      refine lv_ldc (v := (-99999999)) F.1 F.2.1 F.2.2.2.1 (F.2.2.2.2 _ mw_338) dL_ask_8 ?_
      refine W.widen (k := 2) (n := 12) (by omega) (by omega) ?_
      exact W.iret (v := (-99999999)) F.1 F.2.1 hr (fun t ht hW => ⟨⟨_, (a, la), rfl, hf, Z.wd E ht hW⟩, Z.fr ht⟩) Z.2.2.2 dL_ask_10
    · refine ig_catch F E htab 1 [⟨0, 6, 7, 23⟩] [] ⟨0, 6, 11, 17⟩ rfl (by decide) (List.forall_mem_cons.mpr ⟨⟨by decide, "java/lang/IndexOutOfBoundsException", mw_345, by decide +kernel⟩, (fun z hz => nomatch hz)⟩) rfl (by decide) mw_340 hce hcv hcl ?_
      refine lv_astore_n (lv' := [(2, .ref q9), (0, .ref (ad 0)), (1, .int x1)]) F.1 F.2.1 dL_ask_11 rfl hl (by decide) rfl (fun ls hl => ?_)
      refine lv_ldc (v := (-99999999)) F.1 F.2.1 F.2.2.2.1 (F.2.2.2.2 _ mw_338) dL_ask_12 ?_
      refine W.widen (k := 2) (n := 12) (by omega) (by omega) ?_
      exact W.iret (v := (-99999999)) F.1 F.2.1 hr (fun t ht hW => ⟨⟨_, (a, la), rfl, hf, Z.wd E ht hW⟩, Z.fr ht⟩) Z.2.2.2 dL_ask_14
  · obtain ⟨a1, la2⟩ := u
    have Z : ig_Z D kk ad bs s H locs a1 la2 b lb lo := Z
    refine lv_iconst (v := 0) F.1 F.2.1 dL_ask_5 (by decide) ?_
    refine W.widen (k := 2) (n := 12) (by omega) (by omega) ?_
    exact W.iret (v := 0) F.1 F.2.1 hr (fun t ht hW => ⟨⟨_, (a1, la2), rfl, hf, Z.wd E ht hW⟩, Z.fr ht⟩) Z.2.2.2 dL_ask_6
set_option maxHeartbeats 4000000 in
set_option maxRecDepth 100000 in
theorem k_L_cancel (l : Launch) {D : va_G} {kk : Nat → ClassId} {ad : Nat → Nat} {bs : Nat} {a : ig_M} {la : Int64} {b : ig_M} {lb lo : Int64} (hlt : l.stackTraces = false) {post : Int32 → ig_M → Int64 → Prop} (hf : wp_L_cancel a la post) : Met l yL_cancel (ig_wsW yL_cancel cL_cancel 2 (some .int) [(0, 4, 5, 17)]) ({ frames := 7, cells := 1, slots := 6, locals := 111 } : Room) (va_Pc [.ref (ad 0)] (ig_Wd D kk ad bs a la b lb lo)) (va_Qi (fun (r : Int32) (u : ig_M × Int64) => post r u.1 u.2) (fun u t => ig_Wd D kk ad bs u.1 u.2 b lb lo t) (ig_A bs)) 1 6 (ig_A bs) := by
  refine ig_ofWH (cc := cL_cancel) (maxL := 2) (ret := (some .int)) (hh := [(0, 4, 5, 17)]) (by decide) rfl ?_
  intro p e s m args below meth c s₁ B hml htab hv
  obtain ⟨rfl, E, hP⟩ := hv
  have hk := B.notSynchronized
  have hr := B.returns
  have F : CallFix p m c cL_cancel 2 s _ ig_all RL := ⟨B.exec, B.bytes, hml, findClass_of_methodNamed B.named, fun w hw => atoms_spec B.pre w (List.mem_cons_of_mem _ hw)⟩
  have Z : ig_Z D kk ad bs s s.heap [] a la b lb lo := ig_Z.rf hP
  have hl := lv_entry ([.ref (ad 0)]) (n := 2) (Nat.le_of_ble_eq_true rfl)
  rw [lg_entry_eq]
  generalize (lg_sl ([.ref (ad 0)]) ++ List.replicate (2 - (lg_sl ([.ref (ad 0)])).length) Slot.unset).toArray = ls at hl ⊢
  have hl : lv_has ls 2 [(0, .ref (ad 0))] := hl
  refine lv_aload_n F.1 F.2.1 dL_cancel_0 rfl (lv_at hl 0 rfl) ?_
  have hM := k_X5_cancel l (D := D) (kk := kk) (ad := ad) (bs := bs) (a := a) (la := la) (b := b) (lb := lb) (lo := lo) hlt hf
  refine ig_callXi E Z (ig_runVX (As := []) (rest := []) F E Z hl G_L_47 hM (i := 0) (by decide) (ig_k_0 _ _ _ _ _ _) rfl rfl md_X5_cancel rfl ⟨rfl, rfl⟩ ⟨Nat.le_of_ble_eq_true rfl, Nat.le_of_ble_eq_true rfl⟩ (Nat.le_of_ble_eq_true rfl) dL_cancel_1 ⟨(by show _ ≤ 1; omega), (by show _ ≤ 6; omega)⟩) (fun u q9 ce H locs hu Z hce hcv hcl => ?_) (fun r1 u H locs hf Z => ?_)
  · obtain ⟨rfl, hf⟩ := hu
    · refine ig_catch F E htab 1 [] [] ⟨0, 4, 5, 17⟩ rfl (by decide) (fun z hz => nomatch hz) rfl (by decide) mw_340 hce hcv hcl ?_
      refine lv_astore_n (lv' := [(1, .ref q9), (0, .ref (ad 0))]) F.1 F.2.1 dL_cancel_5 rfl hl (by decide) rfl (fun ls hl => ?_)
      refine lv_ldc (v := (-99999999)) F.1 F.2.1 F.2.2.2.1 (F.2.2.2.2 _ mw_338) dL_cancel_6 ?_
      refine W.widen (k := 1) (n := 6) (by omega) (by omega) ?_
      exact W.iret (v := (-99999999)) F.1 F.2.1 hr (fun t ht hW => ⟨⟨_, (a, la), rfl, hf, Z.wd E ht hW⟩, Z.fr ht⟩) Z.2.2.2 dL_cancel_8
  · obtain ⟨a2, la3⟩ := u
    have Z : ig_Z D kk ad bs s H locs a2 la3 b lb lo := Z
    refine W.widen (k := 1) (n := 6) (by omega) (by omega) ?_
    exact W.iret (v := r1) F.1 F.2.1 hr (fun t ht hW => ⟨⟨_, (a2, la3), rfl, hf, Z.wd E ht hW⟩, Z.fr ht⟩) Z.2.2.2 dL_cancel_4
set_option maxHeartbeats 4000000 in
set_option maxRecDepth 100000 in
theorem k_L_breaks (l : Launch) {D : va_G} {kk : Nat → ClassId} {ad : Nat → Nat} {bs : Nat} {a : ig_M} {la : Int64} {b : ig_M} {lb lo : Int64} (x1 : Int32) (x2 : Int32) (x3 : Int32) (hlt : l.stackTraces = false) {post : Int32 → ig_M → Int64 → Prop} (hf : wp_L_breaks a la x1 x2 x3 post) : Met l yL_breaks (ig_wsW yL_breaks cL_breaks 5 (some .int) [(0, 15, 16, 23), (0, 15, 21, 14)]) ({ frames := 8, cells := 2, slots := 12, locals := 136 } : Room) (va_Pc [.ref (ad 0), .int x1, .int x2, .int x3] (ig_Wd D kk ad bs a la b lb lo)) (va_Qi (fun (r : Int32) (u : ig_M × Int64) => post r u.1 u.2) (fun u t => ig_Wd D kk ad bs u.1 u.2 b lb lo t) (ig_A bs)) 2 12 (ig_A bs) := by
  refine ig_ofWH (cc := cL_breaks) (maxL := 5) (ret := (some .int)) (hh := [(0, 15, 16, 23), (0, 15, 21, 14)]) (by decide) rfl ?_
  intro p e s m args below meth c s₁ B hml htab hv
  obtain ⟨rfl, E, hP⟩ := hv
  have hk := B.notSynchronized
  have hr := B.returns
  have F : CallFix p m c cL_breaks 5 s _ ig_all RL := ⟨B.exec, B.bytes, hml, findClass_of_methodNamed B.named, fun w hw => atoms_spec B.pre w (List.mem_cons_of_mem _ hw)⟩
  have Z : ig_Z D kk ad bs s s.heap [] a la b lb lo := ig_Z.rf hP
  have hl := lv_entry ([.ref (ad 0), .int x1, .int x2, .int x3]) (n := 5) (Nat.le_of_ble_eq_true rfl)
  rw [lg_entry_eq]
  generalize (lg_sl ([.ref (ad 0), .int x1, .int x2, .int x3]) ++ List.replicate (5 - (lg_sl ([.ref (ad 0), .int x1, .int x2, .int x3])).length) Slot.unset).toArray = ls at hl ⊢
  have hl : lv_has ls 5 [(0, .ref (ad 0)), (1, .int x1), (2, .int x2), (3, .int x3)] := hl
  refine lv_aload_n F.1 F.2.1 dL_breaks_0 rfl (lv_at hl 0 rfl) ?_
  refine lv_iload_n F.1 F.2.1 dL_breaks_1 rfl (lv_at hl 1 rfl) ?_
  refine lv_iload_n F.1 F.2.1 dL_breaks_2 rfl (lv_at hl 2 rfl) ?_
  refine lv_iload_n F.1 F.2.1 dL_breaks_3 rfl (lv_at hl 3 rfl) ?_
  have hM := k_X5_breaks l (D := D) (kk := kk) (ad := ad) (bs := bs) (a := a) (la := la) (b := b) (lb := lb) (lo := lo) x1 x2 x3 hlt hf
  refine ig_callXi E Z (ig_runVX (As := [.int x1, .int x2, .int x3]) (rest := []) F E Z hl G_L_51 hM (i := 0) (by decide) (ig_k_0 _ _ _ _ _ _) rfl rfl md_X5_breaks rfl ⟨rfl, rfl⟩ ⟨Nat.le_of_ble_eq_true rfl, Nat.le_of_ble_eq_true rfl⟩ (Nat.le_of_ble_eq_true rfl) dL_breaks_4 ⟨(by show _ ≤ 2; omega), (by show _ ≤ 12; omega)⟩) (fun u q9 ce H locs hu Z hce hcv hcl => ?_) (fun r1 u H locs hf Z => ?_)
  · rcases hu with ⟨rfl, hf⟩ | ⟨rfl, hf⟩
    · refine ig_catch F E htab 2 [] [⟨0, 15, 21, 14⟩] ⟨0, 15, 16, 23⟩ rfl (by decide) (fun z hz => nomatch hz) rfl (by decide) mw_345 hce hcv hcl ?_
      refine lv_astore (lv' := [(4, .ref q9), (0, .ref (ad 0)), (1, .int x1), (2, .int x2), (3, .int x3)]) F.1 F.2.1 dL_breaks_16 hl (by decide) rfl (fun ls hl => ?_)
      refine lv_ldc (v := (-99999999)) F.1 F.2.1 F.2.2.2.1 (F.2.2.2.2 _ mw_338) dL_breaks_18 ?_
      refine W.widen (k := 2) (n := 12) (by omega) (by omega) ?_
      exact W.iret (v := (-99999999)) F.1 F.2.1 hr (fun t ht hW => ⟨⟨_, (a, la), rfl, hf, Z.wd E ht hW⟩, Z.fr ht⟩) Z.2.2.2 dL_breaks_20
    · refine ig_catch F E htab 0 [⟨0, 15, 16, 23⟩] [] ⟨0, 15, 21, 14⟩ rfl (by decide) (List.forall_mem_cons.mpr ⟨⟨by decide, "java/lang/IndexOutOfBoundsException", mw_345, by decide +kernel⟩, (fun z hz => nomatch hz)⟩) rfl (by decide) mw_339 hce hcv hcl ?_
      refine lv_astore (lv' := [(4, .ref q9), (0, .ref (ad 0)), (1, .int x1), (2, .int x2), (3, .int x3)]) F.1 F.2.1 dL_breaks_21 hl (by decide) rfl (fun ls hl => ?_)
      refine lv_ldc (v := (-99999999)) F.1 F.2.1 F.2.2.2.1 (F.2.2.2.2 _ mw_338) dL_breaks_23 ?_
      refine W.widen (k := 2) (n := 12) (by omega) (by omega) ?_
      exact W.iret (v := (-99999999)) F.1 F.2.1 hr (fun t ht hW => ⟨⟨_, (a, la), rfl, hf, Z.wd E ht hW⟩, Z.fr ht⟩) Z.2.2.2 dL_breaks_25
  · obtain ⟨a2, la3⟩ := u
    have Z : ig_Z D kk ad bs s H locs a2 la3 b lb lo := Z
    refine lv_if_eq (tgt := 14) F.1 F.2.1 dL_breaks_7 (by decide) (fun c_4 => ?_) (fun c_4 => ?_)
    · have hf := hf.1 c_4
      refine lv_iconst (v := 0) F.1 F.2.1 dL_breaks_14 (by decide) ?_
      refine W.widen (k := 2) (n := 12) (by omega) (by omega) ?_
      exact W.iret (v := 0) F.1 F.2.1 hr (fun t ht hW => ⟨⟨_, (a2, la3), rfl, hf, Z.wd E ht hW⟩, Z.fr ht⟩) Z.2.2.2 dL_breaks_15
    · have hf := hf.2 c_4
      refine lv_iconst (v := 1) F.1 F.2.1 dL_breaks_10 (by decide) ?_
      refine lv_goto (tgt := 15) F.1 F.2.1 dL_breaks_11 (by decide) ?_
      refine W.widen (k := 2) (n := 12) (by omega) (by omega) ?_
      exact W.iret (v := 1) F.1 F.2.1 hr (fun t ht hW => ⟨⟨_, (a2, la3), rfl, hf, Z.wd E ht hW⟩, Z.fr ht⟩) Z.2.2.2 dL_breaks_15
set_option maxHeartbeats 4000000 in
set_option maxRecDepth 100000 in
theorem k_L_go (l : Launch) {D : va_G} {kk : Nat → ClassId} {ad : Nat → Nat} {bs : Nat} {a : ig_M} {la : Int64} {b : ig_M} {lb lo : Int64} (x1 : Int32) (hlt : l.stackTraces = false) {post : Int32 → ig_M → Int64 → Prop} (hf : wp_L_go a la x1 post) : Met l yL_go (ig_wsW yL_go cL_go 3 (some .int) [(0, 5, 6, 14), (0, 5, 10, 17)]) ({ frames := 7, cells := 1, slots := 6, locals := 131 } : Room) (va_Pc [.ref (ad 0), .int x1] (ig_Wd D kk ad bs a la b lb lo)) (va_Qi (fun (r : Int32) (u : ig_M × Int64) => post r u.1 u.2) (fun u t => ig_Wd D kk ad bs u.1 u.2 b lb lo t) (ig_A bs)) 1 6 (ig_A bs) := by
  refine ig_ofWH (cc := cL_go) (maxL := 3) (ret := (some .int)) (hh := [(0, 5, 6, 14), (0, 5, 10, 17)]) (by decide) rfl ?_
  intro p e s m args below meth c s₁ B hml htab hv
  obtain ⟨rfl, E, hP⟩ := hv
  have hk := B.notSynchronized
  have hr := B.returns
  have F : CallFix p m c cL_go 3 s _ ig_all RL := ⟨B.exec, B.bytes, hml, findClass_of_methodNamed B.named, fun w hw => atoms_spec B.pre w (List.mem_cons_of_mem _ hw)⟩
  have Z : ig_Z D kk ad bs s s.heap [] a la b lb lo := ig_Z.rf hP
  have hl := lv_entry ([.ref (ad 0), .int x1]) (n := 3) (Nat.le_of_ble_eq_true rfl)
  rw [lg_entry_eq]
  generalize (lg_sl ([.ref (ad 0), .int x1]) ++ List.replicate (3 - (lg_sl ([.ref (ad 0), .int x1])).length) Slot.unset).toArray = ls at hl ⊢
  have hl : lv_has ls 3 [(0, .ref (ad 0)), (1, .int x1)] := hl
  refine lv_aload_n F.1 F.2.1 dL_go_0 rfl (lv_at hl 0 rfl) ?_
  refine lv_iload_n F.1 F.2.1 dL_go_1 rfl (lv_at hl 1 rfl) ?_
  have hM := k_X5_go l (D := D) (kk := kk) (ad := ad) (bs := bs) (a := a) (la := la) (b := b) (lb := lb) (lo := lo) x1 hlt hf
  refine ig_callXi E Z (ig_runVX (As := [.int x1]) (rest := []) F E Z hl G_L_55 hM (i := 0) (by decide) (ig_k_0 _ _ _ _ _ _) rfl rfl md_X5_go rfl ⟨rfl, rfl⟩ ⟨Nat.le_of_ble_eq_true rfl, Nat.le_of_ble_eq_true rfl⟩ (Nat.le_of_ble_eq_true rfl) dL_go_2 ⟨(by show _ ≤ 1; omega), (by show _ ≤ 6; omega)⟩) (fun u q9 ce H locs hu Z hce hcv hcl => ?_) (fun r1 u H locs hf Z => ?_)
  · rcases hu with ⟨rfl, hf⟩ | ⟨rfl, hf⟩
    · refine ig_catch F E htab 0 [] [⟨0, 5, 10, 17⟩] ⟨0, 5, 6, 14⟩ rfl (by decide) (fun z hz => nomatch hz) rfl (by decide) mw_339 hce hcv hcl ?_
      refine lv_astore_n (lv' := [(2, .ref q9), (0, .ref (ad 0)), (1, .int x1)]) F.1 F.2.1 dL_go_6 rfl hl (by decide) rfl (fun ls hl => ?_)
      refine lv_ldc (v := (-99999999)) F.1 F.2.1 F.2.2.2.1 (F.2.2.2.2 _ mw_338) dL_go_7 ?_
      refine W.widen (k := 1) (n := 6) (by omega) (by omega) ?_
      exact W.iret (v := (-99999999)) F.1 F.2.1 hr (fun t ht hW => ⟨⟨_, (a, la), rfl, hf, Z.wd E ht hW⟩, Z.fr ht⟩) Z.2.2.2 dL_go_9
    · refine ig_catch F E htab 1 [⟨0, 5, 6, 14⟩] [] ⟨0, 5, 10, 17⟩ rfl (by decide) (List.forall_mem_cons.mpr ⟨⟨by decide, "java/lang/IllegalArgumentException", mw_339, by decide +kernel⟩, (fun z hz => nomatch hz)⟩) rfl (by decide) mw_340 hce hcv hcl ?_
      refine lv_astore_n (lv' := [(2, .ref q9), (0, .ref (ad 0)), (1, .int x1)]) F.1 F.2.1 dL_go_10 rfl hl (by decide) rfl (fun ls hl => ?_)
      refine lv_ldc (v := (-99999999)) F.1 F.2.1 F.2.2.2.1 (F.2.2.2.2 _ mw_338) dL_go_11 ?_
      refine W.widen (k := 1) (n := 6) (by omega) (by omega) ?_
      exact W.iret (v := (-99999999)) F.1 F.2.1 hr (fun t ht hW => ⟨⟨_, (a, la), rfl, hf, Z.wd E ht hW⟩, Z.fr ht⟩) Z.2.2.2 dL_go_13
  · obtain ⟨a2, la3⟩ := u
    have Z : ig_Z D kk ad bs s H locs a2 la3 b lb lo := Z
    refine W.widen (k := 1) (n := 6) (by omega) (by omega) ?_
    exact W.iret (v := r1) F.1 F.2.1 hr (fun t ht hW => ⟨⟨_, (a2, la3), rfl, hf, Z.wd E ht hW⟩, Z.fr ht⟩) Z.2.2.2 dL_go_5
set_option maxHeartbeats 4000000 in
set_option maxRecDepth 100000 in
theorem k_L_lamp (l : Launch) {D : va_G} {kk : Nat → ClassId} {ad : Nat → Nat} {bs : Nat} {a : ig_M} {la : Int64} {b : ig_M} {lb lo : Int64} (x1 : Int32) (x2 : Int32) (hlt : l.stackTraces = false) {post : Int32 → ig_M → Int64 → Prop} (hf : wp_L_lamp a la x1 x2 post) : Met l yL_lamp (ig_wsW yL_lamp cL_lamp 4 (some .int) [(0, 6, 7, 23)]) ({ frames := 8, cells := 2, slots := 12, locals := 133 } : Room) (va_Pc [.ref (ad 0), .int x1, .int x2] (ig_Wd D kk ad bs a la b lb lo)) (va_Qi (fun (r : Int32) (u : ig_M × Int64) => post r u.1 u.2) (fun u t => ig_Wd D kk ad bs u.1 u.2 b lb lo t) (ig_A bs)) 2 12 (ig_A bs) := by
  refine ig_ofWH (cc := cL_lamp) (maxL := 4) (ret := (some .int)) (hh := [(0, 6, 7, 23)]) (by decide) rfl ?_
  intro p e s m args below meth c s₁ B hml htab hv
  obtain ⟨rfl, E, hP⟩ := hv
  have hk := B.notSynchronized
  have hr := B.returns
  have F : CallFix p m c cL_lamp 4 s _ ig_all RL := ⟨B.exec, B.bytes, hml, findClass_of_methodNamed B.named, fun w hw => atoms_spec B.pre w (List.mem_cons_of_mem _ hw)⟩
  have Z : ig_Z D kk ad bs s s.heap [] a la b lb lo := ig_Z.rf hP
  have hl := lv_entry ([.ref (ad 0), .int x1, .int x2]) (n := 4) (Nat.le_of_ble_eq_true rfl)
  rw [lg_entry_eq]
  generalize (lg_sl ([.ref (ad 0), .int x1, .int x2]) ++ List.replicate (4 - (lg_sl ([.ref (ad 0), .int x1, .int x2])).length) Slot.unset).toArray = ls at hl ⊢
  have hl : lv_has ls 4 [(0, .ref (ad 0)), (1, .int x1), (2, .int x2)] := hl
  refine lv_aload_n F.1 F.2.1 dL_lamp_0 rfl (lv_at hl 0 rfl) ?_
  refine lv_iload_n F.1 F.2.1 dL_lamp_1 rfl (lv_at hl 1 rfl) ?_
  refine lv_iload_n F.1 F.2.1 dL_lamp_2 rfl (lv_at hl 2 rfl) ?_
  have hM := k_X5_lamp l (D := D) (kk := kk) (ad := ad) (bs := bs) (a := a) (la := la) (b := b) (lb := lb) (lo := lo) x1 x2 hlt hf
  refine ig_callXi E Z (ig_runVX (As := [.int x1, .int x2]) (rest := []) F E Z hl G_L_58 hM (i := 0) (by decide) (ig_k_0 _ _ _ _ _ _) rfl rfl md_X5_lamp rfl ⟨rfl, rfl⟩ ⟨Nat.le_of_ble_eq_true rfl, Nat.le_of_ble_eq_true rfl⟩ (Nat.le_of_ble_eq_true rfl) dL_lamp_3 ⟨(by show _ ≤ 2; omega), (by show _ ≤ 12; omega)⟩) (fun u q9 ce H locs hu Z hce hcv hcl => ?_) (fun r1 u H locs hf Z => ?_)
  · obtain ⟨rfl, hf⟩ := hu
    · refine ig_catch F E htab 2 [] [] ⟨0, 6, 7, 23⟩ rfl (by decide) (fun z hz => nomatch hz) rfl (by decide) mw_345 hce hcv hcl ?_
      refine lv_astore_n (lv' := [(3, .ref q9), (0, .ref (ad 0)), (1, .int x1), (2, .int x2)]) F.1 F.2.1 dL_lamp_7 rfl hl (by decide) rfl (fun ls hl => ?_)
      refine lv_ldc (v := (-99999999)) F.1 F.2.1 F.2.2.2.1 (F.2.2.2.2 _ mw_338) dL_lamp_8 ?_
      refine W.widen (k := 2) (n := 12) (by omega) (by omega) ?_
      exact W.iret (v := (-99999999)) F.1 F.2.1 hr (fun t ht hW => ⟨⟨_, (a, la), rfl, hf, Z.wd E ht hW⟩, Z.fr ht⟩) Z.2.2.2 dL_lamp_10
  · have Z := Z
    refine W.widen (k := 2) (n := 12) (by omega) (by omega) ?_
    exact W.iret (v := r1) F.1 F.2.1 hr (fun t ht hW => ⟨⟨_, (a, la), rfl, hf, Z.wd E ht hW⟩, Z.fr ht⟩) Z.2.2.2 dL_lamp_6
set_option maxHeartbeats 4000000 in
set_option maxRecDepth 100000 in
theorem k_L_ofPhase (l : Launch) {D : va_G} {kk : Nat → ClassId} {ad : Nat → Nat} {bs : Nat} {a : ig_M} {la : Int64} {b : ig_M} {lb lo : Int64} (x1 : Int32) (x2 : Int32) (hlt : l.stackTraces = false) {post : Int32 → ig_M → Int64 → Prop} (hf : wp_L_ofPhase a la x1 x2 post) : Met l yL_ofPhase (ig_wsW yL_ofPhase cL_ofPhase 4 (some .int) [(0, 6, 7, 23), (0, 6, 11, 14)]) ({ frames := 8, cells := 2, slots := 12, locals := 133 } : Room) (va_Pc [.ref (ad 0), .int x1, .int x2] (ig_Wd D kk ad bs a la b lb lo)) (va_Qi (fun (r : Int32) (u : ig_M × Int64) => post r u.1 u.2) (fun u t => ig_Wd D kk ad bs u.1 u.2 b lb lo t) (ig_A bs)) 2 12 (ig_A bs) := by
  refine ig_ofWH (cc := cL_ofPhase) (maxL := 4) (ret := (some .int)) (hh := [(0, 6, 7, 23), (0, 6, 11, 14)]) (by decide) rfl ?_
  intro p e s m args below meth c s₁ B hml htab hv
  obtain ⟨rfl, E, hP⟩ := hv
  have hk := B.notSynchronized
  have hr := B.returns
  have F : CallFix p m c cL_ofPhase 4 s _ ig_all RL := ⟨B.exec, B.bytes, hml, findClass_of_methodNamed B.named, fun w hw => atoms_spec B.pre w (List.mem_cons_of_mem _ hw)⟩
  have Z : ig_Z D kk ad bs s s.heap [] a la b lb lo := ig_Z.rf hP
  have hl := lv_entry ([.ref (ad 0), .int x1, .int x2]) (n := 4) (Nat.le_of_ble_eq_true rfl)
  rw [lg_entry_eq]
  generalize (lg_sl ([.ref (ad 0), .int x1, .int x2]) ++ List.replicate (4 - (lg_sl ([.ref (ad 0), .int x1, .int x2])).length) Slot.unset).toArray = ls at hl ⊢
  have hl : lv_has ls 4 [(0, .ref (ad 0)), (1, .int x1), (2, .int x2)] := hl
  refine lv_aload_n F.1 F.2.1 dL_ofPhase_0 rfl (lv_at hl 0 rfl) ?_
  refine lv_iload_n F.1 F.2.1 dL_ofPhase_1 rfl (lv_at hl 1 rfl) ?_
  refine lv_iload_n F.1 F.2.1 dL_ofPhase_2 rfl (lv_at hl 2 rfl) ?_
  have hM := k_X5_ofPhase l (D := D) (kk := kk) (ad := ad) (bs := bs) (a := a) (la := la) (b := b) (lb := lb) (lo := lo) x1 x2 hlt hf
  refine ig_callXi E Z (ig_runVX (As := [.int x1, .int x2]) (rest := []) F E Z hl G_L_61 hM (i := 0) (by decide) (ig_k_0 _ _ _ _ _ _) rfl rfl md_X5_ofPhase rfl ⟨rfl, rfl⟩ ⟨Nat.le_of_ble_eq_true rfl, Nat.le_of_ble_eq_true rfl⟩ (Nat.le_of_ble_eq_true rfl) dL_ofPhase_3 ⟨(by show _ ≤ 2; omega), (by show _ ≤ 12; omega)⟩) (fun u q9 ce H locs hu Z hce hcv hcl => ?_) (fun r1 u H locs hf Z => ?_)
  · rcases hu with ⟨rfl, hf⟩ | ⟨rfl, hf⟩
    · refine ig_catch F E htab 2 [] [⟨0, 6, 11, 14⟩] ⟨0, 6, 7, 23⟩ rfl (by decide) (fun z hz => nomatch hz) rfl (by decide) mw_345 hce hcv hcl ?_
      refine lv_astore_n (lv' := [(3, .ref q9), (0, .ref (ad 0)), (1, .int x1), (2, .int x2)]) F.1 F.2.1 dL_ofPhase_7 rfl hl (by decide) rfl (fun ls hl => ?_)
      refine lv_ldc (v := (-99999999)) F.1 F.2.1 F.2.2.2.1 (F.2.2.2.2 _ mw_338) dL_ofPhase_8 ?_
      refine W.widen (k := 2) (n := 12) (by omega) (by omega) ?_
      exact W.iret (v := (-99999999)) F.1 F.2.1 hr (fun t ht hW => ⟨⟨_, (a, la), rfl, hf, Z.wd E ht hW⟩, Z.fr ht⟩) Z.2.2.2 dL_ofPhase_10
    · refine ig_catch F E htab 0 [⟨0, 6, 7, 23⟩] [] ⟨0, 6, 11, 14⟩ rfl (by decide) (List.forall_mem_cons.mpr ⟨⟨by decide, "java/lang/IndexOutOfBoundsException", mw_345, by decide +kernel⟩, (fun z hz => nomatch hz)⟩) rfl (by decide) mw_339 hce hcv hcl ?_
      refine lv_astore_n (lv' := [(3, .ref q9), (0, .ref (ad 0)), (1, .int x1), (2, .int x2)]) F.1 F.2.1 dL_ofPhase_11 rfl hl (by decide) rfl (fun ls hl => ?_)
      refine lv_ldc (v := (-99999999)) F.1 F.2.1 F.2.2.2.1 (F.2.2.2.2 _ mw_338) dL_ofPhase_12 ?_
      refine W.widen (k := 2) (n := 12) (by omega) (by omega) ?_
      exact W.iret (v := (-99999999)) F.1 F.2.1 hr (fun t ht hW => ⟨⟨_, (a, la), rfl, hf, Z.wd E ht hW⟩, Z.fr ht⟩) Z.2.2.2 dL_ofPhase_14
  · have Z := Z
    refine W.widen (k := 2) (n := 12) (by omega) (by omega) ?_
    exact W.iret (v := r1) F.1 F.2.1 hr (fun t ht hW => ⟨⟨_, (a, la), rfl, hf, Z.wd E ht hW⟩, Z.fr ht⟩) Z.2.2.2 dL_ofPhase_6
set_option maxHeartbeats 4000000 in
set_option maxRecDepth 100000 in
theorem k_L_of (l : Launch) {D : va_G} {kk : Nat → ClassId} {ad : Nat → Nat} {bs : Nat} {a : ig_M} {la : Int64} {b : ig_M} {lb lo : Int64} (x1 : Int32) (hlt : l.stackTraces = false) {post : Int32 → ig_M → Int64 → Prop} (hf : wp_L_of a la x1 post) : Met l yL_of (ig_wsW yL_of cL_of 3 (some .int) [(0, 5, 6, 14)]) ({ frames := 7, cells := 1, slots := 6, locals := 111 } : Room) (va_Pc [.ref (ad 0), .int x1] (ig_Wd D kk ad bs a la b lb lo)) (va_Qi (fun (r : Int32) (u : ig_M × Int64) => post r u.1 u.2) (fun u t => ig_Wd D kk ad bs u.1 u.2 b lb lo t) (ig_A bs)) 1 6 (ig_A bs) := by
  refine ig_ofWH (cc := cL_of) (maxL := 3) (ret := (some .int)) (hh := [(0, 5, 6, 14)]) (by decide) rfl ?_
  intro p e s m args below meth c s₁ B hml htab hv
  obtain ⟨rfl, E, hP⟩ := hv
  have hk := B.notSynchronized
  have hr := B.returns
  have F : CallFix p m c cL_of 3 s _ ig_all RL := ⟨B.exec, B.bytes, hml, findClass_of_methodNamed B.named, fun w hw => atoms_spec B.pre w (List.mem_cons_of_mem _ hw)⟩
  have Z : ig_Z D kk ad bs s s.heap [] a la b lb lo := ig_Z.rf hP
  have hl := lv_entry ([.ref (ad 0), .int x1]) (n := 3) (Nat.le_of_ble_eq_true rfl)
  rw [lg_entry_eq]
  generalize (lg_sl ([.ref (ad 0), .int x1]) ++ List.replicate (3 - (lg_sl ([.ref (ad 0), .int x1])).length) Slot.unset).toArray = ls at hl ⊢
  have hl : lv_has ls 3 [(0, .ref (ad 0)), (1, .int x1)] := hl
  refine lv_aload_n F.1 F.2.1 dL_of_0 rfl (lv_at hl 0 rfl) ?_
  refine lv_iload_n F.1 F.2.1 dL_of_1 rfl (lv_at hl 1 rfl) ?_
  have hM := k_X5_of l (D := D) (kk := kk) (ad := ad) (bs := bs) (a := a) (la := la) (b := b) (lb := lb) (lo := lo) x1 hlt hf
  refine ig_callXi E Z (ig_runVX (As := [.int x1]) (rest := []) F E Z hl G_L_64 hM (i := 0) (by decide) (ig_k_0 _ _ _ _ _ _) rfl rfl md_X5_of rfl ⟨rfl, rfl⟩ ⟨Nat.le_of_ble_eq_true rfl, Nat.le_of_ble_eq_true rfl⟩ (Nat.le_of_ble_eq_true rfl) dL_of_2 ⟨(by show _ ≤ 1; omega), (by show _ ≤ 6; omega)⟩) (fun u q9 ce H locs hu Z hce hcv hcl => ?_) (fun r1 u H locs hf Z => ?_)
  · obtain ⟨rfl, hf⟩ := hu
    · refine ig_catch F E htab 0 [] [] ⟨0, 5, 6, 14⟩ rfl (by decide) (fun z hz => nomatch hz) rfl (by decide) mw_339 hce hcv hcl ?_
      refine lv_astore_n (lv' := [(2, .ref q9), (0, .ref (ad 0)), (1, .int x1)]) F.1 F.2.1 dL_of_6 rfl hl (by decide) rfl (fun ls hl => ?_)
      refine lv_ldc (v := (-99999999)) F.1 F.2.1 F.2.2.2.1 (F.2.2.2.2 _ mw_338) dL_of_7 ?_
      refine W.widen (k := 1) (n := 6) (by omega) (by omega) ?_
      exact W.iret (v := (-99999999)) F.1 F.2.1 hr (fun t ht hW => ⟨⟨_, (a, la), rfl, hf, Z.wd E ht hW⟩, Z.fr ht⟩) Z.2.2.2 dL_of_9
  · have Z := Z
    refine W.widen (k := 1) (n := 6) (by omega) (by omega) ?_
    exact W.iret (v := r1) F.1 F.2.1 hr (fun t ht hW => ⟨⟨_, (a, la), rfl, hf, Z.wd E ht hW⟩, Z.fr ht⟩) Z.2.2.2 dL_of_5
set_option maxHeartbeats 4000000 in
set_option maxRecDepth 100000 in
theorem k_L_seen (l : Launch) {D : va_G} {kk : Nat → ClassId} {ad : Nat → Nat} {bs : Nat} {a : ig_M} {la : Int64} {b : ig_M} {lb lo : Int64} (x1 : Int32) (x2 : Int32) (hlt : l.stackTraces = false) {post : Int32 → ig_M → Int64 → Prop} (hf : wp_L_seen a la x1 x2 post) : Met l yL_seen (ig_wsW yL_seen cL_seen 4 (some .int) [(0, 6, 7, 23), (0, 6, 11, 14)]) ({ frames := 8, cells := 3, slots := 18, locals := 133 } : Room) (va_Pc [.ref (ad 0), .int x1, .int x2] (ig_Wd D kk ad bs a la b lb lo)) (va_Qi (fun (r : Int32) (u : ig_M × Int64) => post r u.1 u.2) (fun u t => ig_Wd D kk ad bs u.1 u.2 b lb lo t) (ig_A bs)) 3 18 (ig_A bs) := by
  refine ig_ofWH (cc := cL_seen) (maxL := 4) (ret := (some .int)) (hh := [(0, 6, 7, 23), (0, 6, 11, 14)]) (by decide) rfl ?_
  intro p e s m args below meth c s₁ B hml htab hv
  obtain ⟨rfl, E, hP⟩ := hv
  have hk := B.notSynchronized
  have hr := B.returns
  have F : CallFix p m c cL_seen 4 s _ ig_all RL := ⟨B.exec, B.bytes, hml, findClass_of_methodNamed B.named, fun w hw => atoms_spec B.pre w (List.mem_cons_of_mem _ hw)⟩
  have Z : ig_Z D kk ad bs s s.heap [] a la b lb lo := ig_Z.rf hP
  have hl := lv_entry ([.ref (ad 0), .int x1, .int x2]) (n := 4) (Nat.le_of_ble_eq_true rfl)
  rw [lg_entry_eq]
  generalize (lg_sl ([.ref (ad 0), .int x1, .int x2]) ++ List.replicate (4 - (lg_sl ([.ref (ad 0), .int x1, .int x2])).length) Slot.unset).toArray = ls at hl ⊢
  have hl : lv_has ls 4 [(0, .ref (ad 0)), (1, .int x1), (2, .int x2)] := hl
  refine lv_aload_n F.1 F.2.1 dL_seen_0 rfl (lv_at hl 0 rfl) ?_
  refine lv_iload_n F.1 F.2.1 dL_seen_1 rfl (lv_at hl 1 rfl) ?_
  refine lv_iload_n F.1 F.2.1 dL_seen_2 rfl (lv_at hl 2 rfl) ?_
  have hM := k_X5_seen l (D := D) (kk := kk) (ad := ad) (bs := bs) (a := a) (la := la) (b := b) (lb := lb) (lo := lo) x1 x2 hlt hf
  refine ig_callXi E Z (ig_runVX (As := [.int x1, .int x2]) (rest := []) F E Z hl G_L_67 hM (i := 0) (by decide) (ig_k_0 _ _ _ _ _ _) rfl rfl md_X5_seen rfl ⟨rfl, rfl⟩ ⟨Nat.le_of_ble_eq_true rfl, Nat.le_of_ble_eq_true rfl⟩ (Nat.le_of_ble_eq_true rfl) dL_seen_3 ⟨(by show _ ≤ 3; omega), (by show _ ≤ 18; omega)⟩) (fun u q9 ce H locs hu Z hce hcv hcl => ?_) (fun r1 u H locs hf Z => ?_)
  · rcases hu with ⟨rfl, hf⟩ | ⟨rfl, hf⟩
    · refine ig_catch F E htab 2 [] [⟨0, 6, 11, 14⟩] ⟨0, 6, 7, 23⟩ rfl (by decide) (fun z hz => nomatch hz) rfl (by decide) mw_345 hce hcv hcl ?_
      refine lv_astore_n (lv' := [(3, .ref q9), (0, .ref (ad 0)), (1, .int x1), (2, .int x2)]) F.1 F.2.1 dL_seen_7 rfl hl (by decide) rfl (fun ls hl => ?_)
      refine lv_ldc (v := (-99999999)) F.1 F.2.1 F.2.2.2.1 (F.2.2.2.2 _ mw_338) dL_seen_8 ?_
      refine W.widen (k := 3) (n := 18) (by omega) (by omega) ?_
      exact W.iret (v := (-99999999)) F.1 F.2.1 hr (fun t ht hW => ⟨⟨_, (a, la), rfl, hf, Z.wd E ht hW⟩, Z.fr ht⟩) Z.2.2.2 dL_seen_10
    · refine ig_catch F E htab 0 [⟨0, 6, 7, 23⟩] [] ⟨0, 6, 11, 14⟩ rfl (by decide) (List.forall_mem_cons.mpr ⟨⟨by decide, "java/lang/IndexOutOfBoundsException", mw_345, by decide +kernel⟩, (fun z hz => nomatch hz)⟩) rfl (by decide) mw_339 hce hcv hcl ?_
      refine lv_astore_n (lv' := [(3, .ref q9), (0, .ref (ad 0)), (1, .int x1), (2, .int x2)]) F.1 F.2.1 dL_seen_11 rfl hl (by decide) rfl (fun ls hl => ?_)
      refine lv_ldc (v := (-99999999)) F.1 F.2.1 F.2.2.2.1 (F.2.2.2.2 _ mw_338) dL_seen_12 ?_
      refine W.widen (k := 3) (n := 18) (by omega) (by omega) ?_
      exact W.iret (v := (-99999999)) F.1 F.2.1 hr (fun t ht hW => ⟨⟨_, (a, la), rfl, hf, Z.wd E ht hW⟩, Z.fr ht⟩) Z.2.2.2 dL_seen_14
  · have Z := Z
    refine W.widen (k := 3) (n := 18) (by omega) (by omega) ?_
    exact W.iret (v := r1) F.1 F.2.1 hr (fun t ht hW => ⟨⟨_, (a, la), rfl, hf, Z.wd E ht hW⟩, Z.fr ht⟩) Z.2.2.2 dL_seen_6
set_option maxHeartbeats 4000000 in
set_option maxRecDepth 100000 in
theorem k_L_change (l : Launch) {D : va_G} {kk : Nat → ClassId} {ad : Nat → Nat} {bs : Nat} {a : ig_M} {la : Int64} {b : ig_M} {lb lo : Int64} (x1 : Int32) (x2 : Int32) (hlt : l.stackTraces = false) {post : Int32 → ig_M → Int64 → Prop} (hf : wp_L_change a la x1 x2 post) : Met l yL_change (ig_wsW yL_change cL_change 4 (some .int) [(0, 6, 7, 23)]) ({ frames := 8, cells := 2, slots := 12, locals := 133 } : Room) (va_Pc [.ref (ad 0), .int x1, .int x2] (ig_Wd D kk ad bs a la b lb lo)) (va_Qi (fun (r : Int32) (u : ig_M × Int64) => post r u.1 u.2) (fun u t => ig_Wd D kk ad bs u.1 u.2 b lb lo t) (ig_A bs)) 2 12 (ig_A bs) := by
  refine ig_ofWH (cc := cL_change) (maxL := 4) (ret := (some .int)) (hh := [(0, 6, 7, 23)]) (by decide) rfl ?_
  intro p e s m args below meth c s₁ B hml htab hv
  obtain ⟨rfl, E, hP⟩ := hv
  have hk := B.notSynchronized
  have hr := B.returns
  have F : CallFix p m c cL_change 4 s _ ig_all RL := ⟨B.exec, B.bytes, hml, findClass_of_methodNamed B.named, fun w hw => atoms_spec B.pre w (List.mem_cons_of_mem _ hw)⟩
  have Z : ig_Z D kk ad bs s s.heap [] a la b lb lo := ig_Z.rf hP
  have hl := lv_entry ([.ref (ad 0), .int x1, .int x2]) (n := 4) (Nat.le_of_ble_eq_true rfl)
  rw [lg_entry_eq]
  generalize (lg_sl ([.ref (ad 0), .int x1, .int x2]) ++ List.replicate (4 - (lg_sl ([.ref (ad 0), .int x1, .int x2])).length) Slot.unset).toArray = ls at hl ⊢
  have hl : lv_has ls 4 [(0, .ref (ad 0)), (1, .int x1), (2, .int x2)] := hl
  refine lv_aload_n F.1 F.2.1 dL_change_0 rfl (lv_at hl 0 rfl) ?_
  refine lv_iload_n F.1 F.2.1 dL_change_1 rfl (lv_at hl 1 rfl) ?_
  refine lv_iload_n F.1 F.2.1 dL_change_2 rfl (lv_at hl 2 rfl) ?_
  have hM := k_X5_change l (D := D) (kk := kk) (ad := ad) (bs := bs) (a := a) (la := la) (b := b) (lb := lb) (lo := lo) x1 x2 hlt hf
  refine ig_callXi E Z (ig_runVX (As := [.int x1, .int x2]) (rest := []) F E Z hl G_L_70 hM (i := 0) (by decide) (ig_k_0 _ _ _ _ _ _) rfl rfl md_X5_change rfl ⟨rfl, rfl⟩ ⟨Nat.le_of_ble_eq_true rfl, Nat.le_of_ble_eq_true rfl⟩ (Nat.le_of_ble_eq_true rfl) dL_change_3 ⟨(by show _ ≤ 2; omega), (by show _ ≤ 12; omega)⟩) (fun u q9 ce H locs hu Z hce hcv hcl => ?_) (fun r1 u H locs hf Z => ?_)
  · obtain ⟨rfl, hf⟩ := hu
    · refine ig_catch F E htab 2 [] [] ⟨0, 6, 7, 23⟩ rfl (by decide) (fun z hz => nomatch hz) rfl (by decide) mw_345 hce hcv hcl ?_
      refine lv_astore_n (lv' := [(3, .ref q9), (0, .ref (ad 0)), (1, .int x1), (2, .int x2)]) F.1 F.2.1 dL_change_7 rfl hl (by decide) rfl (fun ls hl => ?_)
      refine lv_ldc (v := (-99999999)) F.1 F.2.1 F.2.2.2.1 (F.2.2.2.2 _ mw_338) dL_change_8 ?_
      refine W.widen (k := 2) (n := 12) (by omega) (by omega) ?_
      exact W.iret (v := (-99999999)) F.1 F.2.1 hr (fun t ht hW => ⟨⟨_, (a, la), rfl, hf, Z.wd E ht hW⟩, Z.fr ht⟩) Z.2.2.2 dL_change_10
  · have Z := Z
    refine W.widen (k := 2) (n := 12) (by omega) (by omega) ?_
    exact W.iret (v := r1) F.1 F.2.1 hr (fun t ht hW => ⟨⟨_, (a, la), rfl, hf, Z.wd E ht hW⟩, Z.fr ht⟩) Z.2.2.2 dL_change_6
set_option maxHeartbeats 4000000 in
set_option maxRecDepth 100000 in
theorem k_L_inRound (l : Launch) {D : va_G} {kk : Nat → ClassId} {ad : Nat → Nat} {bs : Nat} {a : ig_M} {la : Int64} {b : ig_M} {lb lo : Int64} (x1 : Int32) (hlt : l.stackTraces = false) {post : Int32 → ig_M → Int64 → Prop} (hf : wp_L_inRound a la x1 post) : Met l yL_inRound (ig_wsW yL_inRound cL_inRound 3 (some .int) [(0, 5, 6, 23)]) ({ frames := 7, cells := 1, slots := 6, locals := 161 } : Room) (va_Pc [.ref (ad 0), .int x1] (ig_Wd D kk ad bs a la b lb lo)) (va_Qi (fun (r : Int32) (u : ig_M × Int64) => post r u.1 u.2) (fun u t => ig_Wd D kk ad bs u.1 u.2 b lb lo t) (ig_A bs)) 1 6 (ig_A bs) := by
  refine ig_ofWH (cc := cL_inRound) (maxL := 3) (ret := (some .int)) (hh := [(0, 5, 6, 23)]) (by decide) rfl ?_
  intro p e s m args below meth c s₁ B hml htab hv
  obtain ⟨rfl, E, hP⟩ := hv
  have hk := B.notSynchronized
  have hr := B.returns
  have F : CallFix p m c cL_inRound 3 s _ ig_all RL := ⟨B.exec, B.bytes, hml, findClass_of_methodNamed B.named, fun w hw => atoms_spec B.pre w (List.mem_cons_of_mem _ hw)⟩
  have Z : ig_Z D kk ad bs s s.heap [] a la b lb lo := ig_Z.rf hP
  have hl := lv_entry ([.ref (ad 0), .int x1]) (n := 3) (Nat.le_of_ble_eq_true rfl)
  rw [lg_entry_eq]
  generalize (lg_sl ([.ref (ad 0), .int x1]) ++ List.replicate (3 - (lg_sl ([.ref (ad 0), .int x1])).length) Slot.unset).toArray = ls at hl ⊢
  have hl : lv_has ls 3 [(0, .ref (ad 0)), (1, .int x1)] := hl
  refine lv_aload_n F.1 F.2.1 dL_inRound_0 rfl (lv_at hl 0 rfl) ?_
  refine lv_iload_n F.1 F.2.1 dL_inRound_1 rfl (lv_at hl 1 rfl) ?_
  have hM := k_X5_inRound l (D := D) (kk := kk) (ad := ad) (bs := bs) (a := a) (la := la) (b := b) (lb := lb) (lo := lo) x1 hlt hf
  refine ig_callXi E Z (ig_runVX (As := [.int x1]) (rest := []) F E Z hl G_L_73 hM (i := 0) (by decide) (ig_k_0 _ _ _ _ _ _) rfl rfl md_X5_inRound rfl ⟨rfl, rfl⟩ ⟨Nat.le_of_ble_eq_true rfl, Nat.le_of_ble_eq_true rfl⟩ (Nat.le_of_ble_eq_true rfl) dL_inRound_2 ⟨(by show _ ≤ 1; omega), (by show _ ≤ 6; omega)⟩) (fun u q9 ce H locs hu Z hce hcv hcl => ?_) (fun r1 u H locs hf Z => ?_)
  · obtain ⟨rfl, hf⟩ := hu
    · refine ig_catch F E htab 2 [] [] ⟨0, 5, 6, 23⟩ rfl (by decide) (fun z hz => nomatch hz) rfl (by decide) mw_345 hce hcv hcl ?_
      refine lv_astore_n (lv' := [(2, .ref q9), (0, .ref (ad 0)), (1, .int x1)]) F.1 F.2.1 dL_inRound_6 rfl hl (by decide) rfl (fun ls hl => ?_)
      refine lv_ldc (v := (-99999999)) F.1 F.2.1 F.2.2.2.1 (F.2.2.2.2 _ mw_338) dL_inRound_7 ?_
      refine W.widen (k := 1) (n := 6) (by omega) (by omega) ?_
      exact W.iret (v := (-99999999)) F.1 F.2.1 hr (fun t ht hW => ⟨⟨_, (a, la), rfl, hf, Z.wd E ht hW⟩, Z.fr ht⟩) Z.2.2.2 dL_inRound_9
  · obtain ⟨a2, la3⟩ := u
    have Z : ig_Z D kk ad bs s H locs a2 la3 b lb lo := Z
    refine W.widen (k := 1) (n := 6) (by omega) (by omega) ?_
    exact W.iret (v := r1) F.1 F.2.1 hr (fun t ht hW => ⟨⟨_, (a2, la3), rfl, hf, Z.wd E ht hW⟩, Z.fr ht⟩) Z.2.2.2 dL_inRound_5
end IGM
