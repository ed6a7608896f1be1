section IGM
variable {p : Program} {l : Launch} {e : Env} {s : State} {m : MethodId} {args : Array Value} {below : List Frame} {meth : Method} {c : Code}
variable {D : va_G} {kk : Nat → ClassId} {ad : Nat → Nat} {bs : Nat} {a b a9 : ig_M} {la lb lo la9 : Int64}
set_option maxHeartbeats 4000000 in
set_option maxRecDepth 100000 in
theorem k_X5_isWithin (l : Launch) {D : va_G} {kk : Nat → ClassId} {ad : Nat → Nat} {bs : Nat} {a : ig_M} {la : Int64} {b : ig_M} {lb lo : Int64} (x0 : Int32) (x1 : Int32) (x2 : Int32) {post : Int32 → Prop} (hf : wp_X5_isWithin x0 x1 x2 post) : Met l yX5_isWithin (ig_ws yX5_isWithin cX5_isWithin 3 (some .boolean)) (k2_rm 0 0) (va_Pc [.int x0, .int x1, .int x2] (ig_Wd D kk ad bs a la b lb lo)) (va_Qi (fun (r : Int32) (_ : Unit) => post r) (fun _ t => ig_Wd D kk ad bs a la b lb lo t) (ig_A bs)) 0 0 (ig_A bs) := by
  refine Met.ofW (cc := cX5_isWithin) (maxL := 3) (ret := (some .boolean)) (by decide) rfl ?_
  intro p e s m args below meth c s₁ B hml hv
  obtain ⟨rfl, E, hP⟩ := hv
  have hk := B.notSynchronized
  have hr := B.returns
  have F : CallFix p m c cX5_isWithin 3 s _ ig_all RX5 := ⟨B.exec, B.bytes, hml, findClass_of_methodNamed B.named, fun w hw => atoms_spec B.pre w (List.mem_cons_of_mem _ hw)⟩
  have Z : ig_Z D kk ad bs s s.heap [] a la b lb lo := ig_Z.rf hP
  have hl := lv_entry ([.int x0, .int x1, .int x2]) (n := 3) (Nat.le_of_ble_eq_true rfl)
  rw [lg_entry_eq]
  generalize (lg_sl ([.int x0, .int x1, .int x2]) ++ List.replicate (3 - (lg_sl ([.int x0, .int x1, .int x2])).length) Slot.unset).toArray = ls at hl ⊢
  have hl : lv_has ls 3 [(0, .int x0), (1, .int x1), (2, .int x2)] := hl
  refine lv_iload_n F.1 F.2.1 dX5_isWithin_0 rfl (lv_at hl 1 rfl) ?_
  refine lv_iload_n F.1 F.2.1 dX5_isWithin_1 rfl (lv_at hl 0 rfl) ?_
  refine lv_icmp_gt (tgt := 14) F.1 F.2.1 dX5_isWithin_2 (by decide) (fun c_1 => ?_) (fun c_1 => ?_)
  · have hf := hf.1 c_1
    refine lv_iconst (v := 0) F.1 F.2.1 dX5_isWithin_14 (by decide) ?_
    exact W.zret (v := 0) F.1 F.2.1 hr (ig_narrow (Or.inl rfl)) (fun t ht hW => ⟨⟨_, (), rfl, hf, Z.wd E ht hW⟩, Z.fr ht⟩) Z.2.2.2 dX5_isWithin_15
  · have hf := hf.2 c_1
    refine lv_iload_n F.1 F.2.1 dX5_isWithin_5 rfl (lv_at hl 0 rfl) ?_
    refine lv_iload_n F.1 F.2.1 dX5_isWithin_6 rfl (lv_at hl 2 rfl) ?_
    refine lv_icmp_gt (tgt := 14) F.1 F.2.1 dX5_isWithin_7 (by decide) (fun c_2 => ?_) (fun c_2 => ?_)
    · have hf := hf.1 c_2
      refine lv_iconst (v := 0) F.1 F.2.1 dX5_isWithin_14 (by decide) ?_
      exact W.zret (v := 0) F.1 F.2.1 hr (ig_narrow (Or.inl rfl)) (fun t ht hW => ⟨⟨_, (), rfl, hf, Z.wd E ht hW⟩, Z.fr ht⟩) Z.2.2.2 dX5_isWithin_15
    · have hf := hf.2 c_2
      refine lv_iconst (v := 1) F.1 F.2.1 dX5_isWithin_10 (by decide) ?_
      refine lv_goto (tgt := 15) F.1 F.2.1 dX5_isWithin_11 (by decide) ?_
      exact W.zret (v := 1) F.1 F.2.1 hr (ig_narrow (Or.inr rfl)) (fun t ht hW => ⟨⟨_, (), rfl, hf, Z.wd E ht hW⟩, Z.fr ht⟩) Z.2.2.2 dX5_isWithin_15
set_option maxHeartbeats 4000000 in
set_option maxRecDepth 100000 in
theorem k_X3_addPhase (l : Launch) {D : va_G} {kk : Nat → ClassId} {ad : Nat → Nat} {bs : Nat} {a : ig_M} {la : Int64} {b : ig_M} {lb lo : Int64} (x1 : Int32) (x2 : Int32) (x3 : Int32) {post : Int32 → ig_M → Int64 → Prop} (hf : wp_X3_addPhase a la x1 x2 x3 post) : Met l yX3_addPhase (ig_ws yX3_addPhase cX3_addPhase 5 (some .int)) (k2_rm 0 0) (va_Pc [.ref (ad 1), .int x1, .int x2, .int x3] (ig_Wd D kk ad bs a la b lb lo)) (va_Qi (fun (r : Int32) (u : ig_M × Int64) => post r u.1 u.2) (fun u t => ig_Wd D kk ad bs u.1 u.2 b lb lo t) (ig_A bs)) 0 0 (ig_A bs) := by
  refine Met.ofW (cc := cX3_addPhase) (maxL := 5) (ret := (some .int)) (by decide) rfl ?_
  intro p e s m args below meth c s₁ B hml hv
  obtain ⟨rfl, E, hP⟩ := hv
  have hk := B.notSynchronized
  have hr := B.returns
  have F : CallFix p m c cX3_addPhase 5 s _ ig_all RX3 := ⟨B.exec, B.bytes, hml, findClass_of_methodNamed B.named, fun w hw => atoms_spec B.pre w (List.mem_cons_of_mem _ hw)⟩
  have Z : ig_Z D kk ad bs s s.heap [] a la b lb lo := ig_Z.rf hP
  have hl := lv_entry ([.ref (ad 1), .int x1, .int x2, .int x3]) (n := 5) (Nat.le_of_ble_eq_true rfl)
  rw [lg_entry_eq]
  generalize (lg_sl ([.ref (ad 1), .int x1, .int x2, .int x3]) ++ List.replicate (5 - (lg_sl ([.ref (ad 1), .int x1, .int x2, .int x3])).length) Slot.unset).toArray = ls at hl ⊢
  have hl : lv_has ls 5 [(0, .ref (ad 1)), (1, .int x1), (2, .int x2), (3, .int x3)] := hl
  refine lv_aload_n F.1 F.2.1 dX3_addPhase_0 rfl (lv_at hl 0 rfl) ?_
  refine gf_X3_11 F E Z dX3_addPhase_1 ?_
  refine lv_aload_n F.1 F.2.1 dX3_addPhase_4 rfl (lv_at hl 0 rfl) ?_
  refine gf_X3_27 F E Z dX3_addPhase_5 ?_
  have hv1 := hf.1
  have hf := hf.2
  refine ig_aald (t0 := 3) (n := 8) (b0 := 3) F E Z rfl (Or.inl rfl) (by decide) (ig_k_2 _ _ _ _ _ _) hv1 dX3_addPhase_8 ?_
  refine lv_astore (lv' := [(4, .ref (ad (3 + ((a 1 1).toNatClampNeg)))), (0, .ref (ad 1)), (1, .int x1), (2, .int x2), (3, .int x3)]) F.1 F.2.1 dX3_addPhase_9 hl (by decide) rfl (fun ls hl => ?_)
  refine lv_aload F.1 F.2.1 dX3_addPhase_11 (lv_at hl 0 rfl) ?_
  refine lv_iload_n F.1 F.2.1 dX3_addPhase_13 rfl (lv_at hl 2 rfl) ?_
  refine pf_X3_31 F E Z (ig_lt hv1) dX3_addPhase_14 (fun H locs a2 ha2 Z => ?_)
  have hf := hf a2 ha2
  refine lv_aload F.1 F.2.1 dX3_addPhase_17 (lv_at hl 0 rfl) ?_
  refine lv_iload_n F.1 F.2.1 dX3_addPhase_19 rfl (lv_at hl 3 rfl) ?_
  refine pf_X3_34 F E Z (ig_lt hv1) dX3_addPhase_20 (fun H locs a3 ha3 Z => ?_)
  have hf := hf a3 ha3
  refine lv_aload F.1 F.2.1 dX3_addPhase_23 (lv_at hl 0 rfl) ?_
  refine lv_iload_n F.1 F.2.1 dX3_addPhase_25 rfl (lv_at hl 4 rfl) ?_
  refine pf_X3_37 F E Z (ig_lt hv1) dX3_addPhase_26 (fun H locs a4 ha4 Z => ?_)
  have hf := hf a4 ha4
  refine lv_aload_n F.1 F.2.1 dX3_addPhase_29 rfl (lv_at hl 1 rfl) ?_
  refine lv_dup F.1 F.2.1 dX3_addPhase_30 rfl ?_
  refine gf_X3_27 F E Z dX3_addPhase_31 ?_
  refine lv_dup_x1 F.1 F.2.1 dX3_addPhase_34 rfl rfl ?_
  refine lv_iconst (v := 1) F.1 F.2.1 dX3_addPhase_35 (by decide) ?_
  refine lv_iadd F.1 F.2.1 dX3_addPhase_36 ?_
  refine pf_X3_27 F E Z dX3_addPhase_37 (fun H locs a5 ha5 Z => ?_)
  have hf := hf a5 ha5
  exact W.iret (v := a4 1 1) F.1 F.2.1 hr (fun t ht hW => ⟨⟨_, (a5, la), rfl, hf, Z.wd E ht hW⟩, Z.fr ht⟩) Z.2.2.2 dX3_addPhase_40
set_option maxHeartbeats 4000000 in
set_option maxRecDepth 100000 in
theorem k_X3_setOf (l : Launch) {D : va_G} {kk : Nat → ClassId} {ad : Nat → Nat} {bs : Nat} {a : ig_M} {la : Int64} {b : ig_M} {lb lo : Int64} (x1 : Int32) {post : Int32 → Prop} (hf : wp_X3_setOf a la x1 post) : Met l yX3_setOf (ig_ws yX3_setOf cX3_setOf 2 (some .int)) (k2_rm 1 22) (va_Pc [.ref (ad 1), .int x1] (ig_Wd D kk ad bs a la b lb lo)) (va_Qi (fun (r : Int32) (_ : Unit) => post r) (fun _ t => ig_Wd D kk ad bs a la b lb lo t) (ig_A bs)) 0 0 (ig_A bs) := by
  refine Met.ofW (cc := cX3_setOf) (maxL := 2) (ret := (some .int)) (by decide) rfl ?_
  intro p e s m args below meth c s₁ B hml hv
  obtain ⟨rfl, E, hP⟩ := hv
  have hk := B.notSynchronized
  have hr := B.returns
  have F : CallFix p m c cX3_setOf 2 s _ ig_all RX3 := ⟨B.exec, B.bytes, hml, findClass_of_methodNamed B.named, fun w hw => atoms_spec B.pre w (List.mem_cons_of_mem _ hw)⟩
  have Z : ig_Z D kk ad bs s s.heap [] a la b lb lo := ig_Z.rf hP
  have hl := lv_entry ([.ref (ad 1), .int x1]) (n := 2) (Nat.le_of_ble_eq_true rfl)
  rw [lg_entry_eq]
  generalize (lg_sl ([.ref (ad 1), .int x1]) ++ List.replicate (2 - (lg_sl ([.ref (ad 1), .int x1])).length) Slot.unset).toArray = ls at hl ⊢
  have hl : lv_has ls 2 [(0, .ref (ad 1)), (1, .int x1)] := hl
  refine lv_iload_n F.1 F.2.1 dX3_setOf_0 rfl (lv_at hl 1 rfl) ?_
  refine lv_iconst (v := 0) F.1 F.2.1 dX3_setOf_1 (by decide) ?_
  refine lv_aload_n F.1 F.2.1 dX3_setOf_2 rfl (lv_at hl 0 rfl) ?_
  refine gf_X3_40 F E Z dX3_setOf_3 ?_
  refine lv_iconst (v := 1) F.1 F.2.1 dX3_setOf_6 (by decide) ?_
  refine lv_isub F.1 F.2.1 dX3_setOf_7 ?_
  have hM := k_X5_isWithin l (D := D) (kk := kk) (ad := ad) (bs := bs) (a := a) (la := la) (b := b) (lb := lb) (lo := lo) x1 0 ((a 1 4) - 1) hf
  refine ig_calli E Z (ig_runSN (As := [.int x1, .int 0, .int ((a 1 4) - 1)]) (rest := []) F E Z hl (host := "Intergreen") (by decide +kernel) G_X3_43 G_X3_43_i G_X3_43_s hM md_X5_isWithin rfl ⟨rfl, rfl⟩ ⟨Nat.le_of_ble_eq_true rfl, Nat.le_of_ble_eq_true rfl⟩ (Nat.le_of_ble_eq_true rfl) dX3_setOf_8 ⟨Nat.le_of_ble_eq_true rfl, Nat.le_of_ble_eq_true rfl⟩) (fun r1 u H locs hf Z => ?_)
  refine lv_if_eq (tgt := 23) F.1 F.2.1 dX3_setOf_11 (by decide) (fun c_2 => ?_) (fun c_2 => ?_)
  · have hf := hf.1 c_2
    refine lv_iconst (v := 0) F.1 F.2.1 dX3_setOf_23 (by decide) ?_
    exact W.iret (v := 0) F.1 F.2.1 hr (fun t ht hW => ⟨⟨_, (), rfl, hf, Z.wd E ht hW⟩, Z.fr ht⟩) Z.2.2.2 dX3_setOf_24
  · have hf := hf.2 c_2
    refine lv_aload_n F.1 F.2.1 dX3_setOf_14 rfl (lv_at hl 0 rfl) ?_
    refine gf_X3_22 F E Z dX3_setOf_15 ?_
    refine lv_iload_n F.1 F.2.1 dX3_setOf_18 rfl (lv_at hl 1 rfl) ?_
    have hv3 := hf.1
    have hf := hf.2
    refine ig_iald (f := a 20) F E Z (by decide) (by rw [ig_mm_a _ _ (by decide)]; exact (ig_k_20 _ _ _ _ _ _)) hv3 dX3_setOf_19 ?_
    refine lv_goto (tgt := 24) F.1 F.2.1 dX3_setOf_20 (by decide) ?_
    exact W.iret (v := a 20 x1.toNatClampNeg) F.1 F.2.1 hr (fun t ht hW => ⟨⟨_, (), rfl, hf, Z.wd E ht hW⟩, Z.fr ht⟩) Z.2.2.2 dX3_setOf_24
set_option maxHeartbeats 4000000 in
set_option maxRecDepth 100000 in
theorem k_X5_has (l : Launch) {D : va_G} {kk : Nat → ClassId} {ad : Nat → Nat} {bs : Nat} {a : ig_M} {la : Int64} {b : ig_M} {lb lo : Int64} (x0 : Int32) (x1 : Int32) {post : Int32 → Prop} (hf : wp_X5_has x0 x1 post) : Met l yX5_has (ig_ws yX5_has cX5_has 2 (some .boolean)) (k2_rm 0 0) (va_Pc [.int x0, .int x1] (ig_Wd D kk ad bs a la b lb lo)) (va_Qi (fun (r : Int32) (_ : Unit) => post r) (fun _ t => ig_Wd D kk ad bs a la b lb lo t) (ig_A bs)) 0 0 (ig_A bs) := by
  refine Met.ofW (cc := cX5_has) (maxL := 2) (ret := (some .boolean)) (by decide) rfl ?_
  intro p e s m args below meth c s₁ B hml hv
  obtain ⟨rfl, E, hP⟩ := hv
  have hk := B.notSynchronized
  have hr := B.returns
  have F : CallFix p m c cX5_has 2 s _ ig_all RX5 := ⟨B.exec, B.bytes, hml, findClass_of_methodNamed B.named, fun w hw => atoms_spec B.pre w (List.mem_cons_of_mem _ hw)⟩
  have Z : ig_Z D kk ad bs s s.heap [] a la b lb lo := ig_Z.rf hP
  have hl := lv_entry ([.int x0, .int x1]) (n := 2) (Nat.le_of_ble_eq_true rfl)
  rw [lg_entry_eq]
  generalize (lg_sl ([.int x0, .int x1]) ++ List.replicate (2 - (lg_sl ([.int x0, .int x1])).length) Slot.unset).toArray = ls at hl ⊢
  have hl : lv_has ls 2 [(0, .int x0), (1, .int x1)] := hl
  refine lv_iload_n F.1 F.2.1 dX5_has_0 rfl (lv_at hl 0 rfl) ?_
  refine lv_iload_n F.1 F.2.1 dX5_has_1 rfl (lv_at hl 1 rfl) ?_
  refine lv_ishr F.1 F.2.1 dX5_has_2 ?_
  refine lv_iconst (v := 1) F.1 F.2.1 dX5_has_3 (by decide) ?_
  refine lv_iand F.1 F.2.1 dX5_has_4 ?_
  refine lv_if_eq (tgt := 12) F.1 F.2.1 dX5_has_5 (by decide) (fun c_1 => ?_) (fun c_1 => ?_)
  · have hf := hf.1 c_1
    refine lv_iconst (v := 0) F.1 F.2.1 dX5_has_12 (by decide) ?_
    exact W.zret (v := 0) F.1 F.2.1 hr (ig_narrow (Or.inl rfl)) (fun t ht hW => ⟨⟨_, (), rfl, hf, Z.wd E ht hW⟩, Z.fr ht⟩) Z.2.2.2 dX5_has_13
  · have hf := hf.2 c_1
    refine lv_iconst (v := 1) F.1 F.2.1 dX5_has_8 (by decide) ?_
    refine lv_goto (tgt := 13) F.1 F.2.1 dX5_has_9 (by decide) ?_
    exact W.zret (v := 1) F.1 F.2.1 hr (ig_narrow (Or.inr rfl)) (fun t ht hW => ⟨⟨_, (), rfl, hf, Z.wd E ht hW⟩, Z.fr ht⟩) Z.2.2.2 dX5_has_13
set_option maxHeartbeats 4000000 in
set_option maxRecDepth 100000 in
theorem wm_X3_hasStageWithBoth_2 (F : CallFix p m c cX3_hasStageWithBoth 4 s args ig_all RX3) (E : ig_E D kk ad bs s) (hr : meth.sig.returnType = (some .boolean)) (hk : meth.locks = false) (post : Int32 → Prop) :
    ∀ (n : Nat) (x1 : Int32) (x2 : Int32) (x3 : Int32) (H : Heap) (locs : List Loc) (ls : Array Slot), wp_X3_hasStageWithBoth_2 a la post n x1 x2 x3 → ig_Z D kk ad bs s H locs a la b lb lo → lv_has ls 4 [(0, .ref (ad 1)), (1, .int x1), (2, .int x2), (3, .int x3)] → W p l e (k2_rm 2 43) s m args below meth c H locs 0 0 (MQ below (va_Qi (fun (r : Int32) (_ : Unit) => post r) (fun _ t => ig_Wd D kk ad bs a la b lb lo t) (ig_A bs)) args s 0 0 (ig_A bs)) (F0 m 2 ls []) := by
  intro n
  induction n with
  | zero => intro x1 x2 x3 H locs ls hf Z hl; exact False.elim hf
  | succ n ih =>
    intro x1 x2 x3 H locs ls hf Z hl
    refine lv_iload_n F.1 F.2.1 dX3_hasStageWithBoth_2 rfl (lv_at hl 3 rfl) ?_
    refine lv_aload_n F.1 F.2.1 dX3_hasStageWithBoth_3 rfl (lv_at hl 0 rfl) ?_
    refine gf_X3_40 F E Z dX3_hasStageWithBoth_4 ?_
    refine lv_icmp_ge (tgt := 42) F.1 F.2.1 dX3_hasStageWithBoth_7 (by decide) (fun c_1 => ?_) (fun c_1 => ?_)
    · have hf := hf.1 c_1
      refine lv_iconst (v := 0) F.1 F.2.1 dX3_hasStageWithBoth_42 (by decide) ?_
      exact W.zret (v := 0) F.1 F.2.1 hr (ig_narrow (Or.inl rfl)) (fun t ht hW => ⟨⟨_, (), rfl, hf, Z.wd E ht hW⟩, Z.fr ht⟩) Z.2.2.2 dX3_hasStageWithBoth_43
    · have hf := hf.2 c_1
      refine lv_aload_n F.1 F.2.1 dX3_hasStageWithBoth_10 rfl (lv_at hl 0 rfl) ?_
      refine lv_iload_n F.1 F.2.1 dX3_hasStageWithBoth_11 rfl (lv_at hl 3 rfl) ?_
      have hM := k_X3_setOf l (D := D) (kk := kk) (ad := ad) (bs := bs) (a := a) (la := la) (b := b) (lb := lb) (lo := lo) x3 hf
      refine ig_calli E Z (ig_runV (As := [.int x3]) (rest := []) F E Z hl G_X3_47 hM (i := 1) (by decide) (ig_k_1 _ _ _ _ _ _) rfl rfl md_X3_setOf rfl ⟨rfl, rfl⟩ ⟨Nat.le_of_ble_eq_true rfl, Nat.le_of_ble_eq_true rfl⟩ (Nat.le_of_ble_eq_true rfl) dX3_hasStageWithBoth_12 ⟨Nat.le_of_ble_eq_true rfl, Nat.le_of_ble_eq_true rfl⟩) (fun r2 u H locs hf Z => ?_)
      refine lv_iload_n F.1 F.2.1 dX3_hasStageWithBoth_15 rfl (lv_at hl 1 rfl) ?_
      have hM := k_X5_has l (D := D) (kk := kk) (ad := ad) (bs := bs) (a := a) (la := la) (b := b) (lb := lb) (lo := lo) r2 x1 hf
      refine ig_calli E Z (ig_runSN (As := [.int r2, .int x1]) (rest := []) F E Z hl (host := "Intergreen") (by decide +kernel) G_X3_51 G_X3_51_i G_X3_51_s hM md_X5_has rfl ⟨rfl, rfl⟩ ⟨Nat.le_of_ble_eq_true rfl, Nat.le_of_ble_eq_true rfl⟩ (Nat.le_of_ble_eq_true rfl) dX3_hasStageWithBoth_16 ⟨Nat.le_of_ble_eq_true rfl, Nat.le_of_ble_eq_true rfl⟩) (fun r3 u H locs hf Z => ?_)
      refine lv_if_eq (tgt := 36) F.1 F.2.1 dX3_hasStageWithBoth_19 (by decide) (fun c_4 => ?_) (fun c_4 => ?_)
      · have hf := hf.1 c_4
        refine lv_iinc (v := x3 + 1) (lv' := [(3, .int (x3 + 1)), (0, .ref (ad 1)), (1, .int x1), (2, .int x2)]) F.1 F.2.1 dX3_hasStageWithBoth_36 hl (k := 3) rfl (by rfl) (by decide) rfl (fun ls hl => ?_)
        refine lv_goto (tgt := 2) F.1 F.2.1 dX3_hasStageWithBoth_39 (by decide) ?_
        exact ih x1 x2 (x3 + 1) _ _ _ hf Z (lv_sub hl [1, 2, 3, 0] rfl)
      · have hf := hf.2 c_4
        refine lv_aload_n F.1 F.2.1 dX3_hasStageWithBoth_22 rfl (lv_at hl 0 rfl) ?_
        refine lv_iload_n F.1 F.2.1 dX3_hasStageWithBoth_23 rfl (lv_at hl 3 rfl) ?_
        have hM := k_X3_setOf l (D := D) (kk := kk) (ad := ad) (bs := bs) (a := a) (la := la) (b := b) (lb := lb) (lo := lo) x3 hf
        refine ig_calli E Z (ig_runV (As := [.int x3]) (rest := []) F E Z hl G_X3_47 hM (i := 1) (by decide) (ig_k_1 _ _ _ _ _ _) rfl rfl md_X3_setOf rfl ⟨rfl, rfl⟩ ⟨Nat.le_of_ble_eq_true rfl, Nat.le_of_ble_eq_true rfl⟩ (Nat.le_of_ble_eq_true rfl) dX3_hasStageWithBoth_24 ⟨Nat.le_of_ble_eq_true rfl, Nat.le_of_ble_eq_true rfl⟩) (fun r5 u H locs hf Z => ?_)
        refine lv_iload_n F.1 F.2.1 dX3_hasStageWithBoth_27 rfl (lv_at hl 2 rfl) ?_
        have hM := k_X5_has l (D := D) (kk := kk) (ad := ad) (bs := bs) (a := a) (la := la) (b := b) (lb := lb) (lo := lo) r5 x2 hf
        refine ig_calli E Z (ig_runSN (As := [.int r5, .int x2]) (rest := []) F E Z hl (host := "Intergreen") (by decide +kernel) G_X3_51 G_X3_51_i G_X3_51_s hM md_X5_has rfl ⟨rfl, rfl⟩ ⟨Nat.le_of_ble_eq_true rfl, Nat.le_of_ble_eq_true rfl⟩ (Nat.le_of_ble_eq_true rfl) dX3_hasStageWithBoth_28 ⟨Nat.le_of_ble_eq_true rfl, Nat.le_of_ble_eq_true rfl⟩) (fun r6 u H locs hf Z => ?_)
        refine lv_if_eq (tgt := 36) F.1 F.2.1 dX3_hasStageWithBoth_31 (by decide) (fun c_7 => ?_) (fun c_7 => ?_)
        · have hf := hf.1 c_7
          refine lv_iinc (v := x3 + 1) (lv' := [(3, .int (x3 + 1)), (0, .ref (ad 1)), (1, .int x1), (2, .int x2)]) F.1 F.2.1 dX3_hasStageWithBoth_36 hl (k := 3) rfl (by rfl) (by decide) rfl (fun ls hl => ?_)
          refine lv_goto (tgt := 2) F.1 F.2.1 dX3_hasStageWithBoth_39 (by decide) ?_
          exact ih x1 x2 (x3 + 1) _ _ _ hf Z (lv_sub hl [1, 2, 3, 0] rfl)
        · have hf := hf.2 c_7
          refine lv_iconst (v := 1) F.1 F.2.1 dX3_hasStageWithBoth_34 (by decide) ?_
          exact W.zret (v := 1) F.1 F.2.1 hr (ig_narrow (Or.inr rfl)) (fun t ht hW => ⟨⟨_, (), rfl, hf, Z.wd E ht hW⟩, Z.fr ht⟩) Z.2.2.2 dX3_hasStageWithBoth_35
set_option maxHeartbeats 4000000 in
set_option maxRecDepth 100000 in
theorem k_X3_hasStageWithBoth (l : Launch) {D : va_G} {kk : Nat → ClassId} {ad : Nat → Nat} {bs : Nat} {a : ig_M} {la : Int64} {b : ig_M} {lb lo : Int64} (x1 : Int32) (x2 : Int32) {post : Int32 → Prop} (hf : wp_X3_hasStageWithBoth a la x1 x2 post) : Met l yX3_hasStageWithBoth (ig_ws yX3_hasStageWithBoth cX3_hasStageWithBoth 4 (some .boolean)) (k2_rm 2 43) (va_Pc [.ref (ad 1), .int x1, .int x2] (ig_Wd D kk ad bs a la b lb lo)) (va_Qi (fun (r : Int32) (_ : Unit) => post r) (fun _ t => ig_Wd D kk ad bs a la b lb lo t) (ig_A bs)) 0 0 (ig_A bs) := by
  refine Met.ofW (cc := cX3_hasStageWithBoth) (maxL := 4) (ret := (some .boolean)) (by decide) rfl ?_
  intro p e s m args below meth c s₁ B hml hv
  obtain ⟨rfl, E, hP⟩ := hv
  have hk := B.notSynchronized
  have hr := B.returns
  have F : CallFix p m c cX3_hasStageWithBoth 4 s _ ig_all RX3 := ⟨B.exec, B.bytes, hml, findClass_of_methodNamed B.named, fun w hw => atoms_spec B.pre w (List.mem_cons_of_mem _ hw)⟩
  have Z : ig_Z D kk ad bs s s.heap [] a la b lb lo := ig_Z.rf hP
  have hl := lv_entry ([.ref (ad 1), .int x1, .int x2]) (n := 4) (Nat.le_of_ble_eq_true rfl)
  rw [lg_entry_eq]
  generalize (lg_sl ([.ref (ad 1), .int x1, .int x2]) ++ List.replicate (4 - (lg_sl ([.ref (ad 1), .int x1, .int x2])).length) Slot.unset).toArray = ls at hl ⊢
  have hl : lv_has ls 4 [(0, .ref (ad 1)), (1, .int x1), (2, .int x2)] := hl
  refine lv_iconst (v := 0) F.1 F.2.1 dX3_hasStageWithBoth_0 (by decide) ?_
  refine lv_istore_n (lv' := [(3, .int 0), (0, .ref (ad 1)), (1, .int x1), (2, .int x2)]) F.1 F.2.1 dX3_hasStageWithBoth_1 rfl hl (by decide) rfl (fun ls hl => ?_)
  obtain ⟨n1, hf⟩ := hf
  exact wm_X3_hasStageWithBoth_2 F E hr hk post n1 x1 x2 0 _ _ _ hf Z (lv_sub hl [1, 2, 3, 0] rfl)
set_option maxHeartbeats 4000000 in
set_option maxRecDepth 100000 in
theorem k_X3_setBetween (l : Launch) {D : va_G} {kk : Nat → ClassId} {ad : Nat → Nat} {bs : Nat} {a : ig_M} {la : Int64} {b : ig_M} {lb lo : Int64} (x1 : Int32) (x2 : Int32) (x3 : Int32) {post : ig_M → Int64 → Prop} (hf : wp_X3_setBetween a la x1 x2 x3 post) : Met l yX3_setBetween (ig_ws yX3_setBetween cX3_setBetween 4 none) (k2_rm 0 0) (va_Pc [.ref (ad 1), .int x1, .int x2, .int x3] (ig_Wd D kk ad bs a la b lb lo)) (va_Qv (fun u : ig_M × Int64 => post u.1 u.2) (fun u t => ig_Wd D kk ad bs u.1 u.2 b lb lo t) (ig_A bs)) 0 0 (ig_A bs) := by
  refine Met.ofW (cc := cX3_setBetween) (maxL := 4) (ret := none) (by decide) rfl ?_
  intro p e s m args below meth c s₁ B hml hv
  obtain ⟨rfl, E, hP⟩ := hv
  have hk := B.notSynchronized
  have hr := B.returns
  have F : CallFix p m c cX3_setBetween 4 s _ ig_all RX3 := ⟨B.exec, B.bytes, hml, findClass_of_methodNamed B.named, fun w hw => atoms_spec B.pre w (List.mem_cons_of_mem _ hw)⟩
  have Z : ig_Z D kk ad bs s s.heap [] a la b lb lo := ig_Z.rf hP
  have hl := lv_entry ([.ref (ad 1), .int x1, .int x2, .int x3]) (n := 4) (Nat.le_of_ble_eq_true rfl)
  rw [lg_entry_eq]
  generalize (lg_sl ([.ref (ad 1), .int x1, .int x2, .int x3]) ++ List.replicate (4 - (lg_sl ([.ref (ad 1), .int x1, .int x2, .int x3])).length) Slot.unset).toArray = ls at hl ⊢
  have hl : lv_has ls 4 [(0, .ref (ad 1)), (1, .int x1), (2, .int x2), (3, .int x3)] := hl
  refine lv_aload_n F.1 F.2.1 dX3_setBetween_0 rfl (lv_at hl 0 rfl) ?_
  refine gf_X3_19 F E Z dX3_setBetween_1 ?_
  refine lv_iload_n F.1 F.2.1 dX3_setBetween_4 rfl (lv_at hl 1 rfl) ?_
  have hv1 := hf.1
  have hf := hf.2
  refine ig_aald (t0 := 4) (n := 8) (b0 := 12) F E Z rfl (Or.inr rfl) (by decide) (ig_k_11 _ _ _ _ _ _) hv1 dX3_setBetween_5 ?_
  refine lv_iload_n F.1 F.2.1 dX3_setBetween_6 rfl (lv_at hl 2 rfl) ?_
  refine lv_iload_n F.1 F.2.1 dX3_setBetween_7 rfl (lv_at hl 3 rfl) ?_
  have hv2 := hf.1
  have hf := hf.2
  refine ig_iastA (n := 8) F E Z (by have := ig_lt hv1; omega) (fun r => ig_c_rb _ _ _ _ _ r (ig_lt hv1)) hv2 dX3_setBetween_8 (fun H locs a3 ha3 Z => ?_)
  have hf := hf a3 ha3
  exact W.vret F.1 F.2.1 hr (fun t ht hW => ⟨⟨(a3, la), rfl, hf, Z.wd E ht hW⟩, Z.fr ht⟩) Z.2.2.2 dX3_setBetween_9
set_option maxHeartbeats 4000000 in
set_option maxRecDepth 100000 in
theorem wm_X3_mostBetween_5 (F : CallFix p m c cX3_mostBetween 5 s args ig_all RX3) (E : ig_E D kk ad bs s) (hr : meth.sig.returnType = (some .int)) (hk : meth.locks = false) (post : Int32 → Prop) :
    ∀ (n : Nat) (x1 : Int32) (x2 : Int32) (x3 : Int32) (x4 : Int32) (H : Heap) (locs : List Loc) (ls : Array Slot), wp_X3_mostBetween_5 a la post n x1 x2 x3 x4 → ig_Z D kk ad bs s H locs a la b lb lo → lv_has ls 5 [(0, .ref (ad 1)), (1, .int x1), (2, .int x2), (3, .int x3), (4, .int x4)] → W p l e (k2_rm 1 21) s m args below meth c H locs 0 0 (MQ below (va_Qi (fun (r : Int32) (_ : Unit) => post r) (fun _ t => ig_Wd D kk ad bs a la b lb lo t) (ig_A bs)) args s 0 0 (ig_A bs)) (F0 m 5 ls []) := by
  intro n
  induction n with
  | zero => intro x1 x2 x3 x4 H locs ls hf Z hl; exact False.elim hf
  | succ n ih =>
    intro x1 x2 x3 x4 H locs ls hf Z hl
    refine lv_iload F.1 F.2.1 dX3_mostBetween_5 (lv_at hl 4 rfl) ?_
    refine lv_aload_n F.1 F.2.1 dX3_mostBetween_7 rfl (lv_at hl 0 rfl) ?_
    refine gf_X3_27 F E Z dX3_mostBetween_8 ?_
    refine lv_icmp_ge (tgt := 43) F.1 F.2.1 dX3_mostBetween_11 (by decide) (fun c_1 => ?_) (fun c_1 => ?_)
    · have hf := hf.1 c_1
      refine lv_iload_n F.1 F.2.1 dX3_mostBetween_43 rfl (lv_at hl 3 rfl) ?_
      exact W.iret (v := x3) F.1 F.2.1 hr (fun t ht hW => ⟨⟨_, (), rfl, hf, Z.wd E ht hW⟩, Z.fr ht⟩) Z.2.2.2 dX3_mostBetween_44
    · have hf := hf.2 c_1
      refine lv_iload_n F.1 F.2.1 dX3_mostBetween_14 rfl (lv_at hl 2 rfl) ?_
      refine lv_iload F.1 F.2.1 dX3_mostBetween_15 (lv_at hl 4 rfl) ?_
      have hM := k_X5_has l (D := D) (kk := kk) (ad := ad) (bs := bs) (a := a) (la := la) (b := b) (lb := lb) (lo := lo) x2 x4 hf
      refine ig_calli E Z (ig_runSN (As := [.int x2, .int x4]) (rest := []) F E Z hl (host := "Intergreen") (by decide +kernel) G_X3_51 G_X3_51_i G_X3_51_s hM md_X5_has rfl ⟨rfl, rfl⟩ ⟨Nat.le_of_ble_eq_true rfl, Nat.le_of_ble_eq_true rfl⟩ (Nat.le_of_ble_eq_true rfl) dX3_mostBetween_17 ⟨Nat.le_of_ble_eq_true rfl, Nat.le_of_ble_eq_true rfl⟩) (fun r2 u H locs hf Z => ?_)
      refine lv_if_eq (tgt := 37) F.1 F.2.1 dX3_mostBetween_20 (by decide) (fun c_3 => ?_) (fun c_3 => ?_)
      · have hf := hf.1 c_3
        refine lv_iinc (v := x4 + 1) (lv' := [(4, .int (x4 + 1)), (0, .ref (ad 1)), (1, .int x1), (2, .int x2), (3, .int x3)]) F.1 F.2.1 dX3_mostBetween_37 hl (k := 4) rfl (by rfl) (by decide) rfl (fun ls hl => ?_)
        refine lv_goto (tgt := 5) F.1 F.2.1 dX3_mostBetween_40 (by decide) ?_
        exact ih x1 x2 x3 (x4 + 1) _ _ _ hf Z (lv_sub hl [1, 2, 3, 4, 0] rfl)
      · have hf := hf.2 c_3
        refine lv_iload_n F.1 F.2.1 dX3_mostBetween_23 rfl (lv_at hl 3 rfl) ?_
        refine lv_aload_n F.1 F.2.1 dX3_mostBetween_24 rfl (lv_at hl 0 rfl) ?_
        refine gf_X3_19 F E Z dX3_mostBetween_25 ?_
        refine lv_iload_n F.1 F.2.1 dX3_mostBetween_28 rfl (lv_at hl 1 rfl) ?_
        have hv4 := hf.1
        have hf := hf.2
        refine ig_aald (t0 := 4) (n := 8) (b0 := 12) F E Z rfl (Or.inr rfl) (by decide) (ig_k_11 _ _ _ _ _ _) hv4 dX3_mostBetween_29 ?_
        refine lv_iload F.1 F.2.1 dX3_mostBetween_30 (lv_at hl 4 rfl) ?_
        have hv5 := hf.1
        have hf := hf.2
        refine ig_iald (f := a (12 + x1.toNatClampNeg)) F E Z (by have := ig_lt hv4; omega) (by rw [ig_mm_a _ _ (by have := ig_lt hv4; omega)]; exact (ig_c_rb _ _ _ _ _ _ (ig_lt hv4))) hv5 dX3_mostBetween_32 ?_
        refine va_mmax F.1 F.2.1 (F.2.2.1.trans hl.1.symm) F.2.2.2.1 (F.2.2.2.2 _ mw_322) (F.2.2.2.2 _ mw_323) (F.2.2.2.2 _ mw_324) (F.2.2.2.2 _ mw_325) (Nat.le_of_ble_eq_true rfl) (Nat.le_of_ble_eq_true rfl) (Nat.le_of_ble_eq_true rfl) (Nat.le_of_ble_eq_true rfl) dX3_mostBetween_33 ?_
        refine lv_istore_n (lv' := [(3, .int (if x3 < (a (12 + x1.toNatClampNeg) x4.toNatClampNeg) then (a (12 + x1.toNatClampNeg) x4.toNatClampNeg) else x3)), (0, .ref (ad 1)), (1, .int x1), (2, .int x2), (4, .int x4)]) F.1 F.2.1 dX3_mostBetween_36 rfl hl (by decide) rfl (fun ls hl => ?_)
        refine lv_iinc (v := x4 + 1) (lv' := [(4, .int (x4 + 1)), (3, .int (if x3 < (a (12 + x1.toNatClampNeg) x4.toNatClampNeg) then (a (12 + x1.toNatClampNeg) x4.toNatClampNeg) else x3)), (0, .ref (ad 1)), (1, .int x1), (2, .int x2)]) F.1 F.2.1 dX3_mostBetween_37 hl (k := 4) rfl (by rfl) (by decide) rfl (fun ls hl => ?_)
        refine lv_goto (tgt := 5) F.1 F.2.1 dX3_mostBetween_40 (by decide) ?_
        exact ih x1 x2 (if x3 < (a (12 + x1.toNatClampNeg) x4.toNatClampNeg) then (a (12 + x1.toNatClampNeg) x4.toNatClampNeg) else x3) (x4 + 1) _ _ _ hf Z (lv_sub hl [2, 3, 4, 1, 0] rfl)
set_option maxHeartbeats 4000000 in
set_option maxRecDepth 100000 in
theorem k_X3_mostBetween (l : Launch) {D : va_G} {kk : Nat → ClassId} {ad : Nat → Nat} {bs : Nat} {a : ig_M} {la : Int64} {b : ig_M} {lb lo : Int64} (x1 : Int32) (x2 : Int32) {post : Int32 → Prop} (hf : wp_X3_mostBetween a la x1 x2 post) : Met l yX3_mostBetween (ig_ws yX3_mostBetween cX3_mostBetween 5 (some .int)) (k2_rm 1 21) (va_Pc [.ref (ad 1), .int x1, .int x2] (ig_Wd D kk ad bs a la b lb lo)) (va_Qi (fun (r : Int32) (_ : Unit) => post r) (fun _ t => ig_Wd D kk ad bs a la b lb lo t) (ig_A bs)) 0 0 (ig_A bs) := by
  refine Met.ofW (cc := cX3_mostBetween) (maxL := 5) (ret := (some .int)) (by decide) rfl ?_
  intro p e s m args below meth c s₁ B hml hv
  obtain ⟨rfl, E, hP⟩ := hv
  have hk := B.notSynchronized
  have hr := B.returns
  have F : CallFix p m c cX3_mostBetween 5 s _ ig_all RX3 := ⟨B.exec, B.bytes, hml, findClass_of_methodNamed B.named, fun w hw => atoms_spec B.pre w (List.mem_cons_of_mem _ hw)⟩
  have Z : ig_Z D kk ad bs s s.heap [] a la b lb lo := ig_Z.rf hP
  have hl := lv_entry ([.ref (ad 1), .int x1, .int x2]) (n := 5) (Nat.le_of_ble_eq_true rfl)
  rw [lg_entry_eq]
  generalize (lg_sl ([.ref (ad 1), .int x1, .int x2]) ++ List.replicate (5 - (lg_sl ([.ref (ad 1), .int x1, .int x2])).length) Slot.unset).toArray = ls at hl ⊢
  have hl : lv_has ls 5 [(0, .ref (ad 1)), (1, .int x1), (2, .int x2)] := hl
  refine lv_iconst (v := 0) F.1 F.2.1 dX3_mostBetween_0 (by decide) ?_
  refine lv_istore_n (lv' := [(3, .int 0), (0, .ref (ad 1)), (1, .int x1), (2, .int x2)]) F.1 F.2.1 dX3_mostBetween_1 rfl hl (by decide) rfl (fun ls hl => ?_)
  refine lv_iconst (v := 0) F.1 F.2.1 dX3_mostBetween_2 (by decide) ?_
  refine lv_istore (lv' := [(4, .int 0), (3, .int 0), (0, .ref (ad 1)), (1, .int x1), (2, .int x2)]) F.1 F.2.1 dX3_mostBetween_3 hl (by decide) rfl (fun ls hl => ?_)
  obtain ⟨n1, hf⟩ := hf
  exact wm_X3_mostBetween_5 F E hr hk post n1 x1 x2 0 0 _ _ _ hf Z (lv_sub hl [2, 3, 4, 1, 0] rfl)
set_option maxHeartbeats 4000000 in
set_option maxRecDepth 100000 in
theorem wm_X3_hasTwoThatMeet_2 (F : CallFix p m c cX3_hasTwoThatMeet 3 s args ig_all RX3) (E : ig_E D kk ad bs s) (hr : meth.sig.returnType = (some .boolean)) (hk : meth.locks = false) (post : Int32 → Prop) :
    ∀ (n : Nat) (x1 : Int32) (x2 : Int32) (H : Heap) (locs : List Loc) (ls : Array Slot), wp_X3_hasTwoThatMeet_2 a la post n x1 x2 → ig_Z D kk ad bs s H locs a la b lb lo → lv_has ls 3 [(0, .ref (ad 1)), (1, .int x1), (2, .int x2)] → W p l e (k2_rm 2 45) s m args below meth c H locs 0 0 (MQ below (va_Qi (fun (r : Int32) (_ : Unit) => post r) (fun _ t => ig_Wd D kk ad bs a la b lb lo t) (ig_A bs)) args s 0 0 (ig_A bs)) (F0 m 2 ls []) := by
  intro n
  induction n with
  | zero => intro x1 x2 H locs ls hf Z hl; exact False.elim hf
  | succ n ih =>
    intro x1 x2 H locs ls hf Z hl
    refine lv_iload_n F.1 F.2.1 dX3_hasTwoThatMeet_2 rfl (lv_at hl 2 rfl) ?_
    refine lv_aload_n F.1 F.2.1 dX3_hasTwoThatMeet_3 rfl (lv_at hl 0 rfl) ?_
    refine gf_X3_27 F E Z dX3_hasTwoThatMeet_4 ?_
    refine lv_icmp_ge (tgt := 35) F.1 F.2.1 dX3_hasTwoThatMeet_7 (by decide) (fun c_1 => ?_) (fun c_1 => ?_)
    · have hf := hf.1 c_1
      refine lv_iconst (v := 0) F.1 F.2.1 dX3_hasTwoThatMeet_35 (by decide) ?_
      exact W.zret (v := 0) F.1 F.2.1 hr (ig_narrow (Or.inl rfl)) (fun t ht hW => ⟨⟨_, (), rfl, hf, Z.wd E ht hW⟩, Z.fr ht⟩) Z.2.2.2 dX3_hasTwoThatMeet_36
    · have hf := hf.2 c_1
      refine lv_iload_n F.1 F.2.1 dX3_hasTwoThatMeet_10 rfl (lv_at hl 1 rfl) ?_
      refine lv_iload_n F.1 F.2.1 dX3_hasTwoThatMeet_11 rfl (lv_at hl 2 rfl) ?_
      have hM := k_X5_has l (D := D) (kk := kk) (ad := ad) (bs := bs) (a := a) (la := la) (b := b) (lb := lb) (lo := lo) x1 x2 hf
      refine ig_calli E Z (ig_runSN (As := [.int x1, .int x2]) (rest := []) F E Z hl (host := "Intergreen") (by decide +kernel) G_X3_51 G_X3_51_i G_X3_51_s hM md_X5_has rfl ⟨rfl, rfl⟩ ⟨Nat.le_of_ble_eq_true rfl, Nat.le_of_ble_eq_true rfl⟩ (Nat.le_of_ble_eq_true rfl) dX3_hasTwoThatMeet_12 ⟨Nat.le_of_ble_eq_true rfl, Nat.le_of_ble_eq_true rfl⟩) (fun r2 u H locs hf Z => ?_)
      refine lv_if_eq (tgt := 29) F.1 F.2.1 dX3_hasTwoThatMeet_15 (by decide) (fun c_3 => ?_) (fun c_3 => ?_)
      · have hf := hf.1 c_3
        refine lv_iinc (v := x2 + 1) (lv' := [(2, .int (x2 + 1)), (0, .ref (ad 1)), (1, .int x1)]) F.1 F.2.1 dX3_hasTwoThatMeet_29 hl (k := 2) rfl (by rfl) (by decide) rfl (fun ls hl => ?_)
        refine lv_goto (tgt := 2) F.1 F.2.1 dX3_hasTwoThatMeet_32 (by decide) ?_
        exact ih x1 (x2 + 1) _ _ _ hf Z (lv_sub hl [1, 2, 0] rfl)
      · have hf := hf.2 c_3
        refine lv_aload_n F.1 F.2.1 dX3_hasTwoThatMeet_18 rfl (lv_at hl 0 rfl) ?_
        refine lv_iload_n F.1 F.2.1 dX3_hasTwoThatMeet_19 rfl (lv_at hl 2 rfl) ?_
        refine lv_iload_n F.1 F.2.1 dX3_hasTwoThatMeet_20 rfl (lv_at hl 1 rfl) ?_
        have hM := k_X3_mostBetween l (D := D) (kk := kk) (ad := ad) (bs := bs) (a := a) (la := la) (b := b) (lb := lb) (lo := lo) x2 x1 hf
        refine ig_calli E Z (ig_runV (As := [.int x2, .int x1]) (rest := []) F E Z hl G_X3_55 hM (i := 1) (by decide) (ig_k_1 _ _ _ _ _ _) rfl rfl md_X3_mostBetween rfl ⟨rfl, rfl⟩ ⟨Nat.le_of_ble_eq_true rfl, Nat.le_of_ble_eq_true rfl⟩ (Nat.le_of_ble_eq_true rfl) dX3_hasTwoThatMeet_21 ⟨Nat.le_of_ble_eq_true rfl, Nat.le_of_ble_eq_true rfl⟩) (fun r4 u H locs hf Z => ?_)
        refine lv_if_le (tgt := 29) F.1 F.2.1 dX3_hasTwoThatMeet_24 (by decide) (fun c_5 => ?_) (fun c_5 => ?_)
        · have hf := hf.1 c_5
          refine lv_iinc (v := x2 + 1) (lv' := [(2, .int (x2 + 1)), (0, .ref (ad 1)), (1, .int x1)]) F.1 F.2.1 dX3_hasTwoThatMeet_29 hl (k := 2) rfl (by rfl) (by decide) rfl (fun ls hl => ?_)
          refine lv_goto (tgt := 2) F.1 F.2.1 dX3_hasTwoThatMeet_32 (by decide) ?_
          exact ih x1 (x2 + 1) _ _ _ hf Z (lv_sub hl [1, 2, 0] rfl)
        · have hf := hf.2 c_5
          refine lv_iconst (v := 1) F.1 F.2.1 dX3_hasTwoThatMeet_27 (by decide) ?_
          exact W.zret (v := 1) F.1 F.2.1 hr (ig_narrow (Or.inr rfl)) (fun t ht hW => ⟨⟨_, (), rfl, hf, Z.wd E ht hW⟩, Z.fr ht⟩) Z.2.2.2 dX3_hasTwoThatMeet_28
set_option maxHeartbeats 4000000 in
set_option maxRecDepth 100000 in
theorem k_X3_hasTwoThatMeet (l : Launch) {D : va_G} {kk : Nat → ClassId} {ad : Nat → Nat} {bs : Nat} {a : ig_M} {la : Int64} {b : ig_M} {lb lo : Int64} (x1 : Int32) {post : Int32 → Prop} (hf : wp_X3_hasTwoThatMeet a la x1 post) : Met l yX3_hasTwoThatMeet (ig_ws yX3_hasTwoThatMeet cX3_hasTwoThatMeet 3 (some .boolean)) (k2_rm 2 45) (va_Pc [.ref (ad 1), .int x1] (ig_Wd D kk ad bs a la b lb lo)) (va_Qi (fun (r : Int32) (_ : Unit) => post r) (fun _ t => ig_Wd D kk ad bs a la b lb lo t) (ig_A bs)) 0 0 (ig_A bs) := by
  refine Met.ofW (cc := cX3_hasTwoThatMeet) (maxL := 3) (ret := (some .boolean)) (by decide) rfl ?_
  intro p e s m args below meth c s₁ B hml hv
  obtain ⟨rfl, E, hP⟩ := hv
  have hk := B.notSynchronized
  have hr := B.returns
  have F : CallFix p m c cX3_hasTwoThatMeet 3 s _ ig_all RX3 := ⟨B.exec, B.bytes, hml, findClass_of_methodNamed B.named, fun w hw => atoms_spec B.pre w (List.mem_cons_of_mem _ hw)⟩
  have Z : ig_Z D kk ad bs s s.heap [] a la b lb lo := ig_Z.rf hP
  have hl := lv_entry ([.ref (ad 1), .int x1]) (n := 3) (Nat.le_of_ble_eq_true rfl)
  rw [lg_entry_eq]
  generalize (lg_sl ([.ref (ad 1), .int x1]) ++ List.replicate (3 - (lg_sl ([.ref (ad 1), .int x1])).length) Slot.unset).toArray = ls at hl ⊢
  have hl : lv_has ls 3 [(0, .ref (ad 1)), (1, .int x1)] := hl
  refine lv_iconst (v := 0) F.1 F.2.1 dX3_hasTwoThatMeet_0 (by decide) ?_
  refine lv_istore_n (lv' := [(2, .int 0), (0, .ref (ad 1)), (1, .int x1)]) F.1 F.2.1 dX3_hasTwoThatMeet_1 rfl hl (by decide) rfl (fun ls hl => ?_)
  obtain ⟨n1, hf⟩ := hf
  exact wm_X3_hasTwoThatMeet_2 F E hr hk post n1 x1 0 _ _ _ hf Z (lv_sub hl [1, 2, 0] rfl)
set_option maxHeartbeats 4000000 in
set_option maxRecDepth 100000 in
theorem k_X3_addStage (l : Launch) {D : va_G} {kk : Nat → ClassId} {ad : Nat → Nat} {bs : Nat} {a : ig_M} {la : Int64} {b : ig_M} {lb lo : Int64} (x1 : Int32) {post : Int32 → ig_M → Int64 → Prop} (hf : wp_X3_addStage a la x1 post) : Met l yX3_addStage (ig_ws yX3_addStage cX3_addStage 2 (some .int)) (k2_rm 0 0) (va_Pc [.ref (ad 1), .int x1] (ig_Wd D kk ad bs a la b lb lo)) (va_Qi (fun (r : Int32) (u : ig_M × Int64) => post r u.1 u.2) (fun u t => ig_Wd D kk ad bs u.1 u.2 b lb lo t) (ig_A bs)) 0 0 (ig_A bs) := by
  refine Met.ofW (cc := cX3_addStage) (maxL := 2) (ret := (some .int)) (by decide) rfl ?_
  intro p e s m args below meth c s₁ B hml hv
  obtain ⟨rfl, E, hP⟩ := hv
  have hk := B.notSynchronized
  have hr := B.returns
  have F : CallFix p m c cX3_addStage 2 s _ ig_all RX3 := ⟨B.exec, B.bytes, hml, findClass_of_methodNamed B.named, fun w hw => atoms_spec B.pre w (List.mem_cons_of_mem _ hw)⟩
  have Z : ig_Z D kk ad bs s s.heap [] a la b lb lo := ig_Z.rf hP
  have hl := lv_entry ([.ref (ad 1), .int x1]) (n := 2) (Nat.le_of_ble_eq_true rfl)
  rw [lg_entry_eq]
  generalize (lg_sl ([.ref (ad 1), .int x1]) ++ List.replicate (2 - (lg_sl ([.ref (ad 1), .int x1])).length) Slot.unset).toArray = ls at hl ⊢
  have hl : lv_has ls 2 [(0, .ref (ad 1)), (1, .int x1)] := hl
  refine lv_aload_n F.1 F.2.1 dX3_addStage_0 rfl (lv_at hl 0 rfl) ?_
  refine gf_X3_22 F E Z dX3_addStage_1 ?_
  refine lv_aload_n F.1 F.2.1 dX3_addStage_4 rfl (lv_at hl 0 rfl) ?_
  refine gf_X3_40 F E Z dX3_addStage_5 ?_
  refine lv_iload_n F.1 F.2.1 dX3_addStage_8 rfl (lv_at hl 1 rfl) ?_
  have hv1 := hf.1
  have hf := hf.2
  refine ig_iastA (n := 6) F E Z (by decide) (fun r => ig_k_20 _ _ _ _ _ r) hv1 dX3_addStage_9 (fun H locs a2 ha2 Z => ?_)
  have hf := hf a2 ha2
  refine lv_aload_n F.1 F.2.1 dX3_addStage_10 rfl (lv_at hl 0 rfl) ?_
  refine lv_dup F.1 F.2.1 dX3_addStage_11 rfl ?_
  refine gf_X3_40 F E Z dX3_addStage_12 ?_
  refine lv_dup_x1 F.1 F.2.1 dX3_addStage_15 rfl rfl ?_
  refine lv_iconst (v := 1) F.1 F.2.1 dX3_addStage_16 (by decide) ?_
  refine lv_iadd F.1 F.2.1 dX3_addStage_17 ?_
  refine pf_X3_40 F E Z dX3_addStage_18 (fun H locs a3 ha3 Z => ?_)
  have hf := hf a3 ha3
  exact W.iret (v := a2 1 4) F.1 F.2.1 hr (fun t ht hW => ⟨⟨_, (a3, la), rfl, hf, Z.wd E ht hW⟩, Z.fr ht⟩) Z.2.2.2 dX3_addStage_21
set_option maxHeartbeats 4000000 in
set_option maxRecDepth 100000 in
theorem k_X0_areWorking (l : Launch) {D : va_G} {kk : Nat → ClassId} {ad : Nat → Nat} {bs : Nat} {a : ig_M} {la : Int64} {b : ig_M} {lb lo : Int64} {post : Int32 → Prop} (hf : wp_X0_areWorking a la post) : Met l yX0_areWorking (ig_ws yX0_areWorking cX0_areWorking 1 (some .boolean)) (k2_rm 0 0) (va_Pc [.ref (ad 23)] (ig_Wd D kk ad bs a la b lb lo)) (va_Qi (fun (r : Int32) (_ : Unit) => post r) (fun _ t => ig_Wd D kk ad bs a la b lb lo t) (ig_A bs)) 0 0 (ig_A bs) := by
  refine Met.ofW (cc := cX0_areWorking) (maxL := 1) (ret := (some .boolean)) (by decide) rfl ?_
  intro p e s m args below meth c s₁ B hml hv
  obtain ⟨rfl, E, hP⟩ := hv
  have hk := B.notSynchronized
  have hr := B.returns
  have F : CallFix p m c cX0_areWorking 1 s _ ig_all RX0 := ⟨B.exec, B.bytes, hml, findClass_of_methodNamed B.named, fun w hw => atoms_spec B.pre w (List.mem_cons_of_mem _ hw)⟩
  have Z : ig_Z D kk ad bs s s.heap [] a la b lb lo := ig_Z.rf hP
  have hl := lv_entry ([.ref (ad 23)]) (n := 1) (Nat.le_of_ble_eq_true rfl)
  rw [lg_entry_eq]
  generalize (lg_sl ([.ref (ad 23)]) ++ List.replicate (1 - (lg_sl ([.ref (ad 23)])).length) Slot.unset).toArray = ls at hl ⊢
  have hl : lv_has ls 1 [(0, .ref (ad 23))] := hl
  refine lv_aload_n F.1 F.2.1 dX0_areWorking_0 rfl (lv_at hl 0 rfl) ?_
  refine gf_X0_9 F E Z dX0_areWorking_1 ?_
  refine lv_iconst (v := 1) F.1 F.2.1 dX0_areWorking_4 (by decide) ?_
  refine lv_icmp_eq (tgt := 16) F.1 F.2.1 dX0_areWorking_5 (by decide) (fun c_1 => ?_) (fun c_1 => ?_)
  · have hf := hf.1 c_1
    refine lv_iconst (v := 1) F.1 F.2.1 dX0_areWorking_16 (by decide) ?_
    refine lv_goto (tgt := 21) F.1 F.2.1 dX0_areWorking_17 (by decide) ?_
    exact W.zret (v := 1) F.1 F.2.1 hr (ig_narrow (Or.inr rfl)) (fun t ht hW => ⟨⟨_, (), rfl, hf, Z.wd E ht hW⟩, Z.fr ht⟩) Z.2.2.2 dX0_areWorking_21
  · have hf := hf.2 c_1
    refine lv_aload_n F.1 F.2.1 dX0_areWorking_8 rfl (lv_at hl 0 rfl) ?_
    refine gf_X0_9 F E Z dX0_areWorking_9 ?_
    refine lv_iconst (v := 2) F.1 F.2.1 dX0_areWorking_12 (by decide) ?_
    refine lv_icmp_ne (tgt := 20) F.1 F.2.1 dX0_areWorking_13 (by decide) (fun c_2 => ?_) (fun c_2 => ?_)
    · have hf := hf.1 c_2
      refine lv_iconst (v := 0) F.1 F.2.1 dX0_areWorking_20 (by decide) ?_
      exact W.zret (v := 0) F.1 F.2.1 hr (ig_narrow (Or.inl rfl)) (fun t ht hW => ⟨⟨_, (), rfl, hf, Z.wd E ht hW⟩, Z.fr ht⟩) Z.2.2.2 dX0_areWorking_21
    · have hf := hf.2 c_2
      refine lv_iconst (v := 1) F.1 F.2.1 dX0_areWorking_16 (by decide) ?_
      refine lv_goto (tgt := 21) F.1 F.2.1 dX0_areWorking_17 (by decide) ?_
      exact W.zret (v := 1) F.1 F.2.1 hr (ig_narrow (Or.inr rfl)) (fun t ht hW => ⟨⟨_, (), rfl, hf, Z.wd E ht hW⟩, Z.fr ht⟩) Z.2.2.2 dX0_areWorking_21
set_option maxHeartbeats 4000000 in
set_option maxRecDepth 100000 in
theorem k_X0_begin (l : Launch) {D : va_G} {kk : Nat → ClassId} {ad : Nat → Nat} {bs : Nat} {a : ig_M} {la : Int64} {b : ig_M} {lb lo : Int64} (x1 : Int32) {post : ig_M → Int64 → Prop} (hf : wp_X0_begin a la x1 post) : Met l yX0_begin (ig_ws yX0_begin cX0_begin 2 none) (k2_rm 0 0) (va_Pc [.ref (ad 23), .int x1] (ig_Wd D kk ad bs a la b lb lo)) (va_Qv (fun u : ig_M × Int64 => post u.1 u.2) (fun u t => ig_Wd D kk ad bs u.1 u.2 b lb lo t) (ig_A bs)) 0 0 (ig_A bs) := by
  refine Met.ofW (cc := cX0_begin) (maxL := 2) (ret := none) (by decide) rfl ?_
  intro p e s m args below meth c s₁ B hml hv
  obtain ⟨rfl, E, hP⟩ := hv
  have hk := B.notSynchronized
  have hr := B.returns
  have F : CallFix p m c cX0_begin 2 s _ ig_all RX0 := ⟨B.exec, B.bytes, hml, findClass_of_methodNamed B.named, fun w hw => atoms_spec B.pre w (List.mem_cons_of_mem _ hw)⟩
  have Z : ig_Z D kk ad bs s s.heap [] a la b lb lo := ig_Z.rf hP
  have hl := lv_entry ([.ref (ad 23), .int x1]) (n := 2) (Nat.le_of_ble_eq_true rfl)
  rw [lg_entry_eq]
  generalize (lg_sl ([.ref (ad 23), .int x1]) ++ List.replicate (2 - (lg_sl ([.ref (ad 23), .int x1])).length) Slot.unset).toArray = ls at hl ⊢
  have hl : lv_has ls 2 [(0, .ref (ad 23)), (1, .int x1)] := hl
  refine lv_aload_n F.1 F.2.1 dX0_begin_0 rfl (lv_at hl 0 rfl) ?_
  refine lv_iconst (v := 1) F.1 F.2.1 dX0_begin_1 (by decide) ?_
  refine pf_X0_9 F E Z dX0_begin_2 (fun H locs a1 ha1 Z => ?_)
  have hf := hf a1 ha1
  refine lv_aload_n F.1 F.2.1 dX0_begin_5 rfl (lv_at hl 0 rfl) ?_
  refine lv_iload_n F.1 F.2.1 dX0_begin_6 rfl (lv_at hl 1 rfl) ?_
  refine pf_X0_15 F E Z dX0_begin_7 (fun H locs a2 ha2 Z => ?_)
  have hf := hf a2 ha2
  refine lv_aload_n F.1 F.2.1 dX0_begin_10 rfl (lv_at hl 0 rfl) ?_
  refine lv_iconst (v := 1) F.1 F.2.1 dX0_begin_11 (by decide) ?_
  refine pf_X0_29 F E Z (Or.inr rfl) dX0_begin_12 (fun H locs a3 ha3 Z => ?_)
  have hf := hf a3 ha3
  exact W.vret F.1 F.2.1 hr (fun t ht hW => ⟨⟨(a3, la), rfl, hf, Z.wd E ht hW⟩, Z.fr ht⟩) Z.2.2.2 dX0_begin_15
set_option maxHeartbeats 4000000 in
set_option maxRecDepth 100000 in
theorem wm_X2_turnRed_13 (F : CallFix p m c cX2_turnRed 2 s args ig_all RX2) (E : ig_E D kk ad bs s) (hr : meth.sig.returnType = none) (hk : meth.locks = false) (post : ig_M → Int64 → Prop) :
    ∀ (a : ig_M) (la : Int64) (k0 : Nat) (H : Heap) (locs : List Loc) (ls : Array Slot) (hk0 : k0 < 8), wp_X2_turnRed_13 post a la k0 → ig_Z D kk ad bs s H locs a la b lb lo → lv_has ls 2 [(0, .ref (ad (3 + k0)))] → W p l e (k2_rm 0 0) s m args below meth c H locs 0 0 (MQ below (va_Qv (fun u : ig_M × Int64 => post u.1 u.2) (fun u t => ig_Wd D kk ad bs u.1 u.2 b lb lo t) (ig_A bs)) args s 0 0 (ig_A bs)) (F0 m 13 ls []) := by
  intro a la k0 H locs ls hk0 hf Z hl
  refine lv_aload_n F.1 F.2.1 dX2_turnRed_13 rfl (lv_at hl 0 rfl) ?_
  refine lv_iconst (v := 0) F.1 F.2.1 dX2_turnRed_14 (by decide) ?_
  refine pf_X2_9 F E Z hk0 dX2_turnRed_15 (fun H locs a3 ha3 Z => ?_)
  have hf := hf a3 ha3
  exact W.vret F.1 F.2.1 hr (fun t ht hW => ⟨⟨(a3, la), rfl, hf, Z.wd E ht hW⟩, Z.fr ht⟩) Z.2.2.2 dX2_turnRed_18
set_option maxHeartbeats 4000000 in
set_option maxRecDepth 100000 in
theorem k_X2_turnRed (l : Launch) {D : va_G} {kk : Nat → ClassId} {ad : Nat → Nat} {bs : Nat} {a : ig_M} {la : Int64} {b : ig_M} {lb lo : Int64} (k0 : Nat) (x1 : Int32) (hk0 : k0 < 8) {post : ig_M → Int64 → Prop} (hf : wp_X2_turnRed a la k0 x1 post) : Met l yX2_turnRed (ig_ws yX2_turnRed cX2_turnRed 2 none) (k2_rm 0 0) (va_Pc [.ref (ad (3 + k0)), .int x1] (ig_Wd D kk ad bs a la b lb lo)) (va_Qv (fun u : ig_M × Int64 => post u.1 u.2) (fun u t => ig_Wd D kk ad bs u.1 u.2 b lb lo t) (ig_A bs)) 0 0 (ig_A bs) := by
  refine Met.ofW (cc := cX2_turnRed) (maxL := 2) (ret := none) (by decide) rfl ?_
  intro p e s m args below meth c s₁ B hml hv
  obtain ⟨rfl, E, hP⟩ := hv
  have hk := B.notSynchronized
  have hr := B.returns
  have F : CallFix p m c cX2_turnRed 2 s _ ig_all RX2 := ⟨B.exec, B.bytes, hml, findClass_of_methodNamed B.named, fun w hw => atoms_spec B.pre w (List.mem_cons_of_mem _ hw)⟩
  have Z : ig_Z D kk ad bs s s.heap [] a la b lb lo := ig_Z.rf hP
  have hl := lv_entry ([.ref (ad (3 + k0)), .int x1]) (n := 2) (Nat.le_of_ble_eq_true rfl)
  rw [lg_entry_eq]
  generalize (lg_sl ([.ref (ad (3 + k0)), .int x1]) ++ List.replicate (2 - (lg_sl ([.ref (ad (3 + k0)), .int x1])).length) Slot.unset).toArray = ls at hl ⊢
  have hl : lv_has ls 2 [(0, .ref (ad (3 + k0))), (1, .int x1)] := hl
  refine lv_aload_n F.1 F.2.1 dX2_turnRed_0 rfl (lv_at hl 0 rfl) ?_
  refine gf_X2_9 F E Z hk0 dX2_turnRed_1 ?_
  refine lv_iconst (v := 1) F.1 F.2.1 dX2_turnRed_4 (by decide) ?_
  refine lv_icmp_ne (tgt := 13) F.1 F.2.1 dX2_turnRed_5 (by decide) (fun c_1 => ?_) (fun c_1 => ?_)
  · have hf := hf.1 c_1
    exact wm_X2_turnRed_13 F E hr hk post a la k0 _ _ _ hk0 hf Z (lv_sub hl [0] rfl)
  · have hf := hf.2 c_1
    refine lv_aload_n F.1 F.2.1 dX2_turnRed_8 rfl (lv_at hl 0 rfl) ?_
    refine lv_iload_n F.1 F.2.1 dX2_turnRed_9 rfl (lv_at hl 1 rfl) ?_
    refine pf_X2_15 F E Z hk0 dX2_turnRed_10 (fun H locs a2 ha2 Z => ?_)
    have hf := hf a2 ha2
    exact wm_X2_turnRed_13 F E hr hk post a2 la k0 _ _ _ hk0 hf Z (lv_sub hl [0] rfl)
set_option maxHeartbeats 4000000 in
set_option maxRecDepth 100000 in
theorem wm_X0_fallBack_12 (F : CallFix p m c cX0_fallBack 3 s args ig_all RX0) (E : ig_E D kk ad bs s) (hr : meth.sig.returnType = none) (hk : meth.locks = false) (post : ig_M → Int64 → Prop) :
    ∀ (n : Nat) (a : ig_M) (la : Int64) (x2 : Int32) (H : Heap) (locs : List Loc) (ls : Array Slot), wp_X0_fallBack_12 post n a la x2 → ig_Z D kk ad bs s H locs a la b lb lo → lv_has ls 3 [(0, .ref (ad 23)), (2, .int x2)] → W p l e (k2_rm 1 21) s m args below meth c H locs 0 0 (MQ below (va_Qv (fun u : ig_M × Int64 => post u.1 u.2) (fun u t => ig_Wd D kk ad bs u.1 u.2 b lb lo t) (ig_A bs)) args s 0 0 (ig_A bs)) (F0 m 12 ls []) := by
  intro n
  induction n with
  | zero => intro a la x2 H locs ls hf Z hl; exact False.elim hf
  | succ n ih =>
    intro a la x2 H locs ls hf Z hl
    refine lv_iload_n F.1 F.2.1 dX0_fallBack_12 rfl (lv_at hl 1 rfl) ?_
    refine lv_aload_n F.1 F.2.1 dX0_fallBack_13 rfl (lv_at hl 0 rfl) ?_
    refine gf_X0_21 F E Z dX0_fallBack_14 ?_
    refine gf_X0_33 F E Z dX0_fallBack_17 ?_
    refine lv_icmp_ge (tgt := 45) F.1 F.2.1 dX0_fallBack_20 (by decide) (fun c_3 => ?_) (fun c_3 => ?_)
    · have hf := hf.1 c_3
      exact W.vret F.1 F.2.1 hr (fun t ht hW => ⟨⟨(a, la), rfl, hf, Z.wd E ht hW⟩, Z.fr ht⟩) Z.2.2.2 dX0_fallBack_45
    · have hf := hf.2 c_3
      refine lv_aload_n F.1 F.2.1 dX0_fallBack_23 rfl (lv_at hl 0 rfl) ?_
      refine gf_X0_21 F E Z dX0_fallBack_24 ?_
      refine gf_X0_38 F E Z dX0_fallBack_27 ?_
      refine lv_iload_n F.1 F.2.1 dX0_fallBack_30 rfl (lv_at hl 1 rfl) ?_
      have hv4 := hf.1
      have hf := hf.2
      refine ig_aald (t0 := 3) (n := 8) (b0 := 3) F E Z rfl (Or.inl rfl) (by decide) (ig_k_2 _ _ _ _ _ _) hv4 dX0_fallBack_31 ?_
      refine lv_aload_n F.1 F.2.1 dX0_fallBack_32 rfl (lv_at hl 0 rfl) ?_
      refine gf_X0_42 F E Z dX0_fallBack_33 ?_
      have hM := k_X2_turnRed l (D := D) (kk := kk) (ad := ad) (bs := bs) (a := a) (la := la) (b := b) (lb := lb) (lo := lo) x2.toNatClampNeg (a 23 6) (ig_lt hv4) hf
      refine ig_callv E Z (ig_runV (As := [.int (a 23 6)]) (rest := []) F E Z hl G_X0_45 hM (i := 3 + x2.toNatClampNeg) (by have := ig_lt hv4; omega) (ig_c_ph _ _ _ _ _ _ (ig_lt hv4)) rfl rfl md_X2_turnRed rfl ⟨rfl, rfl⟩ ⟨Nat.le_of_ble_eq_true rfl, Nat.le_of_ble_eq_true rfl⟩ (Nat.le_of_ble_eq_true rfl) dX0_fallBack_36 ⟨Nat.le_of_ble_eq_true rfl, Nat.le_of_ble_eq_true rfl⟩) (fun u H locs hf Z => ?_)
      obtain ⟨a5, la6⟩ := u
      have Z : ig_Z D kk ad bs s H locs a5 la6 b lb lo := Z
      refine lv_iinc (v := x2 + 1) (lv' := [(2, .int (x2 + 1)), (0, .ref (ad 23))]) F.1 F.2.1 dX0_fallBack_39 hl (k := 1) rfl (by rfl) (by decide) rfl (fun ls hl => ?_)
      refine lv_goto (tgt := 12) F.1 F.2.1 dX0_fallBack_42 (by decide) ?_
      exact ih a5 la6 (x2 + 1) _ _ _ hf Z (lv_sub hl [1, 0] rfl)
set_option maxHeartbeats 4000000 in
set_option maxRecDepth 100000 in
theorem k_X0_fallBack (l : Launch) {D : va_G} {kk : Nat → ClassId} {ad : Nat → Nat} {bs : Nat} {a : ig_M} {la : Int64} {b : ig_M} {lb lo : Int64} (x1 : Int32) {post : ig_M → Int64 → Prop} (hf : wp_X0_fallBack a la x1 post) : Met l yX0_fallBack (ig_ws yX0_fallBack cX0_fallBack 3 none) (k2_rm 1 21) (va_Pc [.ref (ad 23), .int x1] (ig_Wd D kk ad bs a la b lb lo)) (va_Qv (fun u : ig_M × Int64 => post u.1 u.2) (fun u t => ig_Wd D kk ad bs u.1 u.2 b lb lo t) (ig_A bs)) 0 0 (ig_A bs) := by
  refine Met.ofW (cc := cX0_fallBack) (maxL := 3) (ret := none) (by decide) rfl ?_
  intro p e s m args below meth c s₁ B hml hv
  obtain ⟨rfl, E, hP⟩ := hv
  have hk := B.notSynchronized
  have hr := B.returns
  have F : CallFix p m c cX0_fallBack 3 s _ ig_all RX0 := ⟨B.exec, B.bytes, hml, findClass_of_methodNamed B.named, fun w hw => atoms_spec B.pre w (List.mem_cons_of_mem _ hw)⟩
  have Z : ig_Z D kk ad bs s s.heap [] a la b lb lo := ig_Z.rf hP
  have hl := lv_entry ([.ref (ad 23), .int x1]) (n := 3) (Nat.le_of_ble_eq_true rfl)
  rw [lg_entry_eq]
  generalize (lg_sl ([.ref (ad 23), .int x1]) ++ List.replicate (3 - (lg_sl ([.ref (ad 23), .int x1])).length) Slot.unset).toArray = ls at hl ⊢
  have hl : lv_has ls 3 [(0, .ref (ad 23)), (1, .int x1)] := hl
  refine lv_aload_n F.1 F.2.1 dX0_fallBack_0 rfl (lv_at hl 0 rfl) ?_
  refine lv_iload_n F.1 F.2.1 dX0_fallBack_1 rfl (lv_at hl 1 rfl) ?_
  refine pf_X0_9 F E Z dX0_fallBack_2 (fun H locs a1 ha1 Z => ?_)
  have hf := hf a1 ha1
  refine lv_aload_n F.1 F.2.1 dX0_fallBack_5 rfl (lv_at hl 0 rfl) ?_
  refine lv_iconst (v := (-1)) F.1 F.2.1 dX0_fallBack_6 (by decide) ?_
  refine pf_X0_15 F E Z dX0_fallBack_7 (fun H locs a2 ha2 Z => ?_)
  have hf := hf a2 ha2
  refine lv_iconst (v := 0) F.1 F.2.1 dX0_fallBack_10 (by decide) ?_
  refine lv_istore_n (lv' := [(2, .int 0), (0, .ref (ad 23)), (1, .int x1)]) F.1 F.2.1 dX0_fallBack_11 rfl hl (by decide) rfl (fun ls hl => ?_)
  obtain ⟨n1, hf⟩ := hf
  exact wm_X0_fallBack_12 F E hr hk post n1 a2 la 0 _ _ _ hf Z (lv_sub hl [1, 0] rfl)
set_option maxHeartbeats 4000000 in
set_option maxRecDepth 100000 in
theorem k_X2_pushButton (l : Launch) {D : va_G} {kk : Nat → ClassId} {ad : Nat → Nat} {bs : Nat} {a : ig_M} {la : Int64} {b : ig_M} {lb lo : Int64} (k0 : Nat) (hk0 : k0 < 8) {post : ig_M → Int64 → Prop} (hf : wp_X2_pushButton a la k0 post) : Met l yX2_pushButton (ig_ws yX2_pushButton cX2_pushButton 1 none) (k2_rm 0 0) (va_Pc [.ref (ad (3 + k0))] (ig_Wd D kk ad bs a la b lb lo)) (va_Qv (fun u : ig_M × Int64 => post u.1 u.2) (fun u t => ig_Wd D kk ad bs u.1 u.2 b lb lo t) (ig_A bs)) 0 0 (ig_A bs) := by
  refine Met.ofW (cc := cX2_pushButton) (maxL := 1) (ret := none) (by decide) rfl ?_
  intro p e s m args below meth c s₁ B hml hv
  obtain ⟨rfl, E, hP⟩ := hv
  have hk := B.notSynchronized
  have hr := B.returns
  have F : CallFix p m c cX2_pushButton 1 s _ ig_all RX2 := ⟨B.exec, B.bytes, hml, findClass_of_methodNamed B.named, fun w hw => atoms_spec B.pre w (List.mem_cons_of_mem _ hw)⟩
  have Z : ig_Z D kk ad bs s s.heap [] a la b lb lo := ig_Z.rf hP
  have hl := lv_entry ([.ref (ad (3 + k0))]) (n := 1) (Nat.le_of_ble_eq_true rfl)
  rw [lg_entry_eq]
  generalize (lg_sl ([.ref (ad (3 + k0))]) ++ List.replicate (1 - (lg_sl ([.ref (ad (3 + k0))])).length) Slot.unset).toArray = ls at hl ⊢
  have hl : lv_has ls 1 [(0, .ref (ad (3 + k0)))] := hl
  refine lv_aload_n F.1 F.2.1 dX2_pushButton_0 rfl (lv_at hl 0 rfl) ?_
  refine gf_X2_9 F E Z hk0 dX2_pushButton_1 ?_
  refine lv_iconst (v := 1) F.1 F.2.1 dX2_pushButton_4 (by decide) ?_
  refine lv_icmp_eq (tgt := 13) F.1 F.2.1 dX2_pushButton_5 (by decide) (fun c_1 => ?_) (fun c_1 => ?_)
  · have hf := hf.1 c_1
    exact W.vret F.1 F.2.1 hr (fun t ht hW => ⟨⟨(a, la), rfl, hf, Z.wd E ht hW⟩, Z.fr ht⟩) Z.2.2.2 dX2_pushButton_13
  · have hf := hf.2 c_1
    refine lv_aload_n F.1 F.2.1 dX2_pushButton_8 rfl (lv_at hl 0 rfl) ?_
    refine lv_iconst (v := 1) F.1 F.2.1 dX2_pushButton_9 (by decide) ?_
    refine pf_X2_18 F E Z hk0 (Or.inr rfl) dX2_pushButton_10 (fun H locs a2 ha2 Z => ?_)
    have hf := hf a2 ha2
    exact W.vret F.1 F.2.1 hr (fun t ht hW => ⟨⟨(a2, la), rfl, hf, Z.wd E ht hW⟩, Z.fr ht⟩) Z.2.2.2 dX2_pushButton_13
set_option maxHeartbeats 4000000 in
set_option maxRecDepth 100000 in
theorem k_X2_isDemanded (l : Launch) {D : va_G} {kk : Nat → ClassId} {ad : Nat → Nat} {bs : Nat} {a : ig_M} {la : Int64} {b : ig_M} {lb lo : Int64} (k0 : Nat) (hk0 : k0 < 8) {post : Int32 → Prop} (hf : wp_X2_isDemanded a la k0 post) : Met l yX2_isDemanded (ig_ws yX2_isDemanded cX2_isDemanded 1 (some .boolean)) (k2_rm 0 0) (va_Pc [.ref (ad (3 + k0))] (ig_Wd D kk ad bs a la b lb lo)) (va_Qi (fun (r : Int32) (_ : Unit) => post r) (fun _ t => ig_Wd D kk ad bs a la b lb lo t) (ig_A bs)) 0 0 (ig_A bs) := by
  refine Met.ofW (cc := cX2_isDemanded) (maxL := 1) (ret := (some .boolean)) (by decide) rfl ?_
  intro p e s m args below meth c s₁ B hml hv
  obtain ⟨rfl, E, hP⟩ := hv
  have hk := B.notSynchronized
  have hr := B.returns
  have F : CallFix p m c cX2_isDemanded 1 s _ ig_all RX2 := ⟨B.exec, B.bytes, hml, findClass_of_methodNamed B.named, fun w hw => atoms_spec B.pre w (List.mem_cons_of_mem _ hw)⟩
  have Z : ig_Z D kk ad bs s s.heap [] a la b lb lo := ig_Z.rf hP
  have hl := lv_entry ([.ref (ad (3 + k0))]) (n := 1) (Nat.le_of_ble_eq_true rfl)
  rw [lg_entry_eq]
  generalize (lg_sl ([.ref (ad (3 + k0))]) ++ List.replicate (1 - (lg_sl ([.ref (ad (3 + k0))])).length) Slot.unset).toArray = ls at hl ⊢
  have hl : lv_has ls 1 [(0, .ref (ad (3 + k0)))] := hl
  refine lv_aload_n F.1 F.2.1 dX2_isDemanded_0 rfl (lv_at hl 0 rfl) ?_
  refine gf_X2_9 F E Z hk0 dX2_isDemanded_1 ?_
  refine lv_iconst (v := 1) F.1 F.2.1 dX2_isDemanded_4 (by decide) ?_
  refine lv_icmp_eq (tgt := 26) F.1 F.2.1 dX2_isDemanded_5 (by decide) (fun c_1 => ?_) (fun c_1 => ?_)
  · have hf := hf.1 c_1
    refine lv_iconst (v := 0) F.1 F.2.1 dX2_isDemanded_26 (by decide) ?_
    exact W.zret (v := 0) F.1 F.2.1 hr (ig_narrow (Or.inl rfl)) (fun t ht hW => ⟨⟨_, (), rfl, hf, Z.wd E ht hW⟩, Z.fr ht⟩) Z.2.2.2 dX2_isDemanded_27
  · have hf := hf.2 c_1
    refine lv_aload_n F.1 F.2.1 dX2_isDemanded_8 rfl (lv_at hl 0 rfl) ?_
    refine gf_X2_18 F E Z hk0 dX2_isDemanded_9 ?_
    refine lv_if_ne (tgt := 22) F.1 F.2.1 dX2_isDemanded_12 (by decide) (fun c_2 => ?_) (fun c_2 => ?_)
    · have hf := hf.1 c_2
      refine lv_iconst (v := 1) F.1 F.2.1 dX2_isDemanded_22 (by decide) ?_
      refine lv_goto (tgt := 27) F.1 F.2.1 dX2_isDemanded_23 (by decide) ?_
      exact W.zret (v := 1) F.1 F.2.1 hr (ig_narrow (Or.inr rfl)) (fun t ht hW => ⟨⟨_, (), rfl, hf, Z.wd E ht hW⟩, Z.fr ht⟩) Z.2.2.2 dX2_isDemanded_27
    · have hf := hf.2 c_2
      refine lv_aload_n F.1 F.2.1 dX2_isDemanded_15 rfl (lv_at hl 0 rfl) ?_
      refine gf_X2_22 F E Z hk0 dX2_isDemanded_16 ?_
      refine lv_if_le (tgt := 26) F.1 F.2.1 dX2_isDemanded_19 (by decide) (fun c_3 => ?_) (fun c_3 => ?_)
      · have hf := hf.1 c_3
        refine lv_iconst (v := 0) F.1 F.2.1 dX2_isDemanded_26 (by decide) ?_
        exact W.zret (v := 0) F.1 F.2.1 hr (ig_narrow (Or.inl rfl)) (fun t ht hW => ⟨⟨_, (), rfl, hf, Z.wd E ht hW⟩, Z.fr ht⟩) Z.2.2.2 dX2_isDemanded_27
      · have hf := hf.2 c_3
        refine lv_iconst (v := 1) F.1 F.2.1 dX2_isDemanded_22 (by decide) ?_
        refine lv_goto (tgt := 27) F.1 F.2.1 dX2_isDemanded_23 (by decide) ?_
        exact W.zret (v := 1) F.1 F.2.1 hr (ig_narrow (Or.inr rfl)) (fun t ht hW => ⟨⟨_, (), rfl, hf, Z.wd E ht hW⟩, Z.fr ht⟩) Z.2.2.2 dX2_isDemanded_27
set_option maxHeartbeats 4000000 in
set_option maxRecDepth 100000 in
theorem k_X2_isBroken (l : Launch) {D : va_G} {kk : Nat → ClassId} {ad : Nat → Nat} {bs : Nat} {a : ig_M} {la : Int64} {b : ig_M} {lb lo : Int64} (k0 : Nat) (x1 : Int32) (hk0 : k0 < 8) {post : Int32 → Prop} (hf : wp_X2_isBroken a la k0 x1 post) : Met l yX2_isBroken (ig_ws yX2_isBroken cX2_isBroken 2 (some .boolean)) (k2_rm 1 21) (va_Pc [.ref (ad (3 + k0)), .int x1] (ig_Wd D kk ad bs a la b lb lo)) (va_Qi (fun (r : Int32) (_ : Unit) => post r) (fun _ t => ig_Wd D kk ad bs a la b lb lo t) (ig_A bs)) 0 0 (ig_A bs) := by
  refine Met.ofW (cc := cX2_isBroken) (maxL := 2) (ret := (some .boolean)) (by decide) rfl ?_
  intro p e s m args below meth c s₁ B hml hv
  obtain ⟨rfl, E, hP⟩ := hv
  have hk := B.notSynchronized
  have hr := B.returns
  have F : CallFix p m c cX2_isBroken 2 s _ ig_all RX2 := ⟨B.exec, B.bytes, hml, findClass_of_methodNamed B.named, fun w hw => atoms_spec B.pre w (List.mem_cons_of_mem _ hw)⟩
  have Z : ig_Z D kk ad bs s s.heap [] a la b lb lo := ig_Z.rf hP
  have hl := lv_entry ([.ref (ad (3 + k0)), .int x1]) (n := 2) (Nat.le_of_ble_eq_true rfl)
  rw [lg_entry_eq]
  generalize (lg_sl ([.ref (ad (3 + k0)), .int x1]) ++ List.replicate (2 - (lg_sl ([.ref (ad (3 + k0)), .int x1])).length) Slot.unset).toArray = ls at hl ⊢
  have hl : lv_has ls 2 [(0, .ref (ad (3 + k0))), (1, .int x1)] := hl
  refine lv_aload_n F.1 F.2.1 dX2_isBroken_0 rfl (lv_at hl 0 rfl) ?_
  refine gf_X2_25 F E Z hk0 dX2_isBroken_1 ?_
  refine lv_iload_n F.1 F.2.1 dX2_isBroken_4 rfl (lv_at hl 1 rfl) ?_
  have hM := k_X5_has l (D := D) (kk := kk) (ad := ad) (bs := bs) (a := a) (la := la) (b := b) (lb := lb) (lo := lo) (a (3 + k0) 11) x1 hf
  refine ig_calli E Z (ig_runSN (As := [.int (a (3 + k0) 11), .int x1]) (rest := []) F E Z hl (host := "Intergreen") (by decide +kernel) G_X2_28 G_X2_28_i G_X2_28_s hM md_X5_has rfl ⟨rfl, rfl⟩ ⟨Nat.le_of_ble_eq_true rfl, Nat.le_of_ble_eq_true rfl⟩ (Nat.le_of_ble_eq_true rfl) dX2_isBroken_5 ⟨Nat.le_of_ble_eq_true rfl, Nat.le_of_ble_eq_true rfl⟩) (fun r1 u H locs hf Z => ?_)
  exact W.zret (v := r1) F.1 F.2.1 hr (ig_narrow hf.1) (fun t ht hW => ⟨⟨_, (), rfl, hf.2, Z.wd E ht hW⟩, Z.fr ht⟩) Z.2.2.2 dX2_isBroken_8
set_option maxHeartbeats 4000000 in
set_option maxRecDepth 100000 in
theorem wm_X2_setBroken_26 (F : CallFix p m c cX2_setBroken 4 s args ig_all RX2) (E : ig_E D kk ad bs s) (hr : meth.sig.returnType = none) (hk : meth.locks = false) (post : ig_M → Int64 → Prop) :
    ∀ (a : ig_M) (la : Int64) (t0 : Int32) (q1 : Nat) (H : Heap) (locs : List Loc) (ls : Array Slot) (hq1 : q1 < 8), wp_X2_setBroken_26 post a la t0 q1 → ig_Z D kk ad bs s H locs a la b lb lo → lv_has ls 4 [] → W p l e (k2_rm 0 0) s m args below meth c H locs 0 0 (MQ below (va_Qv (fun u : ig_M × Int64 => post u.1 u.2) (fun u t => ig_Wd D kk ad bs u.1 u.2 b lb lo t) (ig_A bs)) args s 0 0 (ig_A bs)) (F0 m 26 ls [.int t0, .ref (ad (3 + q1))]) := by
  intro a la t0 q1 H locs ls hq1 hf Z hl
  refine pf_X2_25 F E Z hq1 dX2_setBroken_26 (fun H locs a2 ha2 Z => ?_)
  have hf := hf a2 ha2
  exact W.vret F.1 F.2.1 hr (fun t ht hW => ⟨⟨(a2, la), rfl, hf, Z.wd E ht hW⟩, Z.fr ht⟩) Z.2.2.2 dX2_setBroken_29
set_option maxHeartbeats 4000000 in
set_option maxRecDepth 100000 in
theorem k_X2_setBroken (l : Launch) {D : va_G} {kk : Nat → ClassId} {ad : Nat → Nat} {bs : Nat} {a : ig_M} {la : Int64} {b : ig_M} {lb lo : Int64} (k0 : Nat) (x1 : Int32) (x2 : Int32) (hk0 : k0 < 8) {post : ig_M → Int64 → Prop} (hf : wp_X2_setBroken a la k0 x1 x2 post) : Met l yX2_setBroken (ig_ws yX2_setBroken cX2_setBroken 4 none) (k2_rm 0 0) (va_Pc [.ref (ad (3 + k0)), .int x1, .int x2] (ig_Wd D kk ad bs a la b lb lo)) (va_Qv (fun u : ig_M × Int64 => post u.1 u.2) (fun u t => ig_Wd D kk ad bs u.1 u.2 b lb lo t) (ig_A bs)) 0 0 (ig_A bs) := by
  refine Met.ofW (cc := cX2_setBroken) (maxL := 4) (ret := none) (by decide) rfl ?_
  intro p e s m args below meth c s₁ B hml hv
  obtain ⟨rfl, E, hP⟩ := hv
  have hk := B.notSynchronized
  have hr := B.returns
  have F : CallFix p m c cX2_setBroken 4 s _ ig_all RX2 := ⟨B.exec, B.bytes, hml, findClass_of_methodNamed B.named, fun w hw => atoms_spec B.pre w (List.mem_cons_of_mem _ hw)⟩
  have Z : ig_Z D kk ad bs s s.heap [] a la b lb lo := ig_Z.rf hP
  have hl := lv_entry ([.ref (ad (3 + k0)), .int x1, .int x2]) (n := 4) (Nat.le_of_ble_eq_true rfl)
  rw [lg_entry_eq]
  generalize (lg_sl ([.ref (ad (3 + k0)), .int x1, .int x2]) ++ List.replicate (4 - (lg_sl ([.ref (ad (3 + k0)), .int x1, .int x2])).length) Slot.unset).toArray = ls at hl ⊢
  have hl : lv_has ls 4 [(0, .ref (ad (3 + k0))), (1, .int x1), (2, .int x2)] := hl
  refine lv_iconst (v := 1) F.1 F.2.1 dX2_setBroken_0 (by decide) ?_
  refine lv_iload_n F.1 F.2.1 dX2_setBroken_1 rfl (lv_at hl 1 rfl) ?_
  refine lv_ishl F.1 F.2.1 dX2_setBroken_2 ?_
  refine lv_istore_n (lv' := [(3, .int (1 <<< (x1 &&& 31))), (0, .ref (ad (3 + k0))), (1, .int x1), (2, .int x2)]) F.1 F.2.1 dX2_setBroken_3 rfl hl (by decide) rfl (fun ls hl => ?_)
  refine lv_aload_n F.1 F.2.1 dX2_setBroken_4 rfl (lv_at hl 1 rfl) ?_
  refine lv_iload_n F.1 F.2.1 dX2_setBroken_5 rfl (lv_at hl 3 rfl) ?_
  refine lv_if_eq (tgt := 18) F.1 F.2.1 dX2_setBroken_6 (by decide) (fun c_1 => ?_) (fun c_1 => ?_)
  · have hf := hf.1 c_1
    refine lv_aload_n F.1 F.2.1 dX2_setBroken_18 rfl (lv_at hl 1 rfl) ?_
    refine gf_X2_25 F E Z hk0 dX2_setBroken_19 ?_
    refine lv_iload_n F.1 F.2.1 dX2_setBroken_22 rfl (lv_at hl 0 rfl) ?_
    refine lv_iconst (v := (-1)) F.1 F.2.1 dX2_setBroken_23 (by decide) ?_
    refine lv_ixor F.1 F.2.1 dX2_setBroken_24 ?_
    refine lv_iand F.1 F.2.1 dX2_setBroken_25 ?_
    exact wm_X2_setBroken_26 F E hr hk post a la ((a (3 + k0) 11) &&& ((1 <<< (x1 &&& 31)) ^^^ ((-1)))) k0 _ _ _ hk0 hf Z (lv_sub hl [] rfl)
  · have hf := hf.2 c_1
    refine lv_aload_n F.1 F.2.1 dX2_setBroken_9 rfl (lv_at hl 1 rfl) ?_
    refine gf_X2_25 F E Z hk0 dX2_setBroken_10 ?_
    refine lv_iload_n F.1 F.2.1 dX2_setBroken_13 rfl (lv_at hl 0 rfl) ?_
    refine lv_ior F.1 F.2.1 dX2_setBroken_14 ?_
    refine lv_goto (tgt := 26) F.1 F.2.1 dX2_setBroken_15 (by decide) ?_
    exact wm_X2_setBroken_26 F E hr hk post a la ((a (3 + k0) 11) ||| (1 <<< (x1 &&& 31))) k0 _ _ _ hk0 hf Z (lv_sub hl [] rfl)
set_option maxHeartbeats 4000000 in
set_option maxRecDepth 100000 in
theorem wm_X0_stageForTram_38 (F : CallFix p m c cX0_stageForTram 2 s args ig_all RX0) (E : ig_E D kk ad bs s) (hr : meth.sig.returnType = (some .int)) (hk : meth.locks = false) (post : Int32 → Prop) :
    ∀ (n : Nat) (x1 : Int32) (H : Heap) (locs : List Loc) (ls : Array Slot), wp_X0_stageForTram_38 a la post n x1 → ig_Z D kk ad bs s H locs a la b lb lo → lv_has ls 2 [(0, .ref (ad 23)), (1, .int x1)] → W p l e (k2_rm 2 43) s m args below meth c H locs 0 0 (MQ below (va_Qi (fun (r : Int32) (_ : Unit) => post r) (fun _ t => ig_Wd D kk ad bs a la b lb lo t) (ig_A bs)) args s 0 0 (ig_A bs)) (F0 m 38 ls []) := by
  intro n
  induction n with
  | zero => intro x1 H locs ls hf Z hl; exact False.elim hf
  | succ n ih =>
    intro x1 H locs ls hf Z hl
    refine lv_iload_n F.1 F.2.1 dX0_stageForTram_38 rfl (lv_at hl 1 rfl) ?_
    refine lv_aload_n F.1 F.2.1 dX0_stageForTram_39 rfl (lv_at hl 0 rfl) ?_
    refine gf_X0_21 F E Z dX0_stageForTram_40 ?_
    refine gf_X0_94 F E Z dX0_stageForTram_43 ?_
    refine lv_icmp_ge (tgt := 75) F.1 F.2.1 dX0_stageForTram_46 (by decide) (fun c_5 => ?_) (fun c_5 => ?_)
    · have hf := hf.1 c_5
      refine lv_iconst (v := (-1)) F.1 F.2.1 dX0_stageForTram_75 (by decide) ?_
      exact W.iret (v := (-1)) F.1 F.2.1 hr (fun t ht hW => ⟨⟨_, (), rfl, hf, Z.wd E ht hW⟩, Z.fr ht⟩) Z.2.2.2 dX0_stageForTram_76
    · have hf := hf.2 c_5
      refine lv_aload_n F.1 F.2.1 dX0_stageForTram_49 rfl (lv_at hl 0 rfl) ?_
      refine gf_X0_21 F E Z dX0_stageForTram_50 ?_
      refine lv_iload_n F.1 F.2.1 dX0_stageForTram_53 rfl (lv_at hl 1 rfl) ?_
      have hM := k_X3_setOf l (D := D) (kk := kk) (ad := ad) (bs := bs) (a := a) (la := la) (b := b) (lb := lb) (lo := lo) x1 hf
      refine ig_calli E Z (ig_runV (As := [.int x1]) (rest := []) F E Z hl G_X0_79 hM (i := 1) (by decide) (ig_k_1 _ _ _ _ _ _) rfl rfl md_X3_setOf rfl ⟨rfl, rfl⟩ ⟨Nat.le_of_ble_eq_true rfl, Nat.le_of_ble_eq_true rfl⟩ (Nat.le_of_ble_eq_true rfl) dX0_stageForTram_54 ⟨Nat.le_of_ble_eq_true rfl, Nat.le_of_ble_eq_true rfl⟩) (fun r6 u H locs hf Z => ?_)
      refine lv_aload_n F.1 F.2.1 dX0_stageForTram_57 rfl (lv_at hl 0 rfl) ?_
      refine gf_X0_18 F E Z dX0_stageForTram_58 ?_
      have hM := k_X5_has l (D := D) (kk := kk) (ad := ad) (bs := bs) (a := a) (la := la) (b := b) (lb := lb) (lo := lo) r6 (a 23 5) hf
      refine ig_calli E Z (ig_runSN (As := [.int r6, .int (a 23 5)]) (rest := []) F E Z hl (host := "Intergreen") (by decide +kernel) G_X0_90 G_X0_90_i G_X0_90_s hM md_X5_has rfl ⟨rfl, rfl⟩ ⟨Nat.le_of_ble_eq_true rfl, Nat.le_of_ble_eq_true rfl⟩ (Nat.le_of_ble_eq_true rfl) dX0_stageForTram_61 ⟨Nat.le_of_ble_eq_true rfl, Nat.le_of_ble_eq_true rfl⟩) (fun r7 u H locs hf Z => ?_)
      refine lv_if_eq (tgt := 69) F.1 F.2.1 dX0_stageForTram_64 (by decide) (fun c_8 => ?_) (fun c_8 => ?_)
      · have hf := hf.1 c_8
        refine lv_iinc (v := x1 + 1) (lv' := [(1, .int (x1 + 1)), (0, .ref (ad 23))]) F.1 F.2.1 dX0_stageForTram_69 hl (k := 1) rfl (by rfl) (by decide) rfl (fun ls hl => ?_)
        refine lv_goto (tgt := 38) F.1 F.2.1 dX0_stageForTram_72 (by decide) ?_
        exact ih (x1 + 1) _ _ _ hf Z (lv_sub hl [1, 0] rfl)
      · have hf := hf.2 c_8
        refine lv_iload_n F.1 F.2.1 dX0_stageForTram_67 rfl (lv_at hl 1 rfl) ?_
        exact W.iret (v := x1) F.1 F.2.1 hr (fun t ht hW => ⟨⟨_, (), rfl, hf, Z.wd E ht hW⟩, Z.fr ht⟩) Z.2.2.2 dX0_stageForTram_68
set_option maxHeartbeats 4000000 in
set_option maxRecDepth 100000 in
theorem k_X0_stageForTram (l : Launch) {D : va_G} {kk : Nat → ClassId} {ad : Nat → Nat} {bs : Nat} {a : ig_M} {la : Int64} {b : ig_M} {lb lo : Int64} {post : Int32 → Prop} (hf : wp_X0_stageForTram a la post) : Met l yX0_stageForTram (ig_ws yX0_stageForTram cX0_stageForTram 2 (some .int)) (k2_rm 2 43) (va_Pc [.ref (ad 23)] (ig_Wd D kk ad bs a la b lb lo)) (va_Qi (fun (r : Int32) (_ : Unit) => post r) (fun _ t => ig_Wd D kk ad bs a la b lb lo t) (ig_A bs)) 0 0 (ig_A bs) := by
  refine Met.ofW (cc := cX0_stageForTram) (maxL := 2) (ret := (some .int)) (by decide) rfl ?_
  intro p e s m args below meth c s₁ B hml hv
  obtain ⟨rfl, E, hP⟩ := hv
  have hk := B.notSynchronized
  have hr := B.returns
  have F : CallFix p m c cX0_stageForTram 2 s _ ig_all RX0 := ⟨B.exec, B.bytes, hml, findClass_of_methodNamed B.named, fun w hw => atoms_spec B.pre w (List.mem_cons_of_mem _ hw)⟩
  have Z : ig_Z D kk ad bs s s.heap [] a la b lb lo := ig_Z.rf hP
  have hl := lv_entry ([.ref (ad 23)]) (n := 2) (Nat.le_of_ble_eq_true rfl)
  rw [lg_entry_eq]
  generalize (lg_sl ([.ref (ad 23)]) ++ List.replicate (2 - (lg_sl ([.ref (ad 23)])).length) Slot.unset).toArray = ls at hl ⊢
  have hl : lv_has ls 2 [(0, .ref (ad 23))] := hl
  refine lv_aload_n F.1 F.2.1 dX0_stageForTram_0 rfl (lv_at hl 0 rfl) ?_
  refine gf_X0_18 F E Z dX0_stageForTram_1 ?_
  refine lv_iconst (v := (-1)) F.1 F.2.1 dX0_stageForTram_4 (by decide) ?_
  refine lv_icmp_ne (tgt := 10) F.1 F.2.1 dX0_stageForTram_5 (by decide) (fun c_1 => ?_) (fun c_1 => ?_)
  · have hf := hf.1 c_1
    refine lv_aload_n F.1 F.2.1 dX0_stageForTram_10 rfl (lv_at hl 0 rfl) ?_
    refine gf_X0_21 F E Z dX0_stageForTram_11 ?_
    refine lv_aload_n F.1 F.2.1 dX0_stageForTram_14 rfl (lv_at hl 0 rfl) ?_
    refine gf_X0_15 F E Z dX0_stageForTram_15 ?_
    have hM := k_X3_setOf l (D := D) (kk := kk) (ad := ad) (bs := bs) (a := a) (la := la) (b := b) (lb := lb) (lo := lo) (a 23 3) hf
    refine ig_calli E Z (ig_runV (As := [.int (a 23 3)]) (rest := []) F E Z hl G_X0_79 hM (i := 1) (by decide) (ig_k_1 _ _ _ _ _ _) rfl rfl md_X3_setOf rfl ⟨rfl, rfl⟩ ⟨Nat.le_of_ble_eq_true rfl, Nat.le_of_ble_eq_true rfl⟩ (Nat.le_of_ble_eq_true rfl) dX0_stageForTram_18 ⟨Nat.le_of_ble_eq_true rfl, Nat.le_of_ble_eq_true rfl⟩) (fun r2 u H locs hf Z => ?_)
    refine lv_aload_n F.1 F.2.1 dX0_stageForTram_21 rfl (lv_at hl 0 rfl) ?_
    refine gf_X0_18 F E Z dX0_stageForTram_22 ?_
    have hM := k_X5_has l (D := D) (kk := kk) (ad := ad) (bs := bs) (a := a) (la := la) (b := b) (lb := lb) (lo := lo) r2 (a 23 5) hf
    refine ig_calli E Z (ig_runSN (As := [.int r2, .int (a 23 5)]) (rest := []) F E Z hl (host := "Intergreen") (by decide +kernel) G_X0_90 G_X0_90_i G_X0_90_s hM md_X5_has rfl ⟨rfl, rfl⟩ ⟨Nat.le_of_ble_eq_true rfl, Nat.le_of_ble_eq_true rfl⟩ (Nat.le_of_ble_eq_true rfl) dX0_stageForTram_25 ⟨Nat.le_of_ble_eq_true rfl, Nat.le_of_ble_eq_true rfl⟩) (fun r3 u H locs hf Z => ?_)
    refine lv_if_eq (tgt := 36) F.1 F.2.1 dX0_stageForTram_28 (by decide) (fun c_4 => ?_) (fun c_4 => ?_)
    · have hf := hf.1 c_4
      refine lv_iconst (v := 0) F.1 F.2.1 dX0_stageForTram_36 (by decide) ?_
      refine lv_istore_n (lv' := [(1, .int 0), (0, .ref (ad 23))]) F.1 F.2.1 dX0_stageForTram_37 rfl hl (by decide) rfl (fun ls hl => ?_)
      obtain ⟨n1, hf⟩ := hf
      exact wm_X0_stageForTram_38 F E hr hk post n1 0 _ _ _ hf Z (lv_sub hl [1, 0] rfl)
    · have hf := hf.2 c_4
      refine lv_aload_n F.1 F.2.1 dX0_stageForTram_31 rfl (lv_at hl 0 rfl) ?_
      refine gf_X0_15 F E Z dX0_stageForTram_32 ?_
      exact W.iret (v := a 23 3) F.1 F.2.1 hr (fun t ht hW => ⟨⟨_, (), rfl, hf, Z.wd E ht hW⟩, Z.fr ht⟩) Z.2.2.2 dX0_stageForTram_35
  · have hf := hf.2 c_1
    refine lv_iconst (v := (-1)) F.1 F.2.1 dX0_stageForTram_8 (by decide) ?_
    exact W.iret (v := (-1)) F.1 F.2.1 hr (fun t ht hW => ⟨⟨_, (), rfl, hf, Z.wd E ht hW⟩, Z.fr ht⟩) Z.2.2.2 dX0_stageForTram_9
set_option maxHeartbeats 4000000 in
set_option maxRecDepth 100000 in
theorem wm_X3_demandedSet_4 (F : CallFix p m c cX3_demandedSet 3 s args ig_all RX3) (E : ig_E D kk ad bs s) (hr : meth.sig.returnType = (some .int)) (hk : meth.locks = false) (post : Int32 → Prop) :
    ∀ (n : Nat) (x1 : Int32) (x2 : Int32) (H : Heap) (locs : List Loc) (ls : Array Slot), wp_X3_demandedSet_4 a la post n x1 x2 → ig_Z D kk ad bs s H locs a la b lb lo → lv_has ls 3 [(0, .ref (ad 1)), (1, .int x1), (2, .int x2)] → W p l e (k2_rm 1 20) s m args below meth c H locs 0 0 (MQ below (va_Qi (fun (r : Int32) (_ : Unit) => post r) (fun _ t => ig_Wd D kk ad bs a la b lb lo t) (ig_A bs)) args s 0 0 (ig_A bs)) (F0 m 4 ls []) := by
  intro n
  induction n with
  | zero => intro x1 x2 H locs ls hf Z hl; exact False.elim hf
  | succ n ih =>
    intro x1 x2 H locs ls hf Z hl
    refine lv_iload_n F.1 F.2.1 dX3_demandedSet_4 rfl (lv_at hl 2 rfl) ?_
    refine lv_aload_n F.1 F.2.1 dX3_demandedSet_5 rfl (lv_at hl 0 rfl) ?_
    refine gf_X3_27 F E Z dX3_demandedSet_6 ?_
    refine lv_icmp_ge (tgt := 36) F.1 F.2.1 dX3_demandedSet_9 (by decide) (fun c_1 => ?_) (fun c_1 => ?_)
    · have hf := hf.1 c_1
      refine lv_iload_n F.1 F.2.1 dX3_demandedSet_36 rfl (lv_at hl 1 rfl) ?_
      exact W.iret (v := x1) F.1 F.2.1 hr (fun t ht hW => ⟨⟨_, (), rfl, hf, Z.wd E ht hW⟩, Z.fr ht⟩) Z.2.2.2 dX3_demandedSet_37
    · have hf := hf.2 c_1
      refine lv_aload_n F.1 F.2.1 dX3_demandedSet_12 rfl (lv_at hl 0 rfl) ?_
      refine gf_X3_11 F E Z dX3_demandedSet_13 ?_
      refine lv_iload_n F.1 F.2.1 dX3_demandedSet_16 rfl (lv_at hl 2 rfl) ?_
      have hv2 := hf.1
      have hf := hf.2
      refine ig_aald (t0 := 3) (n := 8) (b0 := 3) F E Z rfl (Or.inl rfl) (by decide) (ig_k_2 _ _ _ _ _ _) hv2 dX3_demandedSet_17 ?_
      have hM := k_X2_isDemanded l (D := D) (kk := kk) (ad := ad) (bs := bs) (a := a) (la := la) (b := b) (lb := lb) (lo := lo) x2.toNatClampNeg (ig_lt hv2) hf
      refine ig_calli E Z (ig_runV (As := []) (rest := []) F E Z hl G_X3_64 hM (i := 3 + x2.toNatClampNeg) (by have := ig_lt hv2; omega) (ig_c_ph _ _ _ _ _ _ (ig_lt hv2)) rfl rfl md_X2_isDemanded rfl ⟨rfl, rfl⟩ ⟨Nat.le_of_ble_eq_true rfl, Nat.le_of_ble_eq_true rfl⟩ (Nat.le_of_ble_eq_true rfl) dX3_demandedSet_18 ⟨Nat.le_of_ble_eq_true rfl, Nat.le_of_ble_eq_true rfl⟩) (fun r3 u H locs hf Z => ?_)
      refine lv_if_eq (tgt := 30) F.1 F.2.1 dX3_demandedSet_21 (by decide) (fun c_4 => ?_) (fun c_4 => ?_)
      · have hf := hf.1 c_4
        refine lv_iinc (v := x2 + 1) (lv' := [(2, .int (x2 + 1)), (0, .ref (ad 1)), (1, .int x1)]) F.1 F.2.1 dX3_demandedSet_30 hl (k := 2) rfl (by rfl) (by decide) rfl (fun ls hl => ?_)
        refine lv_goto (tgt := 4) F.1 F.2.1 dX3_demandedSet_33 (by decide) ?_
        exact ih x1 (x2 + 1) _ _ _ hf Z (lv_sub hl [1, 2, 0] rfl)
      · have hf := hf.2 c_4
        refine lv_iload_n F.1 F.2.1 dX3_demandedSet_24 rfl (lv_at hl 1 rfl) ?_
        refine lv_iconst (v := 1) F.1 F.2.1 dX3_demandedSet_25 (by decide) ?_
        refine lv_iload_n F.1 F.2.1 dX3_demandedSet_26 rfl (lv_at hl 2 rfl) ?_
        refine lv_ishl F.1 F.2.1 dX3_demandedSet_27 ?_
        refine lv_ior F.1 F.2.1 dX3_demandedSet_28 ?_
        refine lv_istore_n (lv' := [(1, .int (x1 ||| (1 <<< (x2 &&& 31)))), (0, .ref (ad 1)), (2, .int x2)]) F.1 F.2.1 dX3_demandedSet_29 rfl hl (by decide) rfl (fun ls hl => ?_)
        refine lv_iinc (v := x2 + 1) (lv' := [(2, .int (x2 + 1)), (1, .int (x1 ||| (1 <<< (x2 &&& 31)))), (0, .ref (ad 1))]) F.1 F.2.1 dX3_demandedSet_30 hl (k := 2) rfl (by rfl) (by decide) rfl (fun ls hl => ?_)
        refine lv_goto (tgt := 4) F.1 F.2.1 dX3_demandedSet_33 (by decide) ?_
        exact ih (x1 ||| (1 <<< (x2 &&& 31))) (x2 + 1) _ _ _ hf Z (lv_sub hl [2, 1, 0] rfl)
set_option maxHeartbeats 4000000 in
set_option maxRecDepth 100000 in
theorem k_X3_demandedSet (l : Launch) {D : va_G} {kk : Nat → ClassId} {ad : Nat → Nat} {bs : Nat} {a : ig_M} {la : Int64} {b : ig_M} {lb lo : Int64} {post : Int32 → Prop} (hf : wp_X3_demandedSet a la post) : Met l yX3_demandedSet (ig_ws yX3_demandedSet cX3_demandedSet 3 (some .int)) (k2_rm 1 20) (va_Pc [.ref (ad 1)] (ig_Wd D kk ad bs a la b lb lo)) (va_Qi (fun (r : Int32) (_ : Unit) => post r) (fun _ t => ig_Wd D kk ad bs a la b lb lo t) (ig_A bs)) 0 0 (ig_A bs) := by
  refine Met.ofW (cc := cX3_demandedSet) (maxL := 3) (ret := (some .int)) (by decide) rfl ?_
  intro p e s m args below meth c s₁ B hml hv
  obtain ⟨rfl, E, hP⟩ := hv
  have hk := B.notSynchronized
  have hr := B.returns
  have F : CallFix p m c cX3_demandedSet 3 s _ ig_all RX3 := ⟨B.exec, B.bytes, hml, findClass_of_methodNamed B.named, fun w hw => atoms_spec B.pre w (List.mem_cons_of_mem _ hw)⟩
  have Z : ig_Z D kk ad bs s s.heap [] a la b lb lo := ig_Z.rf hP
  have hl := lv_entry ([.ref (ad 1)]) (n := 3) (Nat.le_of_ble_eq_true rfl)
  rw [lg_entry_eq]
  generalize (lg_sl ([.ref (ad 1)]) ++ List.replicate (3 - (lg_sl ([.ref (ad 1)])).length) Slot.unset).toArray = ls at hl ⊢
  have hl : lv_has ls 3 [(0, .ref (ad 1))] := hl
  refine lv_iconst (v := 0) F.1 F.2.1 dX3_demandedSet_0 (by decide) ?_
  refine lv_istore_n (lv' := [(1, .int 0), (0, .ref (ad 1))]) F.1 F.2.1 dX3_demandedSet_1 rfl hl (by decide) rfl (fun ls hl => ?_)
  refine lv_iconst (v := 0) F.1 F.2.1 dX3_demandedSet_2 (by decide) ?_
  refine lv_istore_n (lv' := [(2, .int 0), (1, .int 0), (0, .ref (ad 1))]) F.1 F.2.1 dX3_demandedSet_3 rfl hl (by decide) rfl (fun ls hl => ?_)
  obtain ⟨n1, hf⟩ := hf
  exact wm_X3_demandedSet_4 F E hr hk post n1 0 0 _ _ _ hf Z (lv_sub hl [2, 1, 0] rfl)
set_option maxHeartbeats 4000000 in
set_option maxRecDepth 100000 in
theorem wm_X0_stageOnDemand_63 (F : CallFix p m c cX0_stageOnDemand 3 s args ig_all RX0) (E : ig_E D kk ad bs s) (hr : meth.sig.returnType = (some .int)) (hk : meth.locks = false) (post : Int32 → Prop) :
    ∀ (n : Nat) (x1 : Int32) (x2 : Int32) (H : Heap) (locs : List Loc) (ls : Array Slot), wp_X0_stageOnDemand_63 a la post n x1 x2 → ig_Z D kk ad bs s H locs a la b lb lo → lv_has ls 3 [(0, .ref (ad 23)), (1, .int x1), (2, .int x2)] → W p l e (k2_rm 2 43) s m args below meth c H locs 0 0 (MQ below (va_Qi (fun (r : Int32) (_ : Unit) => post r) (fun _ t => ig_Wd D kk ad bs a la b lb lo t) (ig_A bs)) args s 0 0 (ig_A bs)) (F0 m 63 ls []) := by
  intro n
  induction n with
  | zero => intro x1 x2 H locs ls hf Z hl; exact False.elim hf
  | succ n ih =>
    intro x1 x2 H locs ls hf Z hl
    refine lv_iload_n F.1 F.2.1 dX0_stageOnDemand_63 rfl (lv_at hl 2 rfl) ?_
    refine lv_aload_n F.1 F.2.1 dX0_stageOnDemand_64 rfl (lv_at hl 0 rfl) ?_
    refine gf_X0_15 F E Z dX0_stageOnDemand_65 ?_
    refine lv_icmp_ge (tgt := 92) F.1 F.2.1 dX0_stageOnDemand_68 (by decide) (fun c_6 => ?_) (fun c_6 => ?_)
    · have hf := hf.1 c_6
      refine lv_iconst (v := (-1)) F.1 F.2.1 dX0_stageOnDemand_92 (by decide) ?_
      exact W.iret (v := (-1)) F.1 F.2.1 hr (fun t ht hW => ⟨⟨_, (), rfl, hf, Z.wd E ht hW⟩, Z.fr ht⟩) Z.2.2.2 dX0_stageOnDemand_93
    · have hf := hf.2 c_6
      refine lv_aload_n F.1 F.2.1 dX0_stageOnDemand_71 rfl (lv_at hl 0 rfl) ?_
      refine gf_X0_21 F E Z dX0_stageOnDemand_72 ?_
      refine lv_iload_n F.1 F.2.1 dX0_stageOnDemand_75 rfl (lv_at hl 2 rfl) ?_
      have hM := k_X3_setOf l (D := D) (kk := kk) (ad := ad) (bs := bs) (a := a) (la := la) (b := b) (lb := lb) (lo := lo) x2 hf
      refine ig_calli E Z (ig_runV (As := [.int x2]) (rest := []) F E Z hl G_X0_79 hM (i := 1) (by decide) (ig_k_1 _ _ _ _ _ _) rfl rfl md_X3_setOf rfl ⟨rfl, rfl⟩ ⟨Nat.le_of_ble_eq_true rfl, Nat.le_of_ble_eq_true rfl⟩ (Nat.le_of_ble_eq_true rfl) dX0_stageOnDemand_76 ⟨Nat.le_of_ble_eq_true rfl, Nat.le_of_ble_eq_true rfl⟩) (fun r7 u H locs hf Z => ?_)
      refine lv_iload_n F.1 F.2.1 dX0_stageOnDemand_79 rfl (lv_at hl 1 rfl) ?_
      refine lv_iand F.1 F.2.1 dX0_stageOnDemand_80 ?_
      refine lv_if_eq (tgt := 86) F.1 F.2.1 dX0_stageOnDemand_81 (by decide) (fun c_8 => ?_) (fun c_8 => ?_)
      · have hf := hf.1 c_8
        refine lv_iinc (v := x2 + 1) (lv' := [(2, .int (x2 + 1)), (0, .ref (ad 23)), (1, .int x1)]) F.1 F.2.1 dX0_stageOnDemand_86 hl (k := 2) rfl (by rfl) (by decide) rfl (fun ls hl => ?_)
        refine lv_goto (tgt := 63) F.1 F.2.1 dX0_stageOnDemand_89 (by decide) ?_
        exact ih x1 (x2 + 1) _ _ _ hf Z (lv_sub hl [1, 2, 0] rfl)
      · have hf := hf.2 c_8
        refine lv_iload_n F.1 F.2.1 dX0_stageOnDemand_84 rfl (lv_at hl 2 rfl) ?_
        exact W.iret (v := x2) F.1 F.2.1 hr (fun t ht hW => ⟨⟨_, (), rfl, hf, Z.wd E ht hW⟩, Z.fr ht⟩) Z.2.2.2 dX0_stageOnDemand_85
set_option maxHeartbeats 4000000 in
set_option maxRecDepth 100000 in
theorem wm_X0_stageOnDemand_29 (F : CallFix p m c cX0_stageOnDemand 3 s args ig_all RX0) (E : ig_E D kk ad bs s) (hr : meth.sig.returnType = (some .int)) (hk : meth.locks = false) (post : Int32 → Prop) :
    ∀ (n : Nat) (x1 : Int32) (x2 : Int32) (H : Heap) (locs : List Loc) (ls : Array Slot), wp_X0_stageOnDemand_29 a la post n x1 x2 → ig_Z D kk ad bs s H locs a la b lb lo → lv_has ls 3 [(0, .ref (ad 23)), (1, .int x1), (2, .int x2)] → W p l e (k2_rm 2 43) s m args below meth c H locs 0 0 (MQ below (va_Qi (fun (r : Int32) (_ : Unit) => post r) (fun _ t => ig_Wd D kk ad bs a la b lb lo t) (ig_A bs)) args s 0 0 (ig_A bs)) (F0 m 29 ls []) := by
  intro n
  induction n with
  | zero => intro x1 x2 H locs ls hf Z hl; exact False.elim hf
  | succ n ih =>
    intro x1 x2 H locs ls hf Z hl
    refine lv_iload_n F.1 F.2.1 dX0_stageOnDemand_29 rfl (lv_at hl 2 rfl) ?_
    refine lv_aload_n F.1 F.2.1 dX0_stageOnDemand_30 rfl (lv_at hl 0 rfl) ?_
    refine gf_X0_21 F E Z dX0_stageOnDemand_31 ?_
    refine gf_X0_94 F E Z dX0_stageOnDemand_34 ?_
    refine lv_icmp_ge (tgt := 61) F.1 F.2.1 dX0_stageOnDemand_37 (by decide) (fun c_3 => ?_) (fun c_3 => ?_)
    · have hf := hf.1 c_3
      refine lv_iconst (v := 0) F.1 F.2.1 dX0_stageOnDemand_61 (by decide) ?_
      refine lv_istore_n (lv' := [(2, .int 0), (0, .ref (ad 23)), (1, .int x1)]) F.1 F.2.1 dX0_stageOnDemand_62 rfl hl (by decide) rfl (fun ls hl => ?_)
      obtain ⟨n1, hf⟩ := hf
      exact wm_X0_stageOnDemand_63 F E hr hk post n1 x1 0 _ _ _ hf Z (lv_sub hl [1, 2, 0] rfl)
    · have hf := hf.2 c_3
      refine lv_aload_n F.1 F.2.1 dX0_stageOnDemand_40 rfl (lv_at hl 0 rfl) ?_
      refine gf_X0_21 F E Z dX0_stageOnDemand_41 ?_
      refine lv_iload_n F.1 F.2.1 dX0_stageOnDemand_44 rfl (lv_at hl 2 rfl) ?_
      have hM := k_X3_setOf l (D := D) (kk := kk) (ad := ad) (bs := bs) (a := a) (la := la) (b := b) (lb := lb) (lo := lo) x2 hf
      refine ig_calli E Z (ig_runV (As := [.int x2]) (rest := []) F E Z hl G_X0_79 hM (i := 1) (by decide) (ig_k_1 _ _ _ _ _ _) rfl rfl md_X3_setOf rfl ⟨rfl, rfl⟩ ⟨Nat.le_of_ble_eq_true rfl, Nat.le_of_ble_eq_true rfl⟩ (Nat.le_of_ble_eq_true rfl) dX0_stageOnDemand_45 ⟨Nat.le_of_ble_eq_true rfl, Nat.le_of_ble_eq_true rfl⟩) (fun r4 u H locs hf Z => ?_)
      refine lv_iload_n F.1 F.2.1 dX0_stageOnDemand_48 rfl (lv_at hl 1 rfl) ?_
      refine lv_iand F.1 F.2.1 dX0_stageOnDemand_49 ?_
      refine lv_if_eq (tgt := 55) F.1 F.2.1 dX0_stageOnDemand_50 (by decide) (fun c_5 => ?_) (fun c_5 => ?_)
      · have hf := hf.1 c_5
        refine lv_iinc (v := x2 + 1) (lv' := [(2, .int (x2 + 1)), (0, .ref (ad 23)), (1, .int x1)]) F.1 F.2.1 dX0_stageOnDemand_55 hl (k := 2) rfl (by rfl) (by decide) rfl (fun ls hl => ?_)
        refine lv_goto (tgt := 29) F.1 F.2.1 dX0_stageOnDemand_58 (by decide) ?_
        exact ih x1 (x2 + 1) _ _ _ hf Z (lv_sub hl [1, 2, 0] rfl)
      · have hf := hf.2 c_5
        refine lv_iload_n F.1 F.2.1 dX0_stageOnDemand_53 rfl (lv_at hl 2 rfl) ?_
        exact W.iret (v := x2) F.1 F.2.1 hr (fun t ht hW => ⟨⟨_, (), rfl, hf, Z.wd E ht hW⟩, Z.fr ht⟩) Z.2.2.2 dX0_stageOnDemand_54
set_option maxHeartbeats 4000000 in
set_option maxRecDepth 100000 in
theorem k_X0_stageOnDemand (l : Launch) {D : va_G} {kk : Nat → ClassId} {ad : Nat → Nat} {bs : Nat} {a : ig_M} {la : Int64} {b : ig_M} {lb lo : Int64} {post : Int32 → Prop} (hf : wp_X0_stageOnDemand a la post) : Met l yX0_stageOnDemand (ig_ws yX0_stageOnDemand cX0_stageOnDemand 3 (some .int)) (k2_rm 2 43) (va_Pc [.ref (ad 23)] (ig_Wd D kk ad bs a la b lb lo)) (va_Qi (fun (r : Int32) (_ : Unit) => post r) (fun _ t => ig_Wd D kk ad bs a la b lb lo t) (ig_A bs)) 0 0 (ig_A bs) := by
  refine Met.ofW (cc := cX0_stageOnDemand) (maxL := 3) (ret := (some .int)) (by decide) rfl ?_
  intro p e s m args below meth c s₁ B hml hv
  obtain ⟨rfl, E, hP⟩ := hv
  have hk := B.notSynchronized
  have hr := B.returns
  have F : CallFix p m c cX0_stageOnDemand 3 s _ ig_all RX0 := ⟨B.exec, B.bytes, hml, findClass_of_methodNamed B.named, fun w hw => atoms_spec B.pre w (List.mem_cons_of_mem _ hw)⟩
  have Z : ig_Z D kk ad bs s s.heap [] a la b lb lo := ig_Z.rf hP
  have hl := lv_entry ([.ref (ad 23)]) (n := 3) (Nat.le_of_ble_eq_true rfl)
  rw [lg_entry_eq]
  generalize (lg_sl ([.ref (ad 23)]) ++ List.replicate (3 - (lg_sl ([.ref (ad 23)])).length) Slot.unset).toArray = ls at hl ⊢
  have hl : lv_has ls 3 [(0, .ref (ad 23))] := hl
  refine lv_aload_n F.1 F.2.1 dX0_stageOnDemand_0 rfl (lv_at hl 0 rfl) ?_
  refine gf_X0_21 F E Z dX0_stageOnDemand_1 ?_
  have hM := k_X3_demandedSet l (D := D) (kk := kk) (ad := ad) (bs := bs) (a := a) (la := la) (b := b) (lb := lb) (lo := lo) hf
  refine ig_calli E Z (ig_runV (As := []) (rest := []) F E Z hl G_X0_97 hM (i := 1) (by decide) (ig_k_1 _ _ _ _ _ _) rfl rfl md_X3_demandedSet rfl ⟨rfl, rfl⟩ ⟨Nat.le_of_ble_eq_true rfl, Nat.le_of_ble_eq_true rfl⟩ (Nat.le_of_ble_eq_true rfl) dX0_stageOnDemand_4 ⟨Nat.le_of_ble_eq_true rfl, Nat.le_of_ble_eq_true rfl⟩) (fun r1 u H locs hf Z => ?_)
  refine lv_aload_n F.1 F.2.1 dX0_stageOnDemand_7 rfl (lv_at hl 0 rfl) ?_
  refine gf_X0_21 F E Z dX0_stageOnDemand_8 ?_
  refine lv_aload_n F.1 F.2.1 dX0_stageOnDemand_11 rfl (lv_at hl 0 rfl) ?_
  refine gf_X0_15 F E Z dX0_stageOnDemand_12 ?_
  have hM := k_X3_setOf l (D := D) (kk := kk) (ad := ad) (bs := bs) (a := a) (la := la) (b := b) (lb := lb) (lo := lo) (a 23 3) hf
  refine ig_calli E Z (ig_runV (As := [.int (a 23 3)]) (rest := [.int r1]) F E Z hl G_X0_79 hM (i := 1) (by decide) (ig_k_1 _ _ _ _ _ _) rfl rfl md_X3_setOf rfl ⟨rfl, rfl⟩ ⟨Nat.le_of_ble_eq_true rfl, Nat.le_of_ble_eq_true rfl⟩ (Nat.le_of_ble_eq_true rfl) dX0_stageOnDemand_15 ⟨Nat.le_of_ble_eq_true rfl, Nat.le_of_ble_eq_true rfl⟩) (fun r2 u H locs hf Z => ?_)
  refine lv_iconst (v := (-1)) F.1 F.2.1 dX0_stageOnDemand_18 (by decide) ?_
  refine lv_ixor F.1 F.2.1 dX0_stageOnDemand_19 ?_
  refine lv_iand F.1 F.2.1 dX0_stageOnDemand_20 ?_
  refine lv_istore_n (lv' := [(1, .int (r1 &&& (r2 ^^^ ((-1))))), (0, .ref (ad 23))]) F.1 F.2.1 dX0_stageOnDemand_21 rfl hl (by decide) rfl (fun ls hl => ?_)
  refine lv_aload_n F.1 F.2.1 dX0_stageOnDemand_22 rfl (lv_at hl 1 rfl) ?_
  refine gf_X0_15 F E Z dX0_stageOnDemand_23 ?_
  refine lv_iconst (v := 1) F.1 F.2.1 dX0_stageOnDemand_26 (by decide) ?_
  refine lv_iadd F.1 F.2.1 dX0_stageOnDemand_27 ?_
  refine lv_istore_n (lv' := [(2, .int ((a 23 3) + 1)), (1, .int (r1 &&& (r2 ^^^ ((-1))))), (0, .ref (ad 23))]) F.1 F.2.1 dX0_stageOnDemand_28 rfl hl (by decide) rfl (fun ls hl => ?_)
  obtain ⟨n1, hf⟩ := hf
  exact wm_X0_stageOnDemand_29 F E hr hk post n1 (r1 &&& (r2 ^^^ ((-1)))) ((a 23 3) + 1) _ _ _ hf Z (lv_sub hl [2, 1, 0] rfl)
set_option maxHeartbeats 4000000 in
set_option maxRecDepth 100000 in
theorem k_X2_mayEnd (l : Launch) {D : va_G} {kk : Nat → ClassId} {ad : Nat → Nat} {bs : Nat} {a : ig_M} {la : Int64} {b : ig_M} {lb lo : Int64} (k0 : Nat) (x1 : Int32) (hk0 : k0 < 8) {post : Int32 → Prop} (hf : wp_X2_mayEnd a la k0 x1 post) : Met l yX2_mayEnd (ig_ws yX2_mayEnd cX2_mayEnd 2 (some .boolean)) (k2_rm 0 0) (va_Pc [.ref (ad (3 + k0)), .int x1] (ig_Wd D kk ad bs a la b lb lo)) (va_Qi (fun (r : Int32) (_ : Unit) => post r) (fun _ t => ig_Wd D kk ad bs a la b lb lo t) (ig_A bs)) 0 0 (ig_A bs) := by
  refine Met.ofW (cc := cX2_mayEnd) (maxL := 2) (ret := (some .boolean)) (by decide) rfl ?_
  intro p e s m args below meth c s₁ B hml hv
  obtain ⟨rfl, E, hP⟩ := hv
  have hk := B.notSynchronized
  have hr := B.returns
  have F : CallFix p m c cX2_mayEnd 2 s _ ig_all RX2 := ⟨B.exec, B.bytes, hml, findClass_of_methodNamed B.named, fun w hw => atoms_spec B.pre w (List.mem_cons_of_mem _ hw)⟩
  have Z : ig_Z D kk ad bs s s.heap [] a la b lb lo := ig_Z.rf hP
  have hl := lv_entry ([.ref (ad (3 + k0)), .int x1]) (n := 2) (Nat.le_of_ble_eq_true rfl)
  rw [lg_entry_eq]
  generalize (lg_sl ([.ref (ad (3 + k0)), .int x1]) ++ List.replicate (2 - (lg_sl ([.ref (ad (3 + k0)), .int x1])).length) Slot.unset).toArray = ls at hl ⊢
  have hl : lv_has ls 2 [(0, .ref (ad (3 + k0))), (1, .int x1)] := hl
  refine lv_aload_n F.1 F.2.1 dX2_mayEnd_0 rfl (lv_at hl 0 rfl) ?_
  refine gf_X2_32 F E Z hk0 dX2_mayEnd_1 ?_
  refine lv_aload_n F.1 F.2.1 dX2_mayEnd_4 rfl (lv_at hl 0 rfl) ?_
  refine gf_X2_35 F E Z hk0 dX2_mayEnd_5 ?_
  refine lv_icmp_lt (tgt := 37) F.1 F.2.1 dX2_mayEnd_8 (by decide) (fun c_1 => ?_) (fun c_1 => ?_)
  · have hf := hf.1 c_1
    refine lv_iconst (v := 0) F.1 F.2.1 dX2_mayEnd_37 (by decide) ?_
    exact W.zret (v := 0) F.1 F.2.1 hr (ig_narrow (Or.inl rfl)) (fun t ht hW => ⟨⟨_, (), rfl, hf, Z.wd E ht hW⟩, Z.fr ht⟩) Z.2.2.2 dX2_mayEnd_38
  · have hf := hf.2 c_1
    refine lv_iload_n F.1 F.2.1 dX2_mayEnd_11 rfl (lv_at hl 1 rfl) ?_
    refine lv_if_ne (tgt := 33) F.1 F.2.1 dX2_mayEnd_12 (by decide) (fun c_2 => ?_) (fun c_2 => ?_)
    · have hf := hf.1 c_2
      refine lv_iconst (v := 1) F.1 F.2.1 dX2_mayEnd_33 (by decide) ?_
      refine lv_goto (tgt := 38) F.1 F.2.1 dX2_mayEnd_34 (by decide) ?_
      exact W.zret (v := 1) F.1 F.2.1 hr (ig_narrow (Or.inr rfl)) (fun t ht hW => ⟨⟨_, (), rfl, hf, Z.wd E ht hW⟩, Z.fr ht⟩) Z.2.2.2 dX2_mayEnd_38
    · have hf := hf.2 c_2
      refine lv_aload_n F.1 F.2.1 dX2_mayEnd_15 rfl (lv_at hl 0 rfl) ?_
      refine gf_X2_38 F E Z hk0 dX2_mayEnd_16 ?_
      refine lv_if_eq (tgt := 33) F.1 F.2.1 dX2_mayEnd_19 (by decide) (fun c_3 => ?_) (fun c_3 => ?_)
      · have hf := hf.1 c_3
        refine lv_iconst (v := 1) F.1 F.2.1 dX2_mayEnd_33 (by decide) ?_
        refine lv_goto (tgt := 38) F.1 F.2.1 dX2_mayEnd_34 (by decide) ?_
        exact W.zret (v := 1) F.1 F.2.1 hr (ig_narrow (Or.inr rfl)) (fun t ht hW => ⟨⟨_, (), rfl, hf, Z.wd E ht hW⟩, Z.fr ht⟩) Z.2.2.2 dX2_mayEnd_38
      · have hf := hf.2 c_3
        refine lv_aload_n F.1 F.2.1 dX2_mayEnd_22 rfl (lv_at hl 0 rfl) ?_
        refine gf_X2_32 F E Z hk0 dX2_mayEnd_23 ?_
        refine lv_aload_n F.1 F.2.1 dX2_mayEnd_26 rfl (lv_at hl 0 rfl) ?_
        refine gf_X2_41 F E Z hk0 dX2_mayEnd_27 ?_
        refine lv_icmp_lt (tgt := 37) F.1 F.2.1 dX2_mayEnd_30 (by decide) (fun c_4 => ?_) (fun c_4 => ?_)
        · have hf := hf.1 c_4
          refine lv_iconst (v := 0) F.1 F.2.1 dX2_mayEnd_37 (by decide) ?_
          exact W.zret (v := 0) F.1 F.2.1 hr (ig_narrow (Or.inl rfl)) (fun t ht hW => ⟨⟨_, (), rfl, hf, Z.wd E ht hW⟩, Z.fr ht⟩) Z.2.2.2 dX2_mayEnd_38
        · have hf := hf.2 c_4
          refine lv_iconst (v := 1) F.1 F.2.1 dX2_mayEnd_33 (by decide) ?_
          refine lv_goto (tgt := 38) F.1 F.2.1 dX2_mayEnd_34 (by decide) ?_
          exact W.zret (v := 1) F.1 F.2.1 hr (ig_narrow (Or.inr rfl)) (fun t ht hW => ⟨⟨_, (), rfl, hf, Z.wd E ht hW⟩, Z.fr ht⟩) Z.2.2.2 dX2_mayEnd_38
set_option maxHeartbeats 4000000 in
set_option maxRecDepth 100000 in
theorem wm_X0_mayEnd_2 (F : CallFix p m c cX0_mayEnd 4 s args ig_all RX0) (E : ig_E D kk ad bs s) (hr : meth.sig.returnType = (some .boolean)) (hk : meth.locks = false) (post : Int32 → Prop) :
    ∀ (n : Nat) (x1 : Int32) (x2 : Int32) (x3 : Int32) (H : Heap) (locs : List Loc) (ls : Array Slot), wp_X0_mayEnd_2 a la post n x1 x2 x3 → ig_Z D kk ad bs s H locs a la b lb lo → lv_has ls 4 [(0, .ref (ad 23)), (1, .int x1), (2, .int x2), (3, .int x3)] → W p l e (k2_rm 1 21) s m args below meth c H locs 0 0 (MQ below (va_Qi (fun (r : Int32) (_ : Unit) => post r) (fun _ t => ig_Wd D kk ad bs a la b lb lo t) (ig_A bs)) args s 0 0 (ig_A bs)) (F0 m 2 ls []) := by
  intro n
  induction n with
  | zero => intro x1 x2 x3 H locs ls hf Z hl; exact False.elim hf
  | succ n ih =>
    intro x1 x2 x3 H locs ls hf Z hl
    refine lv_iload_n F.1 F.2.1 dX0_mayEnd_2 rfl (lv_at hl 3 rfl) ?_
    refine lv_aload_n F.1 F.2.1 dX0_mayEnd_3 rfl (lv_at hl 0 rfl) ?_
    refine gf_X0_21 F E Z dX0_mayEnd_4 ?_
    refine gf_X0_33 F E Z dX0_mayEnd_7 ?_
    refine lv_icmp_ge (tgt := 45) F.1 F.2.1 dX0_mayEnd_10 (by decide) (fun c_1 => ?_) (fun c_1 => ?_)
    · have hf := hf.1 c_1
      refine lv_iconst (v := 1) F.1 F.2.1 dX0_mayEnd_45 (by decide) ?_
      exact W.zret (v := 1) F.1 F.2.1 hr (ig_narrow (Or.inr rfl)) (fun t ht hW => ⟨⟨_, (), rfl, hf, Z.wd E ht hW⟩, Z.fr ht⟩) Z.2.2.2 dX0_mayEnd_46
    · have hf := hf.2 c_1
      refine lv_iload_n F.1 F.2.1 dX0_mayEnd_13 rfl (lv_at hl 1 rfl) ?_
      refine lv_iload_n F.1 F.2.1 dX0_mayEnd_14 rfl (lv_at hl 3 rfl) ?_
      have hM := k_X5_has l (D := D) (kk := kk) (ad := ad) (bs := bs) (a := a) (la := la) (b := b) (lb := lb) (lo := lo) x1 x3 hf
      refine ig_calli E Z (ig_runSN (As := [.int x1, .int x3]) (rest := []) F E Z hl (host := "Intergreen") (by decide +kernel) G_X0_90 G_X0_90_i G_X0_90_s hM md_X5_has rfl ⟨rfl, rfl⟩ ⟨Nat.le_of_ble_eq_true rfl, Nat.le_of_ble_eq_true rfl⟩ (Nat.le_of_ble_eq_true rfl) dX0_mayEnd_15 ⟨Nat.le_of_ble_eq_true rfl, Nat.le_of_ble_eq_true rfl⟩) (fun r2 u H locs hf Z => ?_)
      refine lv_if_eq (tgt := 39) F.1 F.2.1 dX0_mayEnd_18 (by decide) (fun c_3 => ?_) (fun c_3 => ?_)
      · have hf := hf.1 c_3
        refine lv_iinc (v := x3 + 1) (lv' := [(3, .int (x3 + 1)), (0, .ref (ad 23)), (1, .int x1), (2, .int x2)]) F.1 F.2.1 dX0_mayEnd_39 hl (k := 3) rfl (by rfl) (by decide) rfl (fun ls hl => ?_)
        refine lv_goto (tgt := 2) F.1 F.2.1 dX0_mayEnd_42 (by decide) ?_
        exact ih x1 x2 (x3 + 1) _ _ _ hf Z (lv_sub hl [1, 2, 3, 0] rfl)
      · have hf := hf.2 c_3
        refine lv_aload_n F.1 F.2.1 dX0_mayEnd_21 rfl (lv_at hl 0 rfl) ?_
        refine gf_X0_21 F E Z dX0_mayEnd_22 ?_
        refine gf_X0_38 F E Z dX0_mayEnd_25 ?_
        refine lv_iload_n F.1 F.2.1 dX0_mayEnd_28 rfl (lv_at hl 3 rfl) ?_
        have hv4 := hf.1
        have hf := hf.2
        refine ig_aald (t0 := 3) (n := 8) (b0 := 3) F E Z rfl (Or.inl rfl) (by decide) (ig_k_2 _ _ _ _ _ _) hv4 dX0_mayEnd_29 ?_
        refine lv_iload_n F.1 F.2.1 dX0_mayEnd_30 rfl (lv_at hl 2 rfl) ?_
        have hM := k_X2_mayEnd l (D := D) (kk := kk) (ad := ad) (bs := bs) (a := a) (la := la) (b := b) (lb := lb) (lo := lo) x3.toNatClampNeg x2 (ig_lt hv4) hf
        refine ig_calli E Z (ig_runV (As := [.int x2]) (rest := []) F E Z hl G_X0_100 hM (i := 3 + x3.toNatClampNeg) (by have := ig_lt hv4; omega) (ig_c_ph _ _ _ _ _ _ (ig_lt hv4)) rfl rfl md_X2_mayEnd rfl ⟨rfl, rfl⟩ ⟨Nat.le_of_ble_eq_true rfl, Nat.le_of_ble_eq_true rfl⟩ (Nat.le_of_ble_eq_true rfl) dX0_mayEnd_31 ⟨Nat.le_of_ble_eq_true rfl, Nat.le_of_ble_eq_true rfl⟩) (fun r5 u H locs hf Z => ?_)
        refine lv_if_ne (tgt := 39) F.1 F.2.1 dX0_mayEnd_34 (by decide) (fun c_6 => ?_) (fun c_6 => ?_)
        · have hf := hf.1 c_6
          refine lv_iinc (v := x3 + 1) (lv' := [(3, .int (x3 + 1)), (0, .ref (ad 23)), (1, .int x1), (2, .int x2)]) F.1 F.2.1 dX0_mayEnd_39 hl (k := 3) rfl (by rfl) (by decide) rfl (fun ls hl => ?_)
          refine lv_goto (tgt := 2) F.1 F.2.1 dX0_mayEnd_42 (by decide) ?_
          exact ih x1 x2 (x3 + 1) _ _ _ hf Z (lv_sub hl [1, 2, 3, 0] rfl)
        · have hf := hf.2 c_6
          refine lv_iconst (v := 0) F.1 F.2.1 dX0_mayEnd_37 (by decide) ?_
          exact W.zret (v := 0) F.1 F.2.1 hr (ig_narrow (Or.inl rfl)) (fun t ht hW => ⟨⟨_, (), rfl, hf, Z.wd E ht hW⟩, Z.fr ht⟩) Z.2.2.2 dX0_mayEnd_38
set_option maxHeartbeats 4000000 in
set_option maxRecDepth 100000 in
theorem k_X0_mayEnd (l : Launch) {D : va_G} {kk : Nat → ClassId} {ad : Nat → Nat} {bs : Nat} {a : ig_M} {la : Int64} {b : ig_M} {lb lo : Int64} (x1 : Int32) (x2 : Int32) {post : Int32 → Prop} (hf : wp_X0_mayEnd a la x1 x2 post) : Met l yX0_mayEnd (ig_ws yX0_mayEnd cX0_mayEnd 4 (some .boolean)) (k2_rm 1 21) (va_Pc [.ref (ad 23), .int x1, .int x2] (ig_Wd D kk ad bs a la b lb lo)) (va_Qi (fun (r : Int32) (_ : Unit) => post r) (fun _ t => ig_Wd D kk ad bs a la b lb lo t) (ig_A bs)) 0 0 (ig_A bs) := by
  refine Met.ofW (cc := cX0_mayEnd) (maxL := 4) (ret := (some .boolean)) (by decide) rfl ?_
  intro p e s m args below meth c s₁ B hml hv
  obtain ⟨rfl, E, hP⟩ := hv
  have hk := B.notSynchronized
  have hr := B.returns
  have F : CallFix p m c cX0_mayEnd 4 s _ ig_all RX0 := ⟨B.exec, B.bytes, hml, findClass_of_methodNamed B.named, fun w hw => atoms_spec B.pre w (List.mem_cons_of_mem _ hw)⟩
  have Z : ig_Z D kk ad bs s s.heap [] a la b lb lo := ig_Z.rf hP
  have hl := lv_entry ([.ref (ad 23), .int x1, .int x2]) (n := 4) (Nat.le_of_ble_eq_true rfl)
  rw [lg_entry_eq]
  generalize (lg_sl ([.ref (ad 23), .int x1, .int x2]) ++ List.replicate (4 - (lg_sl ([.ref (ad 23), .int x1, .int x2])).length) Slot.unset).toArray = ls at hl ⊢
  have hl : lv_has ls 4 [(0, .ref (ad 23)), (1, .int x1), (2, .int x2)] := hl
  refine lv_iconst (v := 0) F.1 F.2.1 dX0_mayEnd_0 (by decide) ?_
  refine lv_istore_n (lv' := [(3, .int 0), (0, .ref (ad 23)), (1, .int x1), (2, .int x2)]) F.1 F.2.1 dX0_mayEnd_1 rfl hl (by decide) rfl (fun ls hl => ?_)
  obtain ⟨n1, hf⟩ := hf
  exact wm_X0_mayEnd_2 F E hr hk post n1 x1 x2 0 _ _ _ hf Z (lv_sub hl [1, 2, 3, 0] rfl)
set_option maxHeartbeats 4000000 in
set_option maxRecDepth 100000 in
theorem k_X2_turnAmber (l : Launch) {D : va_G} {kk : Nat → ClassId} {ad : Nat → Nat} {bs : Nat} {a : ig_M} {la : Int64} {b : ig_M} {lb lo : Int64} (k0 : Nat) (x1 : Int32) (hk0 : k0 < 8) {post : ig_M → Int64 → Prop} (hf : wp_X2_turnAmber a la k0 x1 post) : Met l yX2_turnAmber (ig_ws yX2_turnAmber cX2_turnAmber 2 none) (k2_rm 0 0) (va_Pc [.ref (ad (3 + k0)), .int x1] (ig_Wd D kk ad bs a la b lb lo)) (va_Qv (fun u : ig_M × Int64 => post u.1 u.2) (fun u t => ig_Wd D kk ad bs u.1 u.2 b lb lo t) (ig_A bs)) 0 0 (ig_A bs) := by
  refine Met.ofW (cc := cX2_turnAmber) (maxL := 2) (ret := none) (by decide) rfl ?_
  intro p e s m args below meth c s₁ B hml hv
  obtain ⟨rfl, E, hP⟩ := hv
  have hk := B.notSynchronized
  have hr := B.returns
  have F : CallFix p m c cX2_turnAmber 2 s _ ig_all RX2 := ⟨B.exec, B.bytes, hml, findClass_of_methodNamed B.named, fun w hw => atoms_spec B.pre w (List.mem_cons_of_mem _ hw)⟩
  have Z : ig_Z D kk ad bs s s.heap [] a la b lb lo := ig_Z.rf hP
  have hl := lv_entry ([.ref (ad (3 + k0)), .int x1]) (n := 2) (Nat.le_of_ble_eq_true rfl)
  rw [lg_entry_eq]
  generalize (lg_sl ([.ref (ad (3 + k0)), .int x1]) ++ List.replicate (2 - (lg_sl ([.ref (ad (3 + k0)), .int x1])).length) Slot.unset).toArray = ls at hl ⊢
  have hl : lv_has ls 2 [(0, .ref (ad (3 + k0))), (1, .int x1)] := hl
  refine lv_aload_n F.1 F.2.1 dX2_turnAmber_0 rfl (lv_at hl 0 rfl) ?_
  refine lv_iconst (v := 2) F.1 F.2.1 dX2_turnAmber_1 (by decide) ?_
  refine pf_X2_9 F E Z hk0 dX2_turnAmber_2 (fun H locs a1 ha1 Z => ?_)
  have hf := hf a1 ha1
  refine lv_aload_n F.1 F.2.1 dX2_turnAmber_5 rfl (lv_at hl 0 rfl) ?_
  refine lv_iload_n F.1 F.2.1 dX2_turnAmber_6 rfl (lv_at hl 1 rfl) ?_
  refine pf_X2_15 F E Z hk0 dX2_turnAmber_7 (fun H locs a2 ha2 Z => ?_)
  have hf := hf a2 ha2
  exact W.vret F.1 F.2.1 hr (fun t ht hW => ⟨⟨(a2, la), rfl, hf, Z.wd E ht hW⟩, Z.fr ht⟩) Z.2.2.2 dX2_turnAmber_10
set_option maxHeartbeats 4000000 in
set_option maxRecDepth 100000 in
theorem wm_X0_endGreens_2 (F : CallFix p m c cX0_endGreens 3 s args ig_all RX0) (E : ig_E D kk ad bs s) (hr : meth.sig.returnType = none) (hk : meth.locks = false) (post : ig_M → Int64 → Prop) :
    ∀ (n : Nat) (a : ig_M) (la : Int64) (x1 : Int32) (x2 : Int32) (H : Heap) (locs : List Loc) (ls : Array Slot), wp_X0_endGreens_2 post n a la x1 x2 → ig_Z D kk ad bs s H locs a la b lb lo → lv_has ls 3 [(0, .ref (ad 23)), (1, .int x1), (2, .int x2)] → W p l e (k2_rm 1 21) s m args below meth c H locs 0 0 (MQ below (va_Qv (fun u : ig_M × Int64 => post u.1 u.2) (fun u t => ig_Wd D kk ad bs u.1 u.2 b lb lo t) (ig_A bs)) args s 0 0 (ig_A bs)) (F0 m 2 ls []) := by
  intro n
  induction n with
  | zero => intro a la x1 x2 H locs ls hf Z hl; exact False.elim hf
  | succ n ih =>
    intro a la x1 x2 H locs ls hf Z hl
    refine lv_iload_n F.1 F.2.1 dX0_endGreens_2 rfl (lv_at hl 2 rfl) ?_
    refine lv_aload_n F.1 F.2.1 dX0_endGreens_3 rfl (lv_at hl 0 rfl) ?_
    refine gf_X0_21 F E Z dX0_endGreens_4 ?_
    refine gf_X0_33 F E Z dX0_endGreens_7 ?_
    refine lv_icmp_ge (tgt := 43) F.1 F.2.1 dX0_endGreens_10 (by decide) (fun c_1 => ?_) (fun c_1 => ?_)
    · have hf := hf.1 c_1
      exact W.vret F.1 F.2.1 hr (fun t ht hW => ⟨⟨(a, la), rfl, hf, Z.wd E ht hW⟩, Z.fr ht⟩) Z.2.2.2 dX0_endGreens_43
    · have hf := hf.2 c_1
      refine lv_iload_n F.1 F.2.1 dX0_endGreens_13 rfl (lv_at hl 1 rfl) ?_
      refine lv_iload_n F.1 F.2.1 dX0_endGreens_14 rfl (lv_at hl 2 rfl) ?_
      have hM := k_X5_has l (D := D) (kk := kk) (ad := ad) (bs := bs) (a := a) (la := la) (b := b) (lb := lb) (lo := lo) x1 x2 hf
      refine ig_calli E Z (ig_runSN (As := [.int x1, .int x2]) (rest := []) F E Z hl (host := "Intergreen") (by decide +kernel) G_X0_90 G_X0_90_i G_X0_90_s hM md_X5_has rfl ⟨rfl, rfl⟩ ⟨Nat.le_of_ble_eq_true rfl, Nat.le_of_ble_eq_true rfl⟩ (Nat.le_of_ble_eq_true rfl) dX0_endGreens_15 ⟨Nat.le_of_ble_eq_true rfl, Nat.le_of_ble_eq_true rfl⟩) (fun r2 u H locs hf Z => ?_)
      refine lv_if_eq (tgt := 37) F.1 F.2.1 dX0_endGreens_18 (by decide) (fun c_3 => ?_) (fun c_3 => ?_)
      · have hf := hf.1 c_3
        refine lv_iinc (v := x2 + 1) (lv' := [(2, .int (x2 + 1)), (0, .ref (ad 23)), (1, .int x1)]) F.1 F.2.1 dX0_endGreens_37 hl (k := 2) rfl (by rfl) (by decide) rfl (fun ls hl => ?_)
        refine lv_goto (tgt := 2) F.1 F.2.1 dX0_endGreens_40 (by decide) ?_
        exact ih a la x1 (x2 + 1) _ _ _ hf Z (lv_sub hl [1, 2, 0] rfl)
      · have hf := hf.2 c_3
        refine lv_aload_n F.1 F.2.1 dX0_endGreens_21 rfl (lv_at hl 0 rfl) ?_
        refine gf_X0_21 F E Z dX0_endGreens_22 ?_
        refine gf_X0_38 F E Z dX0_endGreens_25 ?_
        refine lv_iload_n F.1 F.2.1 dX0_endGreens_28 rfl (lv_at hl 2 rfl) ?_
        have hv4 := hf.1
        have hf := hf.2
        refine ig_aald (t0 := 3) (n := 8) (b0 := 3) F E Z rfl (Or.inl rfl) (by decide) (ig_k_2 _ _ _ _ _ _) hv4 dX0_endGreens_29 ?_
        refine lv_aload_n F.1 F.2.1 dX0_endGreens_30 rfl (lv_at hl 0 rfl) ?_
        refine gf_X0_42 F E Z dX0_endGreens_31 ?_
        have hM := k_X2_turnAmber l (D := D) (kk := kk) (ad := ad) (bs := bs) (a := a) (la := la) (b := b) (lb := lb) (lo := lo) x2.toNatClampNeg (a 23 6) (ig_lt hv4) hf
        refine ig_callv E Z (ig_runV (As := [.int (a 23 6)]) (rest := []) F E Z hl G_X0_103 hM (i := 3 + x2.toNatClampNeg) (by have := ig_lt hv4; omega) (ig_c_ph _ _ _ _ _ _ (ig_lt hv4)) rfl rfl md_X2_turnAmber rfl ⟨rfl, rfl⟩ ⟨Nat.le_of_ble_eq_true rfl, Nat.le_of_ble_eq_true rfl⟩ (Nat.le_of_ble_eq_true rfl) dX0_endGreens_34 ⟨Nat.le_of_ble_eq_true rfl, Nat.le_of_ble_eq_true rfl⟩) (fun u H locs hf Z => ?_)
        obtain ⟨a5, la6⟩ := u
        have Z : ig_Z D kk ad bs s H locs a5 la6 b lb lo := Z
        refine lv_iinc (v := x2 + 1) (lv' := [(2, .int (x2 + 1)), (0, .ref (ad 23)), (1, .int x1)]) F.1 F.2.1 dX0_endGreens_37 hl (k := 2) rfl (by rfl) (by decide) rfl (fun ls hl => ?_)
        refine lv_goto (tgt := 2) F.1 F.2.1 dX0_endGreens_40 (by decide) ?_
        exact ih a5 la6 x1 (x2 + 1) _ _ _ hf Z (lv_sub hl [1, 2, 0] rfl)
set_option maxHeartbeats 4000000 in
set_option maxRecDepth 100000 in
theorem k_X0_endGreens (l : Launch) {D : va_G} {kk : Nat → ClassId} {ad : Nat → Nat} {bs : Nat} {a : ig_M} {la : Int64} {b : ig_M} {lb lo : Int64} (x1 : Int32) {post : ig_M → Int64 → Prop} (hf : wp_X0_endGreens a la x1 post) : Met l yX0_endGreens (ig_ws yX0_endGreens cX0_endGreens 3 none) (k2_rm 1 21) (va_Pc [.ref (ad 23), .int x1] (ig_Wd D kk ad bs a la b lb lo)) (va_Qv (fun u : ig_M × Int64 => post u.1 u.2) (fun u t => ig_Wd D kk ad bs u.1 u.2 b lb lo t) (ig_A bs)) 0 0 (ig_A bs) := by
  refine Met.ofW (cc := cX0_endGreens) (maxL := 3) (ret := none) (by decide) rfl ?_
  intro p e s m args below meth c s₁ B hml hv
  obtain ⟨rfl, E, hP⟩ := hv
  have hk := B.notSynchronized
  have hr := B.returns
  have F : CallFix p m c cX0_endGreens 3 s _ ig_all RX0 := ⟨B.exec, B.bytes, hml, findClass_of_methodNamed B.named, fun w hw => atoms_spec B.pre w (List.mem_cons_of_mem _ hw)⟩
  have Z : ig_Z D kk ad bs s s.heap [] a la b lb lo := ig_Z.rf hP
  have hl := lv_entry ([.ref (ad 23), .int x1]) (n := 3) (Nat.le_of_ble_eq_true rfl)
  rw [lg_entry_eq]
  generalize (lg_sl ([.ref (ad 23), .int x1]) ++ List.replicate (3 - (lg_sl ([.ref (ad 23), .int x1])).length) Slot.unset).toArray = ls at hl ⊢
  have hl : lv_has ls 3 [(0, .ref (ad 23)), (1, .int x1)] := hl
  refine lv_iconst (v := 0) F.1 F.2.1 dX0_endGreens_0 (by decide) ?_
  refine lv_istore_n (lv' := [(2, .int 0), (0, .ref (ad 23)), (1, .int x1)]) F.1 F.2.1 dX0_endGreens_1 rfl hl (by decide) rfl (fun ls hl => ?_)
  obtain ⟨n1, hf⟩ := hf
  exact wm_X0_endGreens_2 F E hr hk post n1 a la x1 0 _ _ _ hf Z (lv_sub hl [1, 2, 0] rfl)
set_option maxHeartbeats 4000000 in
set_option maxRecDepth 100000 in
theorem wm_X0_leaveStage_77 (F : CallFix p m c cX0_leaveStage 4 s args ig_all RX0) (E : ig_E D kk ad bs s) (hr : meth.sig.returnType = none) (hk : meth.locks = false) (post : ig_M → Int64 → Prop) :
    ∀ (a : ig_M) (la : Int64) (x2 : Int32) (x3 : Int32) (t0 : Int32) (t1 : Int32) (H : Heap) (locs : List Loc) (ls : Array Slot), wp_X0_leaveStage_77 post a la x2 x3 t0 t1 → ig_Z D kk ad bs s H locs a la b lb lo → lv_has ls 4 [(0, .ref (ad 23)), (2, .int x2), (3, .int x3)] → W p l e (k2_rm 3 65) s m args below meth c H locs 0 0 (MQ below (va_Qv (fun u : ig_M × Int64 => post u.1 u.2) (fun u t => ig_Wd D kk ad bs u.1 u.2 b lb lo t) (ig_A bs)) args s 0 0 (ig_A bs)) (F0 m 77 ls [.int t0, .int t1, .ref (ad 23)]) := by
  intro a la x2 x3 t0 t1 H locs ls hf Z hl
  have hM := k_X0_mayEnd l (D := D) (kk := kk) (ad := ad) (bs := bs) (a := a) (la := la) (b := b) (lb := lb) (lo := lo) t1 t0 hf
  refine ig_calli E Z (ig_runV (As := [.int t1, .int t0]) (rest := []) F E Z hl G_X0_83 hM (i := 23) (by decide) (ig_k_23 _ _ _ _ _ _) rfl rfl md_X0_mayEnd rfl ⟨rfl, rfl⟩ ⟨Nat.le_of_ble_eq_true rfl, Nat.le_of_ble_eq_true rfl⟩ (Nat.le_of_ble_eq_true rfl) dX0_leaveStage_77 ⟨Nat.le_of_ble_eq_true rfl, Nat.le_of_ble_eq_true rfl⟩) (fun r10 u H locs hf Z => ?_)
  refine lv_if_eq (tgt := 98) F.1 F.2.1 dX0_leaveStage_80 (by decide) (fun c_11 => ?_) (fun c_11 => ?_)
  · have hf := hf.1 c_11
    exact W.vret F.1 F.2.1 hr (fun t ht hW => ⟨⟨(a, la), rfl, hf, Z.wd E ht hW⟩, Z.fr ht⟩) Z.2.2.2 dX0_leaveStage_98
  · have hf := hf.2 c_11
    refine lv_aload_n F.1 F.2.1 dX0_leaveStage_83 rfl (lv_at hl 0 rfl) ?_
    refine lv_iload_n F.1 F.2.1 dX0_leaveStage_84 rfl (lv_at hl 2 rfl) ?_
    have hM := k_X0_endGreens l (D := D) (kk := kk) (ad := ad) (bs := bs) (a := a) (la := la) (b := b) (lb := lb) (lo := lo) x3 hf
    refine ig_callv E Z (ig_runV (As := [.int x3]) (rest := []) F E Z hl G_X0_87 hM (i := 23) (by decide) (ig_k_23 _ _ _ _ _ _) rfl rfl md_X0_endGreens rfl ⟨rfl, rfl⟩ ⟨Nat.le_of_ble_eq_true rfl, Nat.le_of_ble_eq_true rfl⟩ (Nat.le_of_ble_eq_true rfl) dX0_leaveStage_85 ⟨Nat.le_of_ble_eq_true rfl, Nat.le_of_ble_eq_true rfl⟩) (fun u H locs hf Z => ?_)
    obtain ⟨a12, la13⟩ := u
    have Z : ig_Z D kk ad bs s H locs a12 la13 b lb lo := Z
    refine lv_aload_n F.1 F.2.1 dX0_leaveStage_88 rfl (lv_at hl 0 rfl) ?_
    refine lv_iconst (v := 1) F.1 F.2.1 dX0_leaveStage_89 (by decide) ?_
    refine pf_X0_9 F E Z dX0_leaveStage_90 (fun H locs a14 ha14 Z => ?_)
    have hf := hf a14 ha14
    refine lv_aload_n F.1 F.2.1 dX0_leaveStage_93 rfl (lv_at hl 0 rfl) ?_
    refine lv_iload_n F.1 F.2.1 dX0_leaveStage_94 rfl (lv_at hl 1 rfl) ?_
    refine pf_X0_15 F E Z dX0_leaveStage_95 (fun H locs a15 ha15 Z => ?_)
    have hf := hf a15 ha15
    exact W.vret F.1 F.2.1 hr (fun t ht hW => ⟨⟨(a15, la13), rfl, hf, Z.wd E ht hW⟩, Z.fr ht⟩) Z.2.2.2 dX0_leaveStage_98
set_option maxHeartbeats 4000000 in
set_option maxRecDepth 100000 in
theorem wm_X0_leaveStage_27 (F : CallFix p m c cX0_leaveStage 4 s args ig_all RX0) (E : ig_E D kk ad bs s) (hr : meth.sig.returnType = none) (hk : meth.locks = false) (post : ig_M → Int64 → Prop) :
    ∀ (a : ig_M) (la : Int64) (x1 : Int32) (t0 : Int32) (H : Heap) (locs : List Loc) (ls : Array Slot), wp_X0_leaveStage_27 post a la x1 t0 → ig_Z D kk ad bs s H locs a la b lb lo → lv_has ls 4 [(0, .ref (ad 23)), (1, .int x1)] → W p l e (k2_rm 3 65) s m args below meth c H locs 0 0 (MQ below (va_Qv (fun u : ig_M × Int64 => post u.1 u.2) (fun u t => ig_Wd D kk ad bs u.1 u.2 b lb lo t) (ig_A bs)) args s 0 0 (ig_A bs)) (F0 m 27 ls [.int t0]) := by
  intro a la x1 t0 H locs ls hf Z hl
  refine lv_istore_n (lv' := [(2, .int t0), (0, .ref (ad 23)), (1, .int x1)]) F.1 F.2.1 dX0_leaveStage_27 rfl hl (by decide) rfl (fun ls hl => ?_)
  refine lv_iload_n F.1 F.2.1 dX0_leaveStage_28 rfl (lv_at hl 0 rfl) ?_
  refine lv_iconst (v := (-1)) F.1 F.2.1 dX0_leaveStage_29 (by decide) ?_
  refine lv_icmp_eq (tgt := 41) F.1 F.2.1 dX0_leaveStage_30 (by decide) (fun c_5 => ?_) (fun c_5 => ?_)
  · have hf := hf.1 c_5
    exact W.vret F.1 F.2.1 hr (fun t ht hW => ⟨⟨(a, la), rfl, hf, Z.wd E ht hW⟩, Z.fr ht⟩) Z.2.2.2 dX0_leaveStage_41
  · have hf := hf.2 c_5
    refine lv_iload_n F.1 F.2.1 dX0_leaveStage_33 rfl (lv_at hl 0 rfl) ?_
    refine lv_aload_n F.1 F.2.1 dX0_leaveStage_34 rfl (lv_at hl 1 rfl) ?_
    refine gf_X0_15 F E Z dX0_leaveStage_35 ?_
    refine lv_icmp_ne (tgt := 42) F.1 F.2.1 dX0_leaveStage_38 (by decide) (fun c_6 => ?_) (fun c_6 => ?_)
    · have hf := hf.1 c_6
      refine lv_aload_n F.1 F.2.1 dX0_leaveStage_42 rfl (lv_at hl 1 rfl) ?_
      refine gf_X0_21 F E Z dX0_leaveStage_43 ?_
      refine lv_aload_n F.1 F.2.1 dX0_leaveStage_46 rfl (lv_at hl 1 rfl) ?_
      refine gf_X0_15 F E Z dX0_leaveStage_47 ?_
      have hM := k_X3_setOf l (D := D) (kk := kk) (ad := ad) (bs := bs) (a := a) (la := la) (b := b) (lb := lb) (lo := lo) (a 23 3) hf
      refine ig_calli E Z (ig_runV (As := [.int (a 23 3)]) (rest := []) F E Z hl G_X0_79 hM (i := 1) (by decide) (ig_k_1 _ _ _ _ _ _) rfl rfl md_X3_setOf rfl ⟨rfl, rfl⟩ ⟨Nat.le_of_ble_eq_true rfl, Nat.le_of_ble_eq_true rfl⟩ (Nat.le_of_ble_eq_true rfl) dX0_leaveStage_50 ⟨Nat.le_of_ble_eq_true rfl, Nat.le_of_ble_eq_true rfl⟩) (fun r7 u H locs hf Z => ?_)
      refine lv_aload_n F.1 F.2.1 dX0_leaveStage_53 rfl (lv_at hl 1 rfl) ?_
      refine gf_X0_21 F E Z dX0_leaveStage_54 ?_
      refine lv_iload_n F.1 F.2.1 dX0_leaveStage_57 rfl (lv_at hl 0 rfl) ?_
      have hM := k_X3_setOf l (D := D) (kk := kk) (ad := ad) (bs := bs) (a := a) (la := la) (b := b) (lb := lb) (lo := lo) t0 hf
      refine ig_calli E Z (ig_runV (As := [.int t0]) (rest := [.int r7]) F E Z hl G_X0_79 hM (i := 1) (by decide) (ig_k_1 _ _ _ _ _ _) rfl rfl md_X3_setOf rfl ⟨rfl, rfl⟩ ⟨Nat.le_of_ble_eq_true rfl, Nat.le_of_ble_eq_true rfl⟩ (Nat.le_of_ble_eq_true rfl) dX0_leaveStage_58 ⟨Nat.le_of_ble_eq_true rfl, Nat.le_of_ble_eq_true rfl⟩) (fun r8 u H locs hf Z => ?_)
      refine lv_iconst (v := (-1)) F.1 F.2.1 dX0_leaveStage_61 (by decide) ?_
      refine lv_ixor F.1 F.2.1 dX0_leaveStage_62 ?_
      refine lv_iand F.1 F.2.1 dX0_leaveStage_63 ?_
      refine lv_istore_n (lv' := [(3, .int (r7 &&& (r8 ^^^ ((-1))))), (2, .int t0), (0, .ref (ad 23)), (1, .int x1)]) F.1 F.2.1 dX0_leaveStage_64 rfl hl (by decide) rfl (fun ls hl => ?_)
      refine lv_aload_n F.1 F.2.1 dX0_leaveStage_65 rfl (lv_at hl 2 rfl) ?_
      refine lv_iload_n F.1 F.2.1 dX0_leaveStage_66 rfl (lv_at hl 0 rfl) ?_
      refine lv_iload_n F.1 F.2.1 dX0_leaveStage_67 rfl (lv_at hl 3 rfl) ?_
      refine lv_iconst (v := (-1)) F.1 F.2.1 dX0_leaveStage_68 (by decide) ?_
      refine lv_icmp_eq (tgt := 76) F.1 F.2.1 dX0_leaveStage_69 (by decide) (fun c_9 => ?_) (fun c_9 => ?_)
      · have hf := hf.1 c_9
        refine lv_iconst (v := 0) F.1 F.2.1 dX0_leaveStage_76 (by decide) ?_
        exact wm_X0_leaveStage_77 F E hr hk post a la t0 (r7 &&& (r8 ^^^ ((-1)))) 0 (r7 &&& (r8 ^^^ ((-1)))) _ _ _ hf Z (lv_sub hl [2, 1, 0] rfl)
      · have hf := hf.2 c_9
        refine lv_iconst (v := 1) F.1 F.2.1 dX0_leaveStage_72 (by decide) ?_
        refine lv_goto (tgt := 77) F.1 F.2.1 dX0_leaveStage_73 (by decide) ?_
        exact wm_X0_leaveStage_77 F E hr hk post a la t0 (r7 &&& (r8 ^^^ ((-1)))) 1 (r7 &&& (r8 ^^^ ((-1)))) _ _ _ hf Z (lv_sub hl [2, 1, 0] rfl)
    · have hf := hf.2 c_6
      exact W.vret F.1 F.2.1 hr (fun t ht hW => ⟨⟨(a, la), rfl, hf, Z.wd E ht hW⟩, Z.fr ht⟩) Z.2.2.2 dX0_leaveStage_41
set_option maxHeartbeats 4000000 in
set_option maxRecDepth 100000 in
theorem k_X0_leaveStage (l : Launch) {D : va_G} {kk : Nat → ClassId} {ad : Nat → Nat} {bs : Nat} {a : ig_M} {la : Int64} {b : ig_M} {lb lo : Int64} {post : ig_M → Int64 → Prop} (hf : wp_X0_leaveStage a la post) : Met l yX0_leaveStage (ig_ws yX0_leaveStage cX0_leaveStage 4 none) (k2_rm 3 65) (va_Pc [.ref (ad 23)] (ig_Wd D kk ad bs a la b lb lo)) (va_Qv (fun u : ig_M × Int64 => post u.1 u.2) (fun u t => ig_Wd D kk ad bs u.1 u.2 b lb lo t) (ig_A bs)) 0 0 (ig_A bs) := by
  refine Met.ofW (cc := cX0_leaveStage) (maxL := 4) (ret := none) (by decide) rfl ?_
  intro p e s m args below meth c s₁ B hml hv
  obtain ⟨rfl, E, hP⟩ := hv
  have hk := B.notSynchronized
  have hr := B.returns
  have F : CallFix p m c cX0_leaveStage 4 s _ ig_all RX0 := ⟨B.exec, B.bytes, hml, findClass_of_methodNamed B.named, fun w hw => atoms_spec B.pre w (List.mem_cons_of_mem _ hw)⟩
  have Z : ig_Z D kk ad bs s s.heap [] a la b lb lo := ig_Z.rf hP
  have hl := lv_entry ([.ref (ad 23)]) (n := 4) (Nat.le_of_ble_eq_true rfl)
  rw [lg_entry_eq]
  generalize (lg_sl ([.ref (ad 23)]) ++ List.replicate (4 - (lg_sl ([.ref (ad 23)])).length) Slot.unset).toArray = ls at hl ⊢
  have hl : lv_has ls 4 [(0, .ref (ad 23))] := hl
  refine lv_aload_n F.1 F.2.1 dX0_leaveStage_0 rfl (lv_at hl 0 rfl) ?_
  refine gf_X0_9 F E Z dX0_leaveStage_1 ?_
  refine lv_iconst (v := 2) F.1 F.2.1 dX0_leaveStage_4 (by decide) ?_
  refine lv_icmp_eq (tgt := 9) F.1 F.2.1 dX0_leaveStage_5 (by decide) (fun c_1 => ?_) (fun c_1 => ?_)
  · have hf := hf.1 c_1
    refine lv_aload_n F.1 F.2.1 dX0_leaveStage_9 rfl (lv_at hl 0 rfl) ?_
    have hM := k_X0_stageForTram l (D := D) (kk := kk) (ad := ad) (bs := bs) (a := a) (la := la) (b := b) (lb := lb) (lo := lo) hf
    refine ig_calli E Z (ig_runV (As := []) (rest := []) F E Z hl G_X0_72 hM (i := 23) (by decide) (ig_k_23 _ _ _ _ _ _) rfl rfl md_X0_stageForTram rfl ⟨rfl, rfl⟩ ⟨Nat.le_of_ble_eq_true rfl, Nat.le_of_ble_eq_true rfl⟩ (Nat.le_of_ble_eq_true rfl) dX0_leaveStage_10 ⟨Nat.le_of_ble_eq_true rfl, Nat.le_of_ble_eq_true rfl⟩) (fun r2 u H locs hf Z => ?_)
    refine lv_istore_n (lv' := [(1, .int r2), (0, .ref (ad 23))]) F.1 F.2.1 dX0_leaveStage_13 rfl hl (by decide) rfl (fun ls hl => ?_)
    refine lv_iload_n F.1 F.2.1 dX0_leaveStage_14 rfl (lv_at hl 0 rfl) ?_
    refine lv_iconst (v := (-1)) F.1 F.2.1 dX0_leaveStage_15 (by decide) ?_
    refine lv_icmp_eq (tgt := 23) F.1 F.2.1 dX0_leaveStage_16 (by decide) (fun c_3 => ?_) (fun c_3 => ?_)
    · have hf := hf.1 c_3
      refine lv_aload_n F.1 F.2.1 dX0_leaveStage_23 rfl (lv_at hl 1 rfl) ?_
      have hM := k_X0_stageOnDemand l (D := D) (kk := kk) (ad := ad) (bs := bs) (a := a) (la := la) (b := b) (lb := lb) (lo := lo) hf
      refine ig_calli E Z (ig_runV (As := []) (rest := []) F E Z hl G_X0_76 hM (i := 23) (by decide) (ig_k_23 _ _ _ _ _ _) rfl rfl md_X0_stageOnDemand rfl ⟨rfl, rfl⟩ ⟨Nat.le_of_ble_eq_true rfl, Nat.le_of_ble_eq_true rfl⟩ (Nat.le_of_ble_eq_true rfl) dX0_leaveStage_24 ⟨Nat.le_of_ble_eq_true rfl, Nat.le_of_ble_eq_true rfl⟩) (fun r4 u H locs hf Z => ?_)
      exact wm_X0_leaveStage_27 F E hr hk post a la r2 r4 _ _ _ hf Z (lv_sub hl [1, 0] rfl)
    · have hf := hf.2 c_3
      refine lv_iload_n F.1 F.2.1 dX0_leaveStage_19 rfl (lv_at hl 0 rfl) ?_
      refine lv_goto (tgt := 27) F.1 F.2.1 dX0_leaveStage_20 (by decide) ?_
      exact wm_X0_leaveStage_27 F E hr hk post a la r2 r2 _ _ _ hf Z (lv_sub hl [1, 0] rfl)
  · have hf := hf.2 c_1
    exact W.vret F.1 F.2.1 hr (fun t ht hW => ⟨⟨(a, la), rfl, hf, Z.wd E ht hW⟩, Z.fr ht⟩) Z.2.2.2 dX0_leaveStage_8
set_option maxHeartbeats 4000000 in
set_option maxRecDepth 100000 in
theorem k_X2_lets (l : Launch) {D : va_G} {kk : Nat → ClassId} {ad : Nat → Nat} {bs : Nat} {a : ig_M} {la : Int64} {b : ig_M} {lb lo : Int64} (k0 : Nat) (x1 : Int32) (x2 : Int32) (hk0 : k0 < 8) {post : Int32 → Prop} (hf : wp_X2_lets a la k0 x1 x2 post) : Met l yX2_lets (ig_ws yX2_lets cX2_lets 3 (some .boolean)) (k2_rm 0 0) (va_Pc [.ref (ad (3 + k0)), .int x1, .int x2] (ig_Wd D kk ad bs a la b lb lo)) (va_Qi (fun (r : Int32) (_ : Unit) => post r) (fun _ t => ig_Wd D kk ad bs a la b lb lo t) (ig_A bs)) 0 0 (ig_A bs) := by
  refine Met.ofW (cc := cX2_lets) (maxL := 3) (ret := (some .boolean)) (by decide) rfl ?_
  intro p e s m args below meth c s₁ B hml hv
  obtain ⟨rfl, E, hP⟩ := hv
  have hk := B.notSynchronized
  have hr := B.returns
  have F : CallFix p m c cX2_lets 3 s _ ig_all RX2 := ⟨B.exec, B.bytes, hml, findClass_of_methodNamed B.named, fun w hw => atoms_spec B.pre w (List.mem_cons_of_mem _ hw)⟩
  have Z : ig_Z D kk ad bs s s.heap [] a la b lb lo := ig_Z.rf hP
  have hl := lv_entry ([.ref (ad (3 + k0)), .int x1, .int x2]) (n := 3) (Nat.le_of_ble_eq_true rfl)
  rw [lg_entry_eq]
  generalize (lg_sl ([.ref (ad (3 + k0)), .int x1, .int x2]) ++ List.replicate (3 - (lg_sl ([.ref (ad (3 + k0)), .int x1, .int x2])).length) Slot.unset).toArray = ls at hl ⊢
  have hl : lv_has ls 3 [(0, .ref (ad (3 + k0))), (1, .int x1), (2, .int x2)] := hl
  refine lv_aload_n F.1 F.2.1 dX2_lets_0 rfl (lv_at hl 0 rfl) ?_
  refine gf_X2_9 F E Z hk0 dX2_lets_1 ?_
  refine lv_iconst (v := 1) F.1 F.2.1 dX2_lets_4 (by decide) ?_
  refine lv_icmp_eq (tgt := 30) F.1 F.2.1 dX2_lets_5 (by decide) (fun c_1 => ?_) (fun c_1 => ?_)
  · have hf := hf.1 c_1
    refine lv_iconst (v := 0) F.1 F.2.1 dX2_lets_30 (by decide) ?_
    exact W.zret (v := 0) F.1 F.2.1 hr (ig_narrow (Or.inl rfl)) (fun t ht hW => ⟨⟨_, (), rfl, hf, Z.wd E ht hW⟩, Z.fr ht⟩) Z.2.2.2 dX2_lets_31
  · have hf := hf.2 c_1
    refine lv_aload_n F.1 F.2.1 dX2_lets_8 rfl (lv_at hl 0 rfl) ?_
    refine gf_X2_15 F E Z hk0 dX2_lets_9 ?_
    refine lv_iconst (v := (-1)) F.1 F.2.1 dX2_lets_12 (by decide) ?_
    refine lv_icmp_eq (tgt := 26) F.1 F.2.1 dX2_lets_13 (by decide) (fun c_2 => ?_) (fun c_2 => ?_)
    · have hf := hf.1 c_2
      refine lv_iconst (v := 1) F.1 F.2.1 dX2_lets_26 (by decide) ?_
      refine lv_goto (tgt := 31) F.1 F.2.1 dX2_lets_27 (by decide) ?_
      exact W.zret (v := 1) F.1 F.2.1 hr (ig_narrow (Or.inr rfl)) (fun t ht hW => ⟨⟨_, (), rfl, hf, Z.wd E ht hW⟩, Z.fr ht⟩) Z.2.2.2 dX2_lets_31
    · have hf := hf.2 c_2
      refine lv_iload_n F.1 F.2.1 dX2_lets_16 rfl (lv_at hl 1 rfl) ?_
      refine lv_aload_n F.1 F.2.1 dX2_lets_17 rfl (lv_at hl 0 rfl) ?_
      refine gf_X2_15 F E Z hk0 dX2_lets_18 ?_
      refine lv_isub F.1 F.2.1 dX2_lets_21 ?_
      refine lv_iload_n F.1 F.2.1 dX2_lets_22 rfl (lv_at hl 2 rfl) ?_
      refine lv_icmp_lt (tgt := 30) F.1 F.2.1 dX2_lets_23 (by decide) (fun c_3 => ?_) (fun c_3 => ?_)
      · have hf := hf.1 c_3
        refine lv_iconst (v := 0) F.1 F.2.1 dX2_lets_30 (by decide) ?_
        exact W.zret (v := 0) F.1 F.2.1 hr (ig_narrow (Or.inl rfl)) (fun t ht hW => ⟨⟨_, (), rfl, hf, Z.wd E ht hW⟩, Z.fr ht⟩) Z.2.2.2 dX2_lets_31
      · have hf := hf.2 c_3
        refine lv_iconst (v := 1) F.1 F.2.1 dX2_lets_26 (by decide) ?_
        refine lv_goto (tgt := 31) F.1 F.2.1 dX2_lets_27 (by decide) ?_
        exact W.zret (v := 1) F.1 F.2.1 hr (ig_narrow (Or.inr rfl)) (fun t ht hW => ⟨⟨_, (), rfl, hf, Z.wd E ht hW⟩, Z.fr ht⟩) Z.2.2.2 dX2_lets_31
set_option maxHeartbeats 4000000 in
set_option maxRecDepth 100000 in
theorem wm_X0_mayBegin_2 (F : CallFix p m c cX0_mayBegin 4 s args ig_all RX0) (E : ig_E D kk ad bs s) (hr : meth.sig.returnType = (some .boolean)) (hk : meth.locks = false) (post : Int32 → Prop) :
    ∀ (n : Nat) (x1 : Int32) (x2 : Int32) (H : Heap) (locs : List Loc) (ls : Array Slot), wp_X0_mayBegin_2 a la post n x1 x2 → ig_Z D kk ad bs s H locs a la b lb lo → lv_has ls 4 [(0, .ref (ad 23)), (1, .int x1), (2, .int x2)] → W p l e (k2_rm 1 22) s m args below meth c H locs 0 0 (MQ below (va_Qi (fun (r : Int32) (_ : Unit) => post r) (fun _ t => ig_Wd D kk ad bs a la b lb lo t) (ig_A bs)) args s 0 0 (ig_A bs)) (F0 m 2 ls []) := by
  intro n
  induction n with
  | zero => intro x1 x2 H locs ls hf Z hl; exact False.elim hf
  | succ n ih =>
    intro x1 x2 H locs ls hf Z hl
    refine lv_iload_n F.1 F.2.1 dX0_mayBegin_2 rfl (lv_at hl 2 rfl) ?_
    refine lv_aload_n F.1 F.2.1 dX0_mayBegin_3 rfl (lv_at hl 0 rfl) ?_
    refine gf_X0_21 F E Z dX0_mayBegin_4 ?_
    refine gf_X0_33 F E Z dX0_mayBegin_7 ?_
    refine lv_icmp_ge (tgt := 57) F.1 F.2.1 dX0_mayBegin_10 (by decide) (fun c_1 => ?_) (fun c_1 => ?_)
    · have hf := hf.1 c_1
      refine lv_iconst (v := 1) F.1 F.2.1 dX0_mayBegin_57 (by decide) ?_
      exact W.zret (v := 1) F.1 F.2.1 hr (ig_narrow (Or.inr rfl)) (fun t ht hW => ⟨⟨_, (), rfl, hf, Z.wd E ht hW⟩, Z.fr ht⟩) Z.2.2.2 dX0_mayBegin_58
    · have hf := hf.2 c_1
      refine lv_aload_n F.1 F.2.1 dX0_mayBegin_13 rfl (lv_at hl 0 rfl) ?_
      refine gf_X0_21 F E Z dX0_mayBegin_14 ?_
      refine gf_X0_116 F E Z dX0_mayBegin_17 ?_
      refine lv_iload_n F.1 F.2.1 dX0_mayBegin_20 rfl (lv_at hl 2 rfl) ?_
      have hv2 := hf.1
      have hf := hf.2
      refine ig_aald (t0 := 4) (n := 8) (b0 := 12) F E Z rfl (Or.inr rfl) (by decide) (ig_k_11 _ _ _ _ _ _) hv2 dX0_mayBegin_21 ?_
      refine lv_iload_n F.1 F.2.1 dX0_mayBegin_22 rfl (lv_at hl 1 rfl) ?_
      have hv3 := hf.1
      have hf := hf.2
      refine ig_iald (f := a (12 + x2.toNatClampNeg)) F E Z (by have := ig_lt hv2; omega) (by rw [ig_mm_a _ _ (by have := ig_lt hv2; omega)]; exact (ig_c_rb _ _ _ _ _ _ (ig_lt hv2))) hv3 dX0_mayBegin_23 ?_
      refine lv_istore_n (lv' := [(3, .int (a (12 + x2.toNatClampNeg) x1.toNatClampNeg)), (0, .ref (ad 23)), (1, .int x1), (2, .int x2)]) F.1 F.2.1 dX0_mayBegin_24 rfl hl (by decide) rfl (fun ls hl => ?_)
      refine lv_iload_n F.1 F.2.1 dX0_mayBegin_25 rfl (lv_at hl 0 rfl) ?_
      refine lv_if_le (tgt := 51) F.1 F.2.1 dX0_mayBegin_26 (by decide) (fun c_4 => ?_) (fun c_4 => ?_)
      · have hf := hf.1 c_4
        refine lv_iinc (v := x2 + 1) (lv' := [(2, .int (x2 + 1)), (3, .int (a (12 + x2.toNatClampNeg) x1.toNatClampNeg)), (0, .ref (ad 23)), (1, .int x1)]) F.1 F.2.1 dX0_mayBegin_51 hl (k := 3) rfl (by rfl) (by decide) rfl (fun ls hl => ?_)
        refine lv_goto (tgt := 2) F.1 F.2.1 dX0_mayBegin_54 (by decide) ?_
        exact ih x1 (x2 + 1) _ _ _ hf Z (lv_sub hl [2, 3, 0] rfl)
      · have hf := hf.2 c_4
        refine lv_aload_n F.1 F.2.1 dX0_mayBegin_29 rfl (lv_at hl 1 rfl) ?_
        refine gf_X0_21 F E Z dX0_mayBegin_30 ?_
        refine gf_X0_38 F E Z dX0_mayBegin_33 ?_
        refine lv_iload_n F.1 F.2.1 dX0_mayBegin_36 rfl (lv_at hl 3 rfl) ?_
        have hv5 := hf.1
        have hf := hf.2
        refine ig_aald (t0 := 3) (n := 8) (b0 := 3) F E Z rfl (Or.inl rfl) (by decide) (ig_k_2 _ _ _ _ _ _) hv5 dX0_mayBegin_37 ?_
        refine lv_aload_n F.1 F.2.1 dX0_mayBegin_38 rfl (lv_at hl 1 rfl) ?_
        refine gf_X0_42 F E Z dX0_mayBegin_39 ?_
        refine lv_iload_n F.1 F.2.1 dX0_mayBegin_42 rfl (lv_at hl 0 rfl) ?_
        have hM := k_X2_lets l (D := D) (kk := kk) (ad := ad) (bs := bs) (a := a) (la := la) (b := b) (lb := lb) (lo := lo) x2.toNatClampNeg (a 23 6) (a (12 + x2.toNatClampNeg) x1.toNatClampNeg) (ig_lt hv5) hf
        refine ig_calli E Z (ig_runV (As := [.int (a 23 6), .int (a (12 + x2.toNatClampNeg) x1.toNatClampNeg)]) (rest := []) F E Z hl G_X0_120 hM (i := 3 + x2.toNatClampNeg) (by have := ig_lt hv5; omega) (ig_c_ph _ _ _ _ _ _ (ig_lt hv5)) rfl rfl md_X2_lets rfl ⟨rfl, rfl⟩ ⟨Nat.le_of_ble_eq_true rfl, Nat.le_of_ble_eq_true rfl⟩ (Nat.le_of_ble_eq_true rfl) dX0_mayBegin_43 ⟨Nat.le_of_ble_eq_true rfl, Nat.le_of_ble_eq_true rfl⟩) (fun r6 u H locs hf Z => ?_)
        refine lv_if_ne (tgt := 51) F.1 F.2.1 dX0_mayBegin_46 (by decide) (fun c_7 => ?_) (fun c_7 => ?_)
        · have hf := hf.1 c_7
          refine lv_iinc (v := x2 + 1) (lv' := [(2, .int (x2 + 1)), (3, .int (a (12 + x2.toNatClampNeg) x1.toNatClampNeg)), (0, .ref (ad 23)), (1, .int x1)]) F.1 F.2.1 dX0_mayBegin_51 hl (k := 3) rfl (by rfl) (by decide) rfl (fun ls hl => ?_)
          refine lv_goto (tgt := 2) F.1 F.2.1 dX0_mayBegin_54 (by decide) ?_
          exact ih x1 (x2 + 1) _ _ _ hf Z (lv_sub hl [2, 3, 0] rfl)
        · have hf := hf.2 c_7
          refine lv_iconst (v := 0) F.1 F.2.1 dX0_mayBegin_49 (by decide) ?_
          exact W.zret (v := 0) F.1 F.2.1 hr (ig_narrow (Or.inl rfl)) (fun t ht hW => ⟨⟨_, (), rfl, hf, Z.wd E ht hW⟩, Z.fr ht⟩) Z.2.2.2 dX0_mayBegin_50
set_option maxHeartbeats 4000000 in
set_option maxRecDepth 100000 in
theorem k_X0_mayBegin (l : Launch) {D : va_G} {kk : Nat → ClassId} {ad : Nat → Nat} {bs : Nat} {a : ig_M} {la : Int64} {b : ig_M} {lb lo : Int64} (x1 : Int32) {post : Int32 → Prop} (hf : wp_X0_mayBegin a la x1 post) : Met l yX0_mayBegin (ig_ws yX0_mayBegin cX0_mayBegin 4 (some .boolean)) (k2_rm 1 22) (va_Pc [.ref (ad 23), .int x1] (ig_Wd D kk ad bs a la b lb lo)) (va_Qi (fun (r : Int32) (_ : Unit) => post r) (fun _ t => ig_Wd D kk ad bs a la b lb lo t) (ig_A bs)) 0 0 (ig_A bs) := by
  refine Met.ofW (cc := cX0_mayBegin) (maxL := 4) (ret := (some .boolean)) (by decide) rfl ?_
  intro p e s m args below meth c s₁ B hml hv
  obtain ⟨rfl, E, hP⟩ := hv
  have hk := B.notSynchronized
  have hr := B.returns
  have F : CallFix p m c cX0_mayBegin 4 s _ ig_all RX0 := ⟨B.exec, B.bytes, hml, findClass_of_methodNamed B.named, fun w hw => atoms_spec B.pre w (List.mem_cons_of_mem _ hw)⟩
  have Z : ig_Z D kk ad bs s s.heap [] a la b lb lo := ig_Z.rf hP
  have hl := lv_entry ([.ref (ad 23), .int x1]) (n := 4) (Nat.le_of_ble_eq_true rfl)
  rw [lg_entry_eq]
  generalize (lg_sl ([.ref (ad 23), .int x1]) ++ List.replicate (4 - (lg_sl ([.ref (ad 23), .int x1])).length) Slot.unset).toArray = ls at hl ⊢
  have hl : lv_has ls 4 [(0, .ref (ad 23)), (1, .int x1)] := hl
  refine lv_iconst (v := 0) F.1 F.2.1 dX0_mayBegin_0 (by decide) ?_
  refine lv_istore_n (lv' := [(2, .int 0), (0, .ref (ad 23)), (1, .int x1)]) F.1 F.2.1 dX0_mayBegin_1 rfl hl (by decide) rfl (fun ls hl => ?_)
  obtain ⟨n1, hf⟩ := hf
  exact wm_X0_mayBegin_2 F E hr hk post n1 x1 0 _ _ _ hf Z (lv_sub hl [1, 2, 0] rfl)
set_option maxHeartbeats 4000000 in
set_option maxRecDepth 100000 in
theorem k_X2_turnGreen (l : Launch) {D : va_G} {kk : Nat → ClassId} {ad : Nat → Nat} {bs : Nat} {a : ig_M} {la : Int64} {b : ig_M} {lb lo : Int64} (k0 : Nat) (hk0 : k0 < 8) {post : ig_M → Int64 → Prop} (hf : wp_X2_turnGreen a la k0 post) : Met l yX2_turnGreen (ig_ws yX2_turnGreen cX2_turnGreen 1 none) (k2_rm 0 0) (va_Pc [.ref (ad (3 + k0))] (ig_Wd D kk ad bs a la b lb lo)) (va_Qv (fun u : ig_M × Int64 => post u.1 u.2) (fun u t => ig_Wd D kk ad bs u.1 u.2 b lb lo t) (ig_A bs)) 0 0 (ig_A bs) := by
  refine Met.ofW (cc := cX2_turnGreen) (maxL := 1) (ret := none) (by decide) rfl ?_
  intro p e s m args below meth c s₁ B hml hv
  obtain ⟨rfl, E, hP⟩ := hv
  have hk := B.notSynchronized
  have hr := B.returns
  have F : CallFix p m c cX2_turnGreen 1 s _ ig_all RX2 := ⟨B.exec, B.bytes, hml, findClass_of_methodNamed B.named, fun w hw => atoms_spec B.pre w (List.mem_cons_of_mem _ hw)⟩
  have Z : ig_Z D kk ad bs s s.heap [] a la b lb lo := ig_Z.rf hP
  have hl := lv_entry ([.ref (ad (3 + k0))]) (n := 1) (Nat.le_of_ble_eq_true rfl)
  rw [lg_entry_eq]
  generalize (lg_sl ([.ref (ad (3 + k0))]) ++ List.replicate (1 - (lg_sl ([.ref (ad (3 + k0))])).length) Slot.unset).toArray = ls at hl ⊢
  have hl : lv_has ls 1 [(0, .ref (ad (3 + k0)))] := hl
  refine lv_aload_n F.1 F.2.1 dX2_turnGreen_0 rfl (lv_at hl 0 rfl) ?_
  refine lv_iconst (v := 1) F.1 F.2.1 dX2_turnGreen_1 (by decide) ?_
  refine pf_X2_9 F E Z hk0 dX2_turnGreen_2 (fun H locs a1 ha1 Z => ?_)
  have hf := hf a1 ha1
  refine lv_aload_n F.1 F.2.1 dX2_turnGreen_5 rfl (lv_at hl 0 rfl) ?_
  refine lv_iconst (v := 0) F.1 F.2.1 dX2_turnGreen_6 (by decide) ?_
  refine pf_X2_32 F E Z hk0 dX2_turnGreen_7 (fun H locs a2 ha2 Z => ?_)
  have hf := hf a2 ha2
  refine lv_aload_n F.1 F.2.1 dX2_turnGreen_10 rfl (lv_at hl 0 rfl) ?_
  refine lv_aload_n F.1 F.2.1 dX2_turnGreen_11 rfl (lv_at hl 0 rfl) ?_
  refine gf_X2_44 F E Z hk0 dX2_turnGreen_12 ?_
  refine pf_X2_38 F E Z hk0 dX2_turnGreen_15 (fun H locs a3 ha3 Z => ?_)
  have hf := hf a3 ha3
  refine lv_aload_n F.1 F.2.1 dX2_turnGreen_18 rfl (lv_at hl 0 rfl) ?_
  refine lv_iconst (v := 0) F.1 F.2.1 dX2_turnGreen_19 (by decide) ?_
  refine pf_X2_47 F E Z hk0 dX2_turnGreen_20 (fun H locs a4 ha4 Z => ?_)
  have hf := hf a4 ha4
  refine lv_aload_n F.1 F.2.1 dX2_turnGreen_23 rfl (lv_at hl 0 rfl) ?_
  refine lv_iconst (v := 0) F.1 F.2.1 dX2_turnGreen_24 (by decide) ?_
  refine pf_X2_18 F E Z hk0 (Or.inl rfl) dX2_turnGreen_25 (fun H locs a5 ha5 Z => ?_)
  have hf := hf a5 ha5
  exact W.vret F.1 F.2.1 hr (fun t ht hW => ⟨⟨(a5, la), rfl, hf, Z.wd E ht hW⟩, Z.fr ht⟩) Z.2.2.2 dX2_turnGreen_28
set_option maxHeartbeats 4000000 in
set_option maxRecDepth 100000 in
theorem wm_X0_enterStage_25 (F : CallFix p m c cX0_enterStage 5 s args ig_all RX0) (E : ig_E D kk ad bs s) (hr : meth.sig.returnType = none) (hk : meth.locks = false) (post : ig_M → Int64 → Prop) :
    ∀ (n : Nat) (a : ig_M) (la : Int64) (x1 : Int32) (x2 : Int32) (x3 : Int32) (H : Heap) (locs : List Loc) (ls : Array Slot), wp_X0_enterStage_25 post n a la x1 x2 x3 → ig_Z D kk ad bs s H locs a la b lb lo → lv_has ls 5 [(0, .ref (ad 23)), (1, .int x1), (2, .int x2), (3, .int x3)] → W p l e (k2_rm 2 45) s m args below meth c H locs 0 0 (MQ below (va_Qv (fun u : ig_M × Int64 => post u.1 u.2) (fun u t => ig_Wd D kk ad bs u.1 u.2 b lb lo t) (ig_A bs)) args s 0 0 (ig_A bs)) (F0 m 25 ls []) := by
  intro n
  induction n with
  | zero => intro a la x1 x2 x3 H locs ls hf Z hl; exact False.elim hf
  | succ n ih =>
    intro a la x1 x2 x3 H locs ls hf Z hl
    refine lv_iload_n F.1 F.2.1 dX0_enterStage_25 rfl (lv_at hl 3 rfl) ?_
    refine lv_aload_n F.1 F.2.1 dX0_enterStage_26 rfl (lv_at hl 0 rfl) ?_
    refine gf_X0_21 F E Z dX0_enterStage_27 ?_
    refine gf_X0_33 F E Z dX0_enterStage_30 ?_
    refine lv_icmp_ge (tgt := 91) F.1 F.2.1 dX0_enterStage_33 (by decide) (fun c_3 => ?_) (fun c_3 => ?_)
    · have hf := hf.1 c_3
      refine lv_iload_n F.1 F.2.1 dX0_enterStage_91 rfl (lv_at hl 2 rfl) ?_
      refine lv_if_eq (tgt := 100) F.1 F.2.1 dX0_enterStage_92 (by decide) (fun c_4 => ?_) (fun c_4 => ?_)
      · have hf := hf.1 c_4
        exact W.vret F.1 F.2.1 hr (fun t ht hW => ⟨⟨(a, la), rfl, hf, Z.wd E ht hW⟩, Z.fr ht⟩) Z.2.2.2 dX0_enterStage_100
      · have hf := hf.2 c_4
        refine lv_aload_n F.1 F.2.1 dX0_enterStage_95 rfl (lv_at hl 0 rfl) ?_
        refine lv_iconst (v := 2) F.1 F.2.1 dX0_enterStage_96 (by decide) ?_
        refine pf_X0_9 F E Z dX0_enterStage_97 (fun H locs a5 ha5 Z => ?_)
        have hf := hf a5 ha5
        exact W.vret F.1 F.2.1 hr (fun t ht hW => ⟨⟨(a5, la), rfl, hf, Z.wd E ht hW⟩, Z.fr ht⟩) Z.2.2.2 dX0_enterStage_100
    · have hf := hf.2 c_3
      refine lv_aload_n F.1 F.2.1 dX0_enterStage_36 rfl (lv_at hl 0 rfl) ?_
      refine gf_X0_21 F E Z dX0_enterStage_37 ?_
      refine gf_X0_38 F E Z dX0_enterStage_40 ?_
      refine lv_iload_n F.1 F.2.1 dX0_enterStage_43 rfl (lv_at hl 3 rfl) ?_
      have hv6 := hf.1
      have hf := hf.2
      refine ig_aald (t0 := 3) (n := 8) (b0 := 3) F E Z rfl (Or.inl rfl) (by decide) (ig_k_2 _ _ _ _ _ _) hv6 dX0_enterStage_44 ?_
      refine lv_astore (lv' := [(4, .ref (ad (3 + x3.toNatClampNeg))), (0, .ref (ad 23)), (1, .int x1), (2, .int x2), (3, .int x3)]) F.1 F.2.1 dX0_enterStage_45 hl (by decide) rfl (fun ls hl => ?_)
      refine lv_iload_n F.1 F.2.1 dX0_enterStage_47 rfl (lv_at hl 2 rfl) ?_
      refine lv_iload_n F.1 F.2.1 dX0_enterStage_48 rfl (lv_at hl 4 rfl) ?_
      have hM := k_X5_has l (D := D) (kk := kk) (ad := ad) (bs := bs) (a := a) (la := la) (b := b) (lb := lb) (lo := lo) x1 x3 hf
      refine ig_calli E Z (ig_runSN (As := [.int x1, .int x3]) (rest := []) F E Z hl (host := "Intergreen") (by decide +kernel) G_X0_90 G_X0_90_i G_X0_90_s hM md_X5_has rfl ⟨rfl, rfl⟩ ⟨Nat.le_of_ble_eq_true rfl, Nat.le_of_ble_eq_true rfl⟩ (Nat.le_of_ble_eq_true rfl) dX0_enterStage_49 ⟨Nat.le_of_ble_eq_true rfl, Nat.le_of_ble_eq_true rfl⟩) (fun r7 u H locs hf Z => ?_)
      refine lv_if_eq (tgt := 85) F.1 F.2.1 dX0_enterStage_52 (by decide) (fun c_8 => ?_) (fun c_8 => ?_)
      · have hf := hf.1 c_8
        refine lv_iinc (v := x3 + 1) (lv' := [(3, .int (x3 + 1)), (4, .ref (ad (3 + x3.toNatClampNeg))), (0, .ref (ad 23)), (1, .int x1), (2, .int x2)]) F.1 F.2.1 dX0_enterStage_85 hl (k := 4) rfl (by rfl) (by decide) rfl (fun ls hl => ?_)
        refine lv_goto (tgt := 25) F.1 F.2.1 dX0_enterStage_88 (by decide) ?_
        exact ih a la x1 x2 (x3 + 1) _ _ _ hf Z (lv_sub hl [2, 3, 4, 0] rfl)
      · have hf := hf.2 c_8
        refine lv_aload F.1 F.2.1 dX0_enterStage_55 (lv_at hl 0 rfl) ?_
        refine gf_X0_106 F E Z (ig_lt hv6) dX0_enterStage_57 ?_
        refine lv_iconst (v := 1) F.1 F.2.1 dX0_enterStage_60 (by decide) ?_
        refine lv_icmp_ne (tgt := 67) F.1 F.2.1 dX0_enterStage_61 (by decide) (fun c_9 => ?_) (fun c_9 => ?_)
        · have hf := hf.1 c_9
          refine lv_aload_n F.1 F.2.1 dX0_enterStage_67 rfl (lv_at hl 1 rfl) ?_
          refine lv_iload_n F.1 F.2.1 dX0_enterStage_68 rfl (lv_at hl 4 rfl) ?_
          have hM := k_X0_mayBegin l (D := D) (kk := kk) (ad := ad) (bs := bs) (a := a) (la := la) (b := b) (lb := lb) (lo := lo) x3 hf
          refine ig_calli E Z (ig_runV (As := [.int x3]) (rest := []) F E Z hl G_X0_109 hM (i := 23) (by decide) (ig_k_23 _ _ _ _ _ _) rfl rfl md_X0_mayBegin rfl ⟨rfl, rfl⟩ ⟨Nat.le_of_ble_eq_true rfl, Nat.le_of_ble_eq_true rfl⟩ (Nat.le_of_ble_eq_true rfl) dX0_enterStage_69 ⟨Nat.le_of_ble_eq_true rfl, Nat.le_of_ble_eq_true rfl⟩) (fun r10 u H locs hf Z => ?_)
          refine lv_if_eq (tgt := 83) F.1 F.2.1 dX0_enterStage_72 (by decide) (fun c_11 => ?_) (fun c_11 => ?_)
          · have hf := hf.1 c_11
            refine lv_iconst (v := 0) F.1 F.2.1 dX0_enterStage_83 (by decide) ?_
            refine lv_istore_n (lv' := [(2, .int 0), (4, .ref (ad (3 + x3.toNatClampNeg))), (0, .ref (ad 23)), (1, .int x1), (3, .int x3)]) F.1 F.2.1 dX0_enterStage_84 rfl hl (by decide) rfl (fun ls hl => ?_)
            refine lv_iinc (v := x3 + 1) (lv' := [(3, .int (x3 + 1)), (2, .int 0), (4, .ref (ad (3 + x3.toNatClampNeg))), (0, .ref (ad 23)), (1, .int x1)]) F.1 F.2.1 dX0_enterStage_85 hl (k := 4) rfl (by rfl) (by decide) rfl (fun ls hl => ?_)
            refine lv_goto (tgt := 25) F.1 F.2.1 dX0_enterStage_88 (by decide) ?_
            exact ih a la x1 0 (x3 + 1) _ _ _ hf Z (lv_sub hl [3, 4, 1, 0] rfl)
          · have hf := hf.2 c_11
            refine lv_aload F.1 F.2.1 dX0_enterStage_75 (lv_at hl 0 rfl) ?_
            have hM := k_X2_turnGreen l (D := D) (kk := kk) (ad := ad) (bs := bs) (a := a) (la := la) (b := b) (lb := lb) (lo := lo) x3.toNatClampNeg (ig_lt hv6) hf
            refine ig_callv E Z (ig_runV (As := []) (rest := []) F E Z hl G_X0_113 hM (i := 3 + x3.toNatClampNeg) (by have := ig_lt hv6; omega) (ig_c_ph _ _ _ _ _ _ (ig_lt hv6)) rfl rfl md_X2_turnGreen rfl ⟨rfl, rfl⟩ ⟨Nat.le_of_ble_eq_true rfl, Nat.le_of_ble_eq_true rfl⟩ (Nat.le_of_ble_eq_true rfl) dX0_enterStage_77 ⟨Nat.le_of_ble_eq_true rfl, Nat.le_of_ble_eq_true rfl⟩) (fun u H locs hf Z => ?_)
            obtain ⟨a12, la13⟩ := u
            have Z : ig_Z D kk ad bs s H locs a12 la13 b lb lo := Z
            refine lv_goto (tgt := 85) F.1 F.2.1 dX0_enterStage_80 (by decide) ?_
            refine lv_iinc (v := x3 + 1) (lv' := [(3, .int (x3 + 1)), (4, .ref (ad (3 + x3.toNatClampNeg))), (0, .ref (ad 23)), (1, .int x1), (2, .int x2)]) F.1 F.2.1 dX0_enterStage_85 hl (k := 4) rfl (by rfl) (by decide) rfl (fun ls hl => ?_)
            refine lv_goto (tgt := 25) F.1 F.2.1 dX0_enterStage_88 (by decide) ?_
            exact ih a12 la13 x1 x2 (x3 + 1) _ _ _ hf Z (lv_sub hl [2, 3, 4, 0] rfl)
        · have hf := hf.2 c_9
          refine lv_goto (tgt := 85) F.1 F.2.1 dX0_enterStage_64 (by decide) ?_
          refine lv_iinc (v := x3 + 1) (lv' := [(3, .int (x3 + 1)), (4, .ref (ad (3 + x3.toNatClampNeg))), (0, .ref (ad 23)), (1, .int x1), (2, .int x2)]) F.1 F.2.1 dX0_enterStage_85 hl (k := 4) rfl (by rfl) (by decide) rfl (fun ls hl => ?_)
          refine lv_goto (tgt := 25) F.1 F.2.1 dX0_enterStage_88 (by decide) ?_
          exact ih a la x1 x2 (x3 + 1) _ _ _ hf Z (lv_sub hl [2, 3, 4, 0] rfl)
set_option maxHeartbeats 4000000 in
set_option maxRecDepth 100000 in
theorem k_X0_enterStage (l : Launch) {D : va_G} {kk : Nat → ClassId} {ad : Nat → Nat} {bs : Nat} {a : ig_M} {la : Int64} {b : ig_M} {lb lo : Int64} {post : ig_M → Int64 → Prop} (hf : wp_X0_enterStage a la post) : Met l yX0_enterStage (ig_ws yX0_enterStage cX0_enterStage 5 none) (k2_rm 2 45) (va_Pc [.ref (ad 23)] (ig_Wd D kk ad bs a la b lb lo)) (va_Qv (fun u : ig_M × Int64 => post u.1 u.2) (fun u t => ig_Wd D kk ad bs u.1 u.2 b lb lo t) (ig_A bs)) 0 0 (ig_A bs) := by
  refine Met.ofW (cc := cX0_enterStage) (maxL := 5) (ret := none) (by decide) rfl ?_
  intro p e s m args below meth c s₁ B hml hv
  obtain ⟨rfl, E, hP⟩ := hv
  have hk := B.notSynchronized
  have hr := B.returns
  have F : CallFix p m c cX0_enterStage 5 s _ ig_all RX0 := ⟨B.exec, B.bytes, hml, findClass_of_methodNamed B.named, fun w hw => atoms_spec B.pre w (List.mem_cons_of_mem _ hw)⟩
  have Z : ig_Z D kk ad bs s s.heap [] a la b lb lo := ig_Z.rf hP
  have hl := lv_entry ([.ref (ad 23)]) (n := 5) (Nat.le_of_ble_eq_true rfl)
  rw [lg_entry_eq]
  generalize (lg_sl ([.ref (ad 23)]) ++ List.replicate (5 - (lg_sl ([.ref (ad 23)])).length) Slot.unset).toArray = ls at hl ⊢
  have hl : lv_has ls 5 [(0, .ref (ad 23))] := hl
  refine lv_aload_n F.1 F.2.1 dX0_enterStage_0 rfl (lv_at hl 0 rfl) ?_
  refine gf_X0_9 F E Z dX0_enterStage_1 ?_
  refine lv_iconst (v := 1) F.1 F.2.1 dX0_enterStage_4 (by decide) ?_
  refine lv_icmp_eq (tgt := 9) F.1 F.2.1 dX0_enterStage_5 (by decide) (fun c_1 => ?_) (fun c_1 => ?_)
  · have hf := hf.1 c_1
    refine lv_aload_n F.1 F.2.1 dX0_enterStage_9 rfl (lv_at hl 0 rfl) ?_
    refine gf_X0_21 F E Z dX0_enterStage_10 ?_
    refine lv_aload_n F.1 F.2.1 dX0_enterStage_13 rfl (lv_at hl 0 rfl) ?_
    refine gf_X0_15 F E Z dX0_enterStage_14 ?_
    have hM := k_X3_setOf l (D := D) (kk := kk) (ad := ad) (bs := bs) (a := a) (la := la) (b := b) (lb := lb) (lo := lo) (a 23 3) hf
    refine ig_calli E Z (ig_runV (As := [.int (a 23 3)]) (rest := []) F E Z hl G_X0_79 hM (i := 1) (by decide) (ig_k_1 _ _ _ _ _ _) rfl rfl md_X3_setOf rfl ⟨rfl, rfl⟩ ⟨Nat.le_of_ble_eq_true rfl, Nat.le_of_ble_eq_true rfl⟩ (Nat.le_of_ble_eq_true rfl) dX0_enterStage_17 ⟨Nat.le_of_ble_eq_true rfl, Nat.le_of_ble_eq_true rfl⟩) (fun r2 u H locs hf Z => ?_)
    refine lv_istore_n (lv' := [(1, .int r2), (0, .ref (ad 23))]) F.1 F.2.1 dX0_enterStage_20 rfl hl (by decide) rfl (fun ls hl => ?_)
    refine lv_iconst (v := 1) F.1 F.2.1 dX0_enterStage_21 (by decide) ?_
    refine lv_istore_n (lv' := [(2, .int 1), (1, .int r2), (0, .ref (ad 23))]) F.1 F.2.1 dX0_enterStage_22 rfl hl (by decide) rfl (fun ls hl => ?_)
    refine lv_iconst (v := 0) F.1 F.2.1 dX0_enterStage_23 (by decide) ?_
    refine lv_istore_n (lv' := [(3, .int 0), (2, .int 1), (1, .int r2), (0, .ref (ad 23))]) F.1 F.2.1 dX0_enterStage_24 rfl hl (by decide) rfl (fun ls hl => ?_)
    obtain ⟨n1, hf⟩ := hf
    exact wm_X0_enterStage_25 F E hr hk post n1 a la r2 1 0 _ _ _ hf Z (lv_sub hl [3, 2, 1, 0] rfl)
  · have hf := hf.2 c_1
    exact W.vret F.1 F.2.1 hr (fun t ht hW => ⟨⟨(a, la), rfl, hf, Z.wd E ht hW⟩, Z.fr ht⟩) Z.2.2.2 dX0_enterStage_8
set_option maxHeartbeats 4000000 in
set_option maxRecDepth 100000 in
theorem k_X2_fade (l : Launch) {D : va_G} {kk : Nat → ClassId} {ad : Nat → Nat} {bs : Nat} {a : ig_M} {la : Int64} {b : ig_M} {lb lo : Int64} (k0 : Nat) (x1 : Int32) (hk0 : k0 < 8) {post : ig_M → Int64 → Prop} (hf : wp_X2_fade a la k0 x1 post) : Met l yX2_fade (ig_ws yX2_fade cX2_fade 2 none) (k2_rm 0 0) (va_Pc [.ref (ad (3 + k0)), .int x1] (ig_Wd D kk ad bs a la b lb lo)) (va_Qv (fun u : ig_M × Int64 => post u.1 u.2) (fun u t => ig_Wd D kk ad bs u.1 u.2 b lb lo t) (ig_A bs)) 0 0 (ig_A bs) := by
  refine Met.ofW (cc := cX2_fade) (maxL := 2) (ret := none) (by decide) rfl ?_
  intro p e s m args below meth c s₁ B hml hv
  obtain ⟨rfl, E, hP⟩ := hv
  have hk := B.notSynchronized
  have hr := B.returns
  have F : CallFix p m c cX2_fade 2 s _ ig_all RX2 := ⟨B.exec, B.bytes, hml, findClass_of_methodNamed B.named, fun w hw => atoms_spec B.pre w (List.mem_cons_of_mem _ hw)⟩
  have Z : ig_Z D kk ad bs s s.heap [] a la b lb lo := ig_Z.rf hP
  have hl := lv_entry ([.ref (ad (3 + k0)), .int x1]) (n := 2) (Nat.le_of_ble_eq_true rfl)
  rw [lg_entry_eq]
  generalize (lg_sl ([.ref (ad (3 + k0)), .int x1]) ++ List.replicate (2 - (lg_sl ([.ref (ad (3 + k0)), .int x1])).length) Slot.unset).toArray = ls at hl ⊢
  have hl : lv_has ls 2 [(0, .ref (ad (3 + k0))), (1, .int x1)] := hl
  refine lv_aload_n F.1 F.2.1 dX2_fade_0 rfl (lv_at hl 0 rfl) ?_
  refine gf_X2_9 F E Z hk0 dX2_fade_1 ?_
  refine lv_iconst (v := 2) F.1 F.2.1 dX2_fade_4 (by decide) ?_
  refine lv_icmp_ne (tgt := 23) F.1 F.2.1 dX2_fade_5 (by decide) (fun c_1 => ?_) (fun c_1 => ?_)
  · have hf := hf.1 c_1
    exact W.vret F.1 F.2.1 hr (fun t ht hW => ⟨⟨(a, la), rfl, hf, Z.wd E ht hW⟩, Z.fr ht⟩) Z.2.2.2 dX2_fade_23
  · have hf := hf.2 c_1
    refine lv_iload_n F.1 F.2.1 dX2_fade_8 rfl (lv_at hl 1 rfl) ?_
    refine lv_aload_n F.1 F.2.1 dX2_fade_9 rfl (lv_at hl 0 rfl) ?_
    refine gf_X2_15 F E Z hk0 dX2_fade_10 ?_
    refine lv_isub F.1 F.2.1 dX2_fade_13 ?_
    refine lv_iconst (v := 3) F.1 F.2.1 dX2_fade_14 (by decide) ?_
    refine lv_icmp_lt (tgt := 23) F.1 F.2.1 dX2_fade_15 (by decide) (fun c_2 => ?_) (fun c_2 => ?_)
    · have hf := hf.1 c_2
      exact W.vret F.1 F.2.1 hr (fun t ht hW => ⟨⟨(a, la), rfl, hf, Z.wd E ht hW⟩, Z.fr ht⟩) Z.2.2.2 dX2_fade_23
    · have hf := hf.2 c_2
      refine lv_aload_n F.1 F.2.1 dX2_fade_18 rfl (lv_at hl 0 rfl) ?_
      refine lv_iconst (v := 0) F.1 F.2.1 dX2_fade_19 (by decide) ?_
      refine pf_X2_9 F E Z hk0 dX2_fade_20 (fun H locs a3 ha3 Z => ?_)
      have hf := hf a3 ha3
      exact W.vret F.1 F.2.1 hr (fun t ht hW => ⟨⟨(a3, la), rfl, hf, Z.wd E ht hW⟩, Z.fr ht⟩) Z.2.2.2 dX2_fade_23
set_option maxHeartbeats 4000000 in
set_option maxRecDepth 100000 in
theorem wm_X0_fadeAmbers_2 (F : CallFix p m c cX0_fadeAmbers 2 s args ig_all RX0) (E : ig_E D kk ad bs s) (hr : meth.sig.returnType = none) (hk : meth.locks = false) (post : ig_M → Int64 → Prop) :
    ∀ (n : Nat) (a : ig_M) (la : Int64) (x1 : Int32) (H : Heap) (locs : List Loc) (ls : Array Slot), wp_X0_fadeAmbers_2 post n a la x1 → ig_Z D kk ad bs s H locs a la b lb lo → lv_has ls 2 [(0, .ref (ad 23)), (1, .int x1)] → W p l e (k2_rm 1 21) s m args below meth c H locs 0 0 (MQ below (va_Qv (fun u : ig_M × Int64 => post u.1 u.2) (fun u t => ig_Wd D kk ad bs u.1 u.2 b lb lo t) (ig_A bs)) args s 0 0 (ig_A bs)) (F0 m 2 ls []) := by
  intro n
  induction n with
  | zero => intro a la x1 H locs ls hf Z hl; exact False.elim hf
  | succ n ih =>
    intro a la x1 H locs ls hf Z hl
    refine lv_iload_n F.1 F.2.1 dX0_fadeAmbers_2 rfl (lv_at hl 1 rfl) ?_
    refine lv_aload_n F.1 F.2.1 dX0_fadeAmbers_3 rfl (lv_at hl 0 rfl) ?_
    refine gf_X0_21 F E Z dX0_fadeAmbers_4 ?_
    refine gf_X0_33 F E Z dX0_fadeAmbers_7 ?_
    refine lv_icmp_ge (tgt := 35) F.1 F.2.1 dX0_fadeAmbers_10 (by decide) (fun c_1 => ?_) (fun c_1 => ?_)
    · have hf := hf.1 c_1
      exact W.vret F.1 F.2.1 hr (fun t ht hW => ⟨⟨(a, la), rfl, hf, Z.wd E ht hW⟩, Z.fr ht⟩) Z.2.2.2 dX0_fadeAmbers_35
    · have hf := hf.2 c_1
      refine lv_aload_n F.1 F.2.1 dX0_fadeAmbers_13 rfl (lv_at hl 0 rfl) ?_
      refine gf_X0_21 F E Z dX0_fadeAmbers_14 ?_
      refine gf_X0_38 F E Z dX0_fadeAmbers_17 ?_
      refine lv_iload_n F.1 F.2.1 dX0_fadeAmbers_20 rfl (lv_at hl 1 rfl) ?_
      have hv2 := hf.1
      have hf := hf.2
      refine ig_aald (t0 := 3) (n := 8) (b0 := 3) F E Z rfl (Or.inl rfl) (by decide) (ig_k_2 _ _ _ _ _ _) hv2 dX0_fadeAmbers_21 ?_
      refine lv_aload_n F.1 F.2.1 dX0_fadeAmbers_22 rfl (lv_at hl 0 rfl) ?_
      refine gf_X0_42 F E Z dX0_fadeAmbers_23 ?_
      have hM := k_X2_fade l (D := D) (kk := kk) (ad := ad) (bs := bs) (a := a) (la := la) (b := b) (lb := lb) (lo := lo) x1.toNatClampNeg (a 23 6) (ig_lt hv2) hf
      refine ig_callv E Z (ig_runV (As := [.int (a 23 6)]) (rest := []) F E Z hl G_X0_123 hM (i := 3 + x1.toNatClampNeg) (by have := ig_lt hv2; omega) (ig_c_ph _ _ _ _ _ _ (ig_lt hv2)) rfl rfl md_X2_fade rfl ⟨rfl, rfl⟩ ⟨Nat.le_of_ble_eq_true rfl, Nat.le_of_ble_eq_true rfl⟩ (Nat.le_of_ble_eq_true rfl) dX0_fadeAmbers_26 ⟨Nat.le_of_ble_eq_true rfl, Nat.le_of_ble_eq_true rfl⟩) (fun u H locs hf Z => ?_)
      obtain ⟨a3, la4⟩ := u
      have Z : ig_Z D kk ad bs s H locs a3 la4 b lb lo := Z
      refine lv_iinc (v := x1 + 1) (lv' := [(1, .int (x1 + 1)), (0, .ref (ad 23))]) F.1 F.2.1 dX0_fadeAmbers_29 hl (k := 1) rfl (by rfl) (by decide) rfl (fun ls hl => ?_)
      refine lv_goto (tgt := 2) F.1 F.2.1 dX0_fadeAmbers_32 (by decide) ?_
      exact ih a3 la4 (x1 + 1) _ _ _ hf Z (lv_sub hl [1, 0] rfl)
set_option maxHeartbeats 4000000 in
set_option maxRecDepth 100000 in
theorem k_X0_fadeAmbers (l : Launch) {D : va_G} {kk : Nat → ClassId} {ad : Nat → Nat} {bs : Nat} {a : ig_M} {la : Int64} {b : ig_M} {lb lo : Int64} {post : ig_M → Int64 → Prop} (hf : wp_X0_fadeAmbers a la post) : Met l yX0_fadeAmbers (ig_ws yX0_fadeAmbers cX0_fadeAmbers 2 none) (k2_rm 1 21) (va_Pc [.ref (ad 23)] (ig_Wd D kk ad bs a la b lb lo)) (va_Qv (fun u : ig_M × Int64 => post u.1 u.2) (fun u t => ig_Wd D kk ad bs u.1 u.2 b lb lo t) (ig_A bs)) 0 0 (ig_A bs) := by
  refine Met.ofW (cc := cX0_fadeAmbers) (maxL := 2) (ret := none) (by decide) rfl ?_
  intro p e s m args below meth c s₁ B hml hv
  obtain ⟨rfl, E, hP⟩ := hv
  have hk := B.notSynchronized
  have hr := B.returns
  have F : CallFix p m c cX0_fadeAmbers 2 s _ ig_all RX0 := ⟨B.exec, B.bytes, hml, findClass_of_methodNamed B.named, fun w hw => atoms_spec B.pre w (List.mem_cons_of_mem _ hw)⟩
  have Z : ig_Z D kk ad bs s s.heap [] a la b lb lo := ig_Z.rf hP
  have hl := lv_entry ([.ref (ad 23)]) (n := 2) (Nat.le_of_ble_eq_true rfl)
  rw [lg_entry_eq]
  generalize (lg_sl ([.ref (ad 23)]) ++ List.replicate (2 - (lg_sl ([.ref (ad 23)])).length) Slot.unset).toArray = ls at hl ⊢
  have hl : lv_has ls 2 [(0, .ref (ad 23))] := hl
  refine lv_iconst (v := 0) F.1 F.2.1 dX0_fadeAmbers_0 (by decide) ?_
  refine lv_istore_n (lv' := [(1, .int 0), (0, .ref (ad 23))]) F.1 F.2.1 dX0_fadeAmbers_1 rfl hl (by decide) rfl (fun ls hl => ?_)
  obtain ⟨n1, hf⟩ := hf
  exact wm_X0_fadeAmbers_2 F E hr hk post n1 a la 0 _ _ _ hf Z (lv_sub hl [1, 0] rfl)
set_option maxHeartbeats 4000000 in
set_option maxRecDepth 100000 in
theorem k_X3_areMeeting (l : Launch) {D : va_G} {kk : Nat → ClassId} {ad : Nat → Nat} {bs : Nat} {a : ig_M} {la : Int64} {b : ig_M} {lb lo : Int64} (x1 : Int32) (x2 : Int32) {post : Int32 → Prop} (hf : wp_X3_areMeeting a la x1 x2 post) : Met l yX3_areMeeting (ig_ws yX3_areMeeting cX3_areMeeting 3 (some .boolean)) (k2_rm 0 0) (va_Pc [.ref (ad 1), .int x1, .int x2] (ig_Wd D kk ad bs a la b lb lo)) (va_Qi (fun (r : Int32) (_ : Unit) => post r) (fun _ t => ig_Wd D kk ad bs a la b lb lo t) (ig_A bs)) 0 0 (ig_A bs) := by
  refine Met.ofW (cc := cX3_areMeeting) (maxL := 3) (ret := (some .boolean)) (by decide) rfl ?_
  intro p e s m args below meth c s₁ B hml hv
  obtain ⟨rfl, E, hP⟩ := hv
  have hk := B.notSynchronized
  have hr := B.returns
  have F : CallFix p m c cX3_areMeeting 3 s _ ig_all RX3 := ⟨B.exec, B.bytes, hml, findClass_of_methodNamed B.named, fun w hw => atoms_spec B.pre w (List.mem_cons_of_mem _ hw)⟩
  have Z : ig_Z D kk ad bs s s.heap [] a la b lb lo := ig_Z.rf hP
  have hl := lv_entry ([.ref (ad 1), .int x1, .int x2]) (n := 3) (Nat.le_of_ble_eq_true rfl)
  rw [lg_entry_eq]
  generalize (lg_sl ([.ref (ad 1), .int x1, .int x2]) ++ List.replicate (3 - (lg_sl ([.ref (ad 1), .int x1, .int x2])).length) Slot.unset).toArray = ls at hl ⊢
  have hl : lv_has ls 3 [(0, .ref (ad 1)), (1, .int x1), (2, .int x2)] := hl
  refine lv_aload_n F.1 F.2.1 dX3_areMeeting_0 rfl (lv_at hl 0 rfl) ?_
  refine gf_X3_19 F E Z dX3_areMeeting_1 ?_
  refine lv_iload_n F.1 F.2.1 dX3_areMeeting_4 rfl (lv_at hl 1 rfl) ?_
  have hv1 := hf.1
  have hf := hf.2
  refine ig_aald (t0 := 4) (n := 8) (b0 := 12) F E Z rfl (Or.inr rfl) (by decide) (ig_k_11 _ _ _ _ _ _) hv1 dX3_areMeeting_5 ?_
  refine lv_iload_n F.1 F.2.1 dX3_areMeeting_6 rfl (lv_at hl 2 rfl) ?_
  have hv2 := hf.1
  have hf := hf.2
  refine ig_iald (f := a (12 + x1.toNatClampNeg)) F E Z (by have := ig_lt hv1; omega) (by rw [ig_mm_a _ _ (by have := ig_lt hv1; omega)]; exact (ig_c_rb _ _ _ _ _ _ (ig_lt hv1))) hv2 dX3_areMeeting_7 ?_
  refine lv_if_le (tgt := 15) F.1 F.2.1 dX3_areMeeting_8 (by decide) (fun c_3 => ?_) (fun c_3 => ?_)
  · have hf := hf.1 c_3
    refine lv_iconst (v := 0) F.1 F.2.1 dX3_areMeeting_15 (by decide) ?_
    exact W.zret (v := 0) F.1 F.2.1 hr (ig_narrow (Or.inl rfl)) (fun t ht hW => ⟨⟨_, (), rfl, hf, Z.wd E ht hW⟩, Z.fr ht⟩) Z.2.2.2 dX3_areMeeting_16
  · have hf := hf.2 c_3
    refine lv_iconst (v := 1) F.1 F.2.1 dX3_areMeeting_11 (by decide) ?_
    refine lv_goto (tgt := 16) F.1 F.2.1 dX3_areMeeting_12 (by decide) ?_
    exact W.zret (v := 1) F.1 F.2.1 hr (ig_narrow (Or.inr rfl)) (fun t ht hW => ⟨⟨_, (), rfl, hf, Z.wd E ht hW⟩, Z.fr ht⟩) Z.2.2.2 dX3_areMeeting_16
set_option maxHeartbeats 4000000 in
set_option maxRecDepth 100000 in
theorem wm_X0_isAgainstLit_2 (F : CallFix p m c cX0_isAgainstLit 3 s args ig_all RX0) (E : ig_E D kk ad bs s) (hr : meth.sig.returnType = (some .boolean)) (hk : meth.locks = false) (post : Int32 → Prop) :
    ∀ (n : Nat) (x1 : Int32) (x2 : Int32) (H : Heap) (locs : List Loc) (ls : Array Slot), wp_X0_isAgainstLit_2 a la post n x1 x2 → ig_Z D kk ad bs s H locs a la b lb lo → lv_has ls 3 [(0, .ref (ad 23)), (1, .int x1), (2, .int x2)] → W p l e (k2_rm 1 22) s m args below meth c H locs 0 0 (MQ below (va_Qi (fun (r : Int32) (_ : Unit) => post r) (fun _ t => ig_Wd D kk ad bs a la b lb lo t) (ig_A bs)) args s 0 0 (ig_A bs)) (F0 m 2 ls []) := by
  intro n
  induction n with
  | zero => intro x1 x2 H locs ls hf Z hl; exact False.elim hf
  | succ n ih =>
    intro x1 x2 H locs ls hf Z hl
    refine lv_iload_n F.1 F.2.1 dX0_isAgainstLit_2 rfl (lv_at hl 2 rfl) ?_
    refine lv_aload_n F.1 F.2.1 dX0_isAgainstLit_3 rfl (lv_at hl 0 rfl) ?_
    refine gf_X0_21 F E Z dX0_isAgainstLit_4 ?_
    refine gf_X0_33 F E Z dX0_isAgainstLit_7 ?_
    refine lv_icmp_ge (tgt := 48) F.1 F.2.1 dX0_isAgainstLit_10 (by decide) (fun c_1 => ?_) (fun c_1 => ?_)
    · have hf := hf.1 c_1
      refine lv_iconst (v := 0) F.1 F.2.1 dX0_isAgainstLit_48 (by decide) ?_
      exact W.zret (v := 0) F.1 F.2.1 hr (ig_narrow (Or.inl rfl)) (fun t ht hW => ⟨⟨_, (), rfl, hf, Z.wd E ht hW⟩, Z.fr ht⟩) Z.2.2.2 dX0_isAgainstLit_49
    · have hf := hf.2 c_1
      refine lv_aload_n F.1 F.2.1 dX0_isAgainstLit_13 rfl (lv_at hl 0 rfl) ?_
      refine gf_X0_21 F E Z dX0_isAgainstLit_14 ?_
      refine lv_iload_n F.1 F.2.1 dX0_isAgainstLit_17 rfl (lv_at hl 1 rfl) ?_
      refine lv_iload_n F.1 F.2.1 dX0_isAgainstLit_18 rfl (lv_at hl 2 rfl) ?_
      have hM := k_X3_areMeeting l (D := D) (kk := kk) (ad := ad) (bs := bs) (a := a) (la := la) (b := b) (lb := lb) (lo := lo) x1 x2 hf
      refine ig_calli E Z (ig_runV (As := [.int x1, .int x2]) (rest := []) F E Z hl G_X0_139 hM (i := 1) (by decide) (ig_k_1 _ _ _ _ _ _) rfl rfl md_X3_areMeeting rfl ⟨rfl, rfl⟩ ⟨Nat.le_of_ble_eq_true rfl, Nat.le_of_ble_eq_true rfl⟩ (Nat.le_of_ble_eq_true rfl) dX0_isAgainstLit_19 ⟨Nat.le_of_ble_eq_true rfl, Nat.le_of_ble_eq_true rfl⟩) (fun r2 u H locs hf Z => ?_)
      refine lv_if_eq (tgt := 42) F.1 F.2.1 dX0_isAgainstLit_22 (by decide) (fun c_3 => ?_) (fun c_3 => ?_)
      · have hf := hf.1 c_3
        refine lv_iinc (v := x2 + 1) (lv' := [(2, .int (x2 + 1)), (0, .ref (ad 23)), (1, .int x1)]) F.1 F.2.1 dX0_isAgainstLit_42 hl (k := 2) rfl (by rfl) (by decide) rfl (fun ls hl => ?_)
        refine lv_goto (tgt := 2) F.1 F.2.1 dX0_isAgainstLit_45 (by decide) ?_
        exact ih x1 (x2 + 1) _ _ _ hf Z (lv_sub hl [1, 2, 0] rfl)
      · have hf := hf.2 c_3
        refine lv_aload_n F.1 F.2.1 dX0_isAgainstLit_25 rfl (lv_at hl 0 rfl) ?_
        refine gf_X0_21 F E Z dX0_isAgainstLit_26 ?_
        refine gf_X0_38 F E Z dX0_isAgainstLit_29 ?_
        refine lv_iload_n F.1 F.2.1 dX0_isAgainstLit_32 rfl (lv_at hl 2 rfl) ?_
        have hv4 := hf.1
        have hf := hf.2
        refine ig_aald (t0 := 3) (n := 8) (b0 := 3) F E Z rfl (Or.inl rfl) (by decide) (ig_k_2 _ _ _ _ _ _) hv4 dX0_isAgainstLit_33 ?_
        refine gf_X0_106 F E Z (ig_lt hv4) dX0_isAgainstLit_34 ?_
        refine lv_if_eq (tgt := 42) F.1 F.2.1 dX0_isAgainstLit_37 (by decide) (fun c_5 => ?_) (fun c_5 => ?_)
        · have hf := hf.1 c_5
          refine lv_iinc (v := x2 + 1) (lv' := [(2, .int (x2 + 1)), (0, .ref (ad 23)), (1, .int x1)]) F.1 F.2.1 dX0_isAgainstLit_42 hl (k := 2) rfl (by rfl) (by decide) rfl (fun ls hl => ?_)
          refine lv_goto (tgt := 2) F.1 F.2.1 dX0_isAgainstLit_45 (by decide) ?_
          exact ih x1 (x2 + 1) _ _ _ hf Z (lv_sub hl [1, 2, 0] rfl)
        · have hf := hf.2 c_5
          refine lv_iconst (v := 1) F.1 F.2.1 dX0_isAgainstLit_40 (by decide) ?_
          exact W.zret (v := 1) F.1 F.2.1 hr (ig_narrow (Or.inr rfl)) (fun t ht hW => ⟨⟨_, (), rfl, hf, Z.wd E ht hW⟩, Z.fr ht⟩) Z.2.2.2 dX0_isAgainstLit_41
set_option maxHeartbeats 4000000 in
set_option maxRecDepth 100000 in
theorem k_X0_isAgainstLit (l : Launch) {D : va_G} {kk : Nat → ClassId} {ad : Nat → Nat} {bs : Nat} {a : ig_M} {la : Int64} {b : ig_M} {lb lo : Int64} (x1 : Int32) {post : Int32 → Prop} (hf : wp_X0_isAgainstLit a la x1 post) : Met l yX0_isAgainstLit (ig_ws yX0_isAgainstLit cX0_isAgainstLit 3 (some .boolean)) (k2_rm 1 22) (va_Pc [.ref (ad 23), .int x1] (ig_Wd D kk ad bs a la b lb lo)) (va_Qi (fun (r : Int32) (_ : Unit) => post r) (fun _ t => ig_Wd D kk ad bs a la b lb lo t) (ig_A bs)) 0 0 (ig_A bs) := by
  refine Met.ofW (cc := cX0_isAgainstLit) (maxL := 3) (ret := (some .boolean)) (by decide) rfl ?_
  intro p e s m args below meth c s₁ B hml hv
  obtain ⟨rfl, E, hP⟩ := hv
  have hk := B.notSynchronized
  have hr := B.returns
  have F : CallFix p m c cX0_isAgainstLit 3 s _ ig_all RX0 := ⟨B.exec, B.bytes, hml, findClass_of_methodNamed B.named, fun w hw => atoms_spec B.pre w (List.mem_cons_of_mem _ hw)⟩
  have Z : ig_Z D kk ad bs s s.heap [] a la b lb lo := ig_Z.rf hP
  have hl := lv_entry ([.ref (ad 23), .int x1]) (n := 3) (Nat.le_of_ble_eq_true rfl)
  rw [lg_entry_eq]
  generalize (lg_sl ([.ref (ad 23), .int x1]) ++ List.replicate (3 - (lg_sl ([.ref (ad 23), .int x1])).length) Slot.unset).toArray = ls at hl ⊢
  have hl : lv_has ls 3 [(0, .ref (ad 23)), (1, .int x1)] := hl
  refine lv_iconst (v := 0) F.1 F.2.1 dX0_isAgainstLit_0 (by decide) ?_
  refine lv_istore_n (lv' := [(2, .int 0), (0, .ref (ad 23)), (1, .int x1)]) F.1 F.2.1 dX0_isAgainstLit_1 rfl hl (by decide) rfl (fun ls hl => ?_)
  obtain ⟨n1, hf⟩ := hf
  exact wm_X0_isAgainstLit_2 F E hr hk post n1 x1 0 _ _ _ hf Z (lv_sub hl [1, 2, 0] rfl)
set_option maxHeartbeats 4000000 in
set_option maxRecDepth 100000 in
theorem wm_X0_watch_10 (F : CallFix p m c cX0_watch 3 s args ig_all RX0) (E : ig_E D kk ad bs s) (hr : meth.sig.returnType = none) (hk : meth.locks = false) (post : ig_M → Int64 → Prop) :
    ∀ (n : Nat) (a : ig_M) (la : Int64) (x1 : Int32) (H : Heap) (locs : List Loc) (ls : Array Slot), wp_X0_watch_10 post n a la x1 → ig_Z D kk ad bs s H locs a la b lb lo → lv_has ls 3 [(0, .ref (ad 23)), (1, .int x1)] → W p l e (k2_rm 2 44) s m args below meth c H locs 0 0 (MQ below (va_Qv (fun u : ig_M × Int64 => post u.1 u.2) (fun u t => ig_Wd D kk ad bs u.1 u.2 b lb lo t) (ig_A bs)) args s 0 0 (ig_A bs)) (F0 m 10 ls []) := by
  intro n
  induction n with
  | zero => intro a la x1 H locs ls hf Z hl; exact False.elim hf
  | succ n ih =>
    intro a la x1 H locs ls hf Z hl
    refine lv_iload_n F.1 F.2.1 dX0_watch_10 rfl (lv_at hl 1 rfl) ?_
    refine lv_aload_n F.1 F.2.1 dX0_watch_11 rfl (lv_at hl 0 rfl) ?_
    refine gf_X0_21 F E Z dX0_watch_12 ?_
    refine gf_X0_33 F E Z dX0_watch_15 ?_
    refine lv_icmp_ge (tgt := 66) F.1 F.2.1 dX0_watch_18 (by decide) (fun c_3 => ?_) (fun c_3 => ?_)
    · have hf := hf.1 c_3
      exact W.vret F.1 F.2.1 hr (fun t ht hW => ⟨⟨(a, la), rfl, hf, Z.wd E ht hW⟩, Z.fr ht⟩) Z.2.2.2 dX0_watch_66
    · have hf := hf.2 c_3
      refine lv_aload_n F.1 F.2.1 dX0_watch_21 rfl (lv_at hl 0 rfl) ?_
      refine gf_X0_21 F E Z dX0_watch_22 ?_
      refine gf_X0_38 F E Z dX0_watch_25 ?_
      refine lv_iload_n F.1 F.2.1 dX0_watch_28 rfl (lv_at hl 1 rfl) ?_
      have hv4 := hf.1
      have hf := hf.2
      refine ig_aald (t0 := 3) (n := 8) (b0 := 3) F E Z rfl (Or.inl rfl) (by decide) (ig_k_2 _ _ _ _ _ _) hv4 dX0_watch_29 ?_
      refine lv_astore_n (lv' := [(2, .ref (ad (3 + x1.toNatClampNeg))), (0, .ref (ad 23)), (1, .int x1)]) F.1 F.2.1 dX0_watch_30 rfl hl (by decide) rfl (fun ls hl => ?_)
      refine lv_aload_n F.1 F.2.1 dX0_watch_31 rfl (lv_at hl 0 rfl) ?_
      refine gf_X0_106 F E Z (ig_lt hv4) dX0_watch_32 ?_
      refine lv_if_ne (tgt := 60) F.1 F.2.1 dX0_watch_35 (by decide) (fun c_5 => ?_) (fun c_5 => ?_)
      · have hf := hf.1 c_5
        refine lv_iinc (v := x1 + 1) (lv' := [(1, .int (x1 + 1)), (2, .ref (ad (3 + x1.toNatClampNeg))), (0, .ref (ad 23))]) F.1 F.2.1 dX0_watch_60 hl (k := 2) rfl (by rfl) (by decide) rfl (fun ls hl => ?_)
        refine lv_goto (tgt := 10) F.1 F.2.1 dX0_watch_63 (by decide) ?_
        exact ih a la (x1 + 1) _ _ _ hf Z (lv_sub hl [2, 0] rfl)
      · have hf := hf.2 c_5
        refine lv_aload_n F.1 F.2.1 dX0_watch_38 rfl (lv_at hl 0 rfl) ?_
        refine lv_iconst (v := 0) F.1 F.2.1 dX0_watch_39 (by decide) ?_
        have hM := k_X2_isBroken l (D := D) (kk := kk) (ad := ad) (bs := bs) (a := a) (la := la) (b := b) (lb := lb) (lo := lo) x1.toNatClampNeg 0 (ig_lt hv4) hf
        refine ig_calli E Z (ig_runV (As := [.int 0]) (rest := []) F E Z hl G_X0_130 hM (i := 3 + x1.toNatClampNeg) (by have := ig_lt hv4; omega) (ig_c_ph _ _ _ _ _ _ (ig_lt hv4)) rfl rfl md_X2_isBroken rfl ⟨rfl, rfl⟩ ⟨Nat.le_of_ble_eq_true rfl, Nat.le_of_ble_eq_true rfl⟩ (Nat.le_of_ble_eq_true rfl) dX0_watch_40 ⟨Nat.le_of_ble_eq_true rfl, Nat.le_of_ble_eq_true rfl⟩) (fun r6 u H locs hf Z => ?_)
        refine lv_if_eq (tgt := 60) F.1 F.2.1 dX0_watch_43 (by decide) (fun c_7 => ?_) (fun c_7 => ?_)
        · have hf := hf.1 c_7
          refine lv_iinc (v := x1 + 1) (lv' := [(1, .int (x1 + 1)), (2, .ref (ad (3 + x1.toNatClampNeg))), (0, .ref (ad 23))]) F.1 F.2.1 dX0_watch_60 hl (k := 2) rfl (by rfl) (by decide) rfl (fun ls hl => ?_)
          refine lv_goto (tgt := 10) F.1 F.2.1 dX0_watch_63 (by decide) ?_
          exact ih a la (x1 + 1) _ _ _ hf Z (lv_sub hl [2, 0] rfl)
        · have hf := hf.2 c_7
          refine lv_aload_n F.1 F.2.1 dX0_watch_46 rfl (lv_at hl 1 rfl) ?_
          refine lv_iload_n F.1 F.2.1 dX0_watch_47 rfl (lv_at hl 2 rfl) ?_
          have hM := k_X0_isAgainstLit l (D := D) (kk := kk) (ad := ad) (bs := bs) (a := a) (la := la) (b := b) (lb := lb) (lo := lo) x1 hf
          refine ig_calli E Z (ig_runV (As := [.int x1]) (rest := []) F E Z hl G_X0_133 hM (i := 23) (by decide) (ig_k_23 _ _ _ _ _ _) rfl rfl md_X0_isAgainstLit rfl ⟨rfl, rfl⟩ ⟨Nat.le_of_ble_eq_true rfl, Nat.le_of_ble_eq_true rfl⟩ (Nat.le_of_ble_eq_true rfl) dX0_watch_48 ⟨Nat.le_of_ble_eq_true rfl, Nat.le_of_ble_eq_true rfl⟩) (fun r8 u H locs hf Z => ?_)
          refine lv_if_eq (tgt := 60) F.1 F.2.1 dX0_watch_51 (by decide) (fun c_9 => ?_) (fun c_9 => ?_)
          · have hf := hf.1 c_9
            refine lv_iinc (v := x1 + 1) (lv' := [(1, .int (x1 + 1)), (2, .ref (ad (3 + x1.toNatClampNeg))), (0, .ref (ad 23))]) F.1 F.2.1 dX0_watch_60 hl (k := 2) rfl (by rfl) (by decide) rfl (fun ls hl => ?_)
            refine lv_goto (tgt := 10) F.1 F.2.1 dX0_watch_63 (by decide) ?_
            exact ih a la (x1 + 1) _ _ _ hf Z (lv_sub hl [2, 0] rfl)
          · have hf := hf.2 c_9
            refine lv_aload_n F.1 F.2.1 dX0_watch_54 rfl (lv_at hl 1 rfl) ?_
            refine lv_iconst (v := 3) F.1 F.2.1 dX0_watch_55 (by decide) ?_
            have hM := k_X0_fallBack l (D := D) (kk := kk) (ad := ad) (bs := bs) (a := a) (la := la) (b := b) (lb := lb) (lo := lo) 3 hf
            refine ig_callv E Z (ig_runV (As := [.int 3]) (rest := []) F E Z hl G_X0_136 hM (i := 23) (by decide) (ig_k_23 _ _ _ _ _ _) rfl rfl md_X0_fallBack rfl ⟨rfl, rfl⟩ ⟨Nat.le_of_ble_eq_true rfl, Nat.le_of_ble_eq_true rfl⟩ (Nat.le_of_ble_eq_true rfl) dX0_watch_56 ⟨Nat.le_of_ble_eq_true rfl, Nat.le_of_ble_eq_true rfl⟩) (fun u H locs hf Z => ?_)
            obtain ⟨a10, la11⟩ := u
            have Z : ig_Z D kk ad bs s H locs a10 la11 b lb lo := Z
            exact W.vret F.1 F.2.1 hr (fun t ht hW => ⟨⟨(a10, la11), rfl, hf, Z.wd E ht hW⟩, Z.fr ht⟩) Z.2.2.2 dX0_watch_59
set_option maxHeartbeats 4000000 in
set_option maxRecDepth 100000 in
theorem k_X0_watch (l : Launch) {D : va_G} {kk : Nat → ClassId} {ad : Nat → Nat} {bs : Nat} {a : ig_M} {la : Int64} {b : ig_M} {lb lo : Int64} {post : ig_M → Int64 → Prop} (hf : wp_X0_watch a la post) : Met l yX0_watch (ig_ws yX0_watch cX0_watch 3 none) (k2_rm 2 44) (va_Pc [.ref (ad 23)] (ig_Wd D kk ad bs a la b lb lo)) (va_Qv (fun u : ig_M × Int64 => post u.1 u.2) (fun u t => ig_Wd D kk ad bs u.1 u.2 b lb lo t) (ig_A bs)) 0 0 (ig_A bs) := by
  refine Met.ofW (cc := cX0_watch) (maxL := 3) (ret := none) (by decide) rfl ?_
  intro p e s m args below meth c s₁ B hml hv
  obtain ⟨rfl, E, hP⟩ := hv
  have hk := B.notSynchronized
  have hr := B.returns
  have F : CallFix p m c cX0_watch 3 s _ ig_all RX0 := ⟨B.exec, B.bytes, hml, findClass_of_methodNamed B.named, fun w hw => atoms_spec B.pre w (List.mem_cons_of_mem _ hw)⟩
  have Z : ig_Z D kk ad bs s s.heap [] a la b lb lo := ig_Z.rf hP
  have hl := lv_entry ([.ref (ad 23)]) (n := 3) (Nat.le_of_ble_eq_true rfl)
  rw [lg_entry_eq]
  generalize (lg_sl ([.ref (ad 23)]) ++ List.replicate (3 - (lg_sl ([.ref (ad 23)])).length) Slot.unset).toArray = ls at hl ⊢
  have hl : lv_has ls 3 [(0, .ref (ad 23))] := hl
  refine lv_aload_n F.1 F.2.1 dX0_watch_0 rfl (lv_at hl 0 rfl) ?_
  have hM := k_X0_areWorking l (D := D) (kk := kk) (ad := ad) (bs := bs) (a := a) (la := la) (b := b) (lb := lb) (lo := lo) hf
  refine ig_calli E Z (ig_runV (As := []) (rest := []) F E Z hl G_X0_126 hM (i := 23) (by decide) (ig_k_23 _ _ _ _ _ _) rfl rfl md_X0_areWorking rfl ⟨rfl, rfl⟩ ⟨Nat.le_of_ble_eq_true rfl, Nat.le_of_ble_eq_true rfl⟩ (Nat.le_of_ble_eq_true rfl) dX0_watch_1 ⟨Nat.le_of_ble_eq_true rfl, Nat.le_of_ble_eq_true rfl⟩) (fun r1 u H locs hf Z => ?_)
  refine lv_if_ne (tgt := 8) F.1 F.2.1 dX0_watch_4 (by decide) (fun c_2 => ?_) (fun c_2 => ?_)
  · have hf := hf.1 c_2
    refine lv_iconst (v := 0) F.1 F.2.1 dX0_watch_8 (by decide) ?_
    refine lv_istore_n (lv' := [(1, .int 0), (0, .ref (ad 23))]) F.1 F.2.1 dX0_watch_9 rfl hl (by decide) rfl (fun ls hl => ?_)
    obtain ⟨n1, hf⟩ := hf
    exact wm_X0_watch_10 F E hr hk post n1 a la 0 _ _ _ hf Z (lv_sub hl [1, 0] rfl)
  · have hf := hf.2 c_2
    exact W.vret F.1 F.2.1 hr (fun t ht hW => ⟨⟨(a, la), rfl, hf, Z.wd E ht hW⟩, Z.fr ht⟩) Z.2.2.2 dX0_watch_7
set_option maxHeartbeats 4000000 in
set_option maxRecDepth 100000 in
theorem k_X1_darken (l : Launch) {D : va_G} {kk : Nat → ClassId} {ad : Nat → Nat} {bs : Nat} {a : ig_M} {la : Int64} {b : ig_M} {lb lo : Int64} (x1 : Int32) {post : ig_M → Int64 → Prop} (hf : wp_X1_darken a la x1 post) : Met l yX1_darken (ig_ws yX1_darken cX1_darken 2 none) (k2_rm 1 22) (va_Pc [.ref (ad 21), .int x1] (ig_Wd D kk ad bs a la b lb lo)) (va_Qv (fun u : ig_M × Int64 => post u.1 u.2) (fun u t => ig_Wd D kk ad bs u.1 u.2 b lb lo t) (ig_A bs)) 0 0 (ig_A bs) := by
  refine Met.ofW (cc := cX1_darken) (maxL := 2) (ret := none) (by decide) rfl ?_
  intro p e s m args below meth c s₁ B hml hv
  obtain ⟨rfl, E, hP⟩ := hv
  have hk := B.notSynchronized
  have hr := B.returns
  have F : CallFix p m c cX1_darken 2 s _ ig_all RX1 := ⟨B.exec, B.bytes, hml, findClass_of_methodNamed B.named, fun w hw => atoms_spec B.pre w (List.mem_cons_of_mem _ hw)⟩
  have Z : ig_Z D kk ad bs s s.heap [] a la b lb lo := ig_Z.rf hP
  have hl := lv_entry ([.ref (ad 21), .int x1]) (n := 2) (Nat.le_of_ble_eq_true rfl)
  rw [lg_entry_eq]
  generalize (lg_sl ([.ref (ad 21), .int x1]) ++ List.replicate (2 - (lg_sl ([.ref (ad 21), .int x1])).length) Slot.unset).toArray = ls at hl ⊢
  have hl : lv_has ls 2 [(0, .ref (ad 21)), (1, .int x1)] := hl
  refine lv_iload_n F.1 F.2.1 dX1_darken_0 rfl (lv_at hl 1 rfl) ?_
  refine lv_iconst (v := 0) F.1 F.2.1 dX1_darken_1 (by decide) ?_
  refine lv_aload_n F.1 F.2.1 dX1_darken_2 rfl (lv_at hl 0 rfl) ?_
  refine gf_X1_11 F E Z dX1_darken_3 ?_
  refine ig_alen (v := 5000) F E Z (by decide) (ig_k_22 _ _ _ _ _ _) rfl dX1_darken_6 ?_
  refine lv_iconst (v := 1) F.1 F.2.1 dX1_darken_7 (by decide) ?_
  refine lv_isub F.1 F.2.1 dX1_darken_8 ?_
  have hM := k_X5_isWithin l (D := D) (kk := kk) (ad := ad) (bs := bs) (a := a) (la := la) (b := b) (lb := lb) (lo := lo) x1 0 (5000 - 1) hf
  refine ig_calli E Z (ig_runSN (As := [.int x1, .int 0, .int (5000 - 1)]) (rest := []) F E Z hl (host := "Intergreen") (by decide +kernel) G_X1_15 G_X1_15_i G_X1_15_s hM md_X5_isWithin rfl ⟨rfl, rfl⟩ ⟨Nat.le_of_ble_eq_true rfl, Nat.le_of_ble_eq_true rfl⟩ (Nat.le_of_ble_eq_true rfl) dX1_darken_9 ⟨Nat.le_of_ble_eq_true rfl, Nat.le_of_ble_eq_true rfl⟩) (fun r1 u H locs hf Z => ?_)
  refine lv_if_eq (tgt := 23) F.1 F.2.1 dX1_darken_12 (by decide) (fun c_2 => ?_) (fun c_2 => ?_)
  · have hf := hf.1 c_2
    exact W.vret F.1 F.2.1 hr (fun t ht hW => ⟨⟨(a, la), rfl, hf, Z.wd E ht hW⟩, Z.fr ht⟩) Z.2.2.2 dX1_darken_23
  · have hf := hf.2 c_2
    refine lv_aload_n F.1 F.2.1 dX1_darken_15 rfl (lv_at hl 0 rfl) ?_
    refine gf_X1_11 F E Z dX1_darken_16 ?_
    refine lv_iload_n F.1 F.2.1 dX1_darken_19 rfl (lv_at hl 1 rfl) ?_
    refine lv_ldc (v := 65535) F.1 F.2.1 F.2.2.2.1 (F.2.2.2.2 _ mw_326) dX1_darken_20 ?_
    have hv3 := hf.1
    have hf := hf.2
    refine ig_iastA (n := 5000) F E Z (by decide) (fun r => ig_k_22 _ _ _ _ _ r) hv3 dX1_darken_22 (fun H locs a4 ha4 Z => ?_)
    have hf := hf a4 ha4
    exact W.vret F.1 F.2.1 hr (fun t ht hW => ⟨⟨(a4, la), rfl, hf, Z.wd E ht hW⟩, Z.fr ht⟩) Z.2.2.2 dX1_darken_23
set_option maxHeartbeats 4000000 in
set_option maxRecDepth 100000 in
theorem k_X2_shown (l : Launch) {D : va_G} {kk : Nat → ClassId} {ad : Nat → Nat} {bs : Nat} {a : ig_M} {la : Int64} {b : ig_M} {lb lo : Int64} (k0 : Nat) (hk0 : k0 < 8) {post : Int32 → Prop} (hf : wp_X2_shown a la k0 post) : Met l yX2_shown (ig_ws yX2_shown cX2_shown 1 (some .int)) (k2_rm 2 42) (va_Pc [.ref (ad (3 + k0))] (ig_Wd D kk ad bs a la b lb lo)) (va_Qi (fun (r : Int32) (_ : Unit) => post r) (fun _ t => ig_Wd D kk ad bs a la b lb lo t) (ig_A bs)) 0 0 (ig_A bs) := by
  refine Met.ofW (cc := cX2_shown) (maxL := 1) (ret := (some .int)) (by decide) rfl ?_
  intro p e s m args below meth c s₁ B hml hv
  obtain ⟨rfl, E, hP⟩ := hv
  have hk := B.notSynchronized
  have hr := B.returns
  have F : CallFix p m c cX2_shown 1 s _ ig_all RX2 := ⟨B.exec, B.bytes, hml, findClass_of_methodNamed B.named, fun w hw => atoms_spec B.pre w (List.mem_cons_of_mem _ hw)⟩
  have Z : ig_Z D kk ad bs s s.heap [] a la b lb lo := ig_Z.rf hP
  have hl := lv_entry ([.ref (ad (3 + k0))]) (n := 1) (Nat.le_of_ble_eq_true rfl)
  rw [lg_entry_eq]
  generalize (lg_sl ([.ref (ad (3 + k0))]) ++ List.replicate (1 - (lg_sl ([.ref (ad (3 + k0))])).length) Slot.unset).toArray = ls at hl ⊢
  have hl : lv_has ls 1 [(0, .ref (ad (3 + k0)))] := hl
  refine lv_aload_n F.1 F.2.1 dX2_shown_0 rfl (lv_at hl 0 rfl) ?_
  refine lv_aload_n F.1 F.2.1 dX2_shown_1 rfl (lv_at hl 0 rfl) ?_
  refine gf_X2_9 F E Z hk0 dX2_shown_2 ?_
  have hM := k_X2_isBroken l (D := D) (kk := kk) (ad := ad) (bs := bs) (a := a) (la := la) (b := b) (lb := lb) (lo := lo) k0 (a (3 + k0) 3) hk0 hf
  refine ig_calli E Z (ig_runV (As := [.int (a (3 + k0) 3)]) (rest := []) F E Z hl G_X2_50 hM (i := 3 + k0) (by have := hk0; omega) (ig_c_ph _ _ _ _ _ _ hk0) rfl rfl md_X2_isBroken rfl ⟨rfl, rfl⟩ ⟨Nat.le_of_ble_eq_true rfl, Nat.le_of_ble_eq_true rfl⟩ (Nat.le_of_ble_eq_true rfl) dX2_shown_5 ⟨Nat.le_of_ble_eq_true rfl, Nat.le_of_ble_eq_true rfl⟩) (fun r1 u H locs hf Z => ?_)
  refine lv_if_eq (tgt := 15) F.1 F.2.1 dX2_shown_8 (by decide) (fun c_2 => ?_) (fun c_2 => ?_)
  · have hf := hf.1 c_2
    refine lv_aload_n F.1 F.2.1 dX2_shown_15 rfl (lv_at hl 0 rfl) ?_
    refine gf_X2_9 F E Z hk0 dX2_shown_16 ?_
    exact W.iret (v := a (3 + k0) 3) F.1 F.2.1 hr (fun t ht hW => ⟨⟨_, (), rfl, hf, Z.wd E ht hW⟩, Z.fr ht⟩) Z.2.2.2 dX2_shown_19
  · have hf := hf.2 c_2
    refine lv_iconst (v := 3) F.1 F.2.1 dX2_shown_11 (by decide) ?_
    refine lv_goto (tgt := 19) F.1 F.2.1 dX2_shown_12 (by decide) ?_
    exact W.iret (v := 3) F.1 F.2.1 hr (fun t ht hW => ⟨⟨_, (), rfl, hf, Z.wd E ht hW⟩, Z.fr ht⟩) Z.2.2.2 dX2_shown_19
set_option maxHeartbeats 4000000 in
set_option maxRecDepth 100000 in
theorem k_X1_show (l : Launch) {D : va_G} {kk : Nat → ClassId} {ad : Nat → Nat} {bs : Nat} {a : ig_M} {la : Int64} {b : ig_M} {lb lo : Int64} (x1 : Int32) (x2 : Int32) (x3 : Int32) {post : ig_M → Int64 → Prop} (hf : wp_X1_show a la x1 x2 x3 post) : Met l yX1_show (ig_ws yX1_show cX1_show 5 none) (k2_rm 1 22) (va_Pc [.ref (ad 21), .int x1, .int x2, .int x3] (ig_Wd D kk ad bs a la b lb lo)) (va_Qv (fun u : ig_M × Int64 => post u.1 u.2) (fun u t => ig_Wd D kk ad bs u.1 u.2 b lb lo t) (ig_A bs)) 0 0 (ig_A bs) := by
  refine Met.ofW (cc := cX1_show) (maxL := 5) (ret := none) (by decide) rfl ?_
  intro p e s m args below meth c s₁ B hml hv
  obtain ⟨rfl, E, hP⟩ := hv
  have hk := B.notSynchronized
  have hr := B.returns
  have F : CallFix p m c cX1_show 5 s _ ig_all RX1 := ⟨B.exec, B.bytes, hml, findClass_of_methodNamed B.named, fun w hw => atoms_spec B.pre w (List.mem_cons_of_mem _ hw)⟩
  have Z : ig_Z D kk ad bs s s.heap [] a la b lb lo := ig_Z.rf hP
  have hl := lv_entry ([.ref (ad 21), .int x1, .int x2, .int x3]) (n := 5) (Nat.le_of_ble_eq_true rfl)
  rw [lg_entry_eq]
  generalize (lg_sl ([.ref (ad 21), .int x1, .int x2, .int x3]) ++ List.replicate (5 - (lg_sl ([.ref (ad 21), .int x1, .int x2, .int x3])).length) Slot.unset).toArray = ls at hl ⊢
  have hl : lv_has ls 5 [(0, .ref (ad 21)), (1, .int x1), (2, .int x2), (3, .int x3)] := hl
  refine lv_iload_n F.1 F.2.1 dX1_show_0 rfl (lv_at hl 2 rfl) ?_
  refine lv_iconst (v := 0) F.1 F.2.1 dX1_show_1 (by decide) ?_
  refine lv_aload_n F.1 F.2.1 dX1_show_2 rfl (lv_at hl 0 rfl) ?_
  refine gf_X1_11 F E Z dX1_show_3 ?_
  refine ig_alen (v := 5000) F E Z (by decide) (ig_k_22 _ _ _ _ _ _) rfl dX1_show_6 ?_
  refine lv_iconst (v := 1) F.1 F.2.1 dX1_show_7 (by decide) ?_
  refine lv_isub F.1 F.2.1 dX1_show_8 ?_
  have hM := k_X5_isWithin l (D := D) (kk := kk) (ad := ad) (bs := bs) (a := a) (la := la) (b := b) (lb := lb) (lo := lo) x2 0 (5000 - 1) hf
  refine ig_calli E Z (ig_runSN (As := [.int x2, .int 0, .int (5000 - 1)]) (rest := []) F E Z hl (host := "Intergreen") (by decide +kernel) G_X1_15 G_X1_15_i G_X1_15_s hM md_X5_isWithin rfl ⟨rfl, rfl⟩ ⟨Nat.le_of_ble_eq_true rfl, Nat.le_of_ble_eq_true rfl⟩ (Nat.le_of_ble_eq_true rfl) dX1_show_9 ⟨Nat.le_of_ble_eq_true rfl, Nat.le_of_ble_eq_true rfl⟩) (fun r1 u H locs hf Z => ?_)
  refine lv_if_eq (tgt := 44) F.1 F.2.1 dX1_show_12 (by decide) (fun c_2 => ?_) (fun c_2 => ?_)
  · have hf := hf.1 c_2
    exact W.vret F.1 F.2.1 hr (fun t ht hW => ⟨⟨(a, la), rfl, hf, Z.wd E ht hW⟩, Z.fr ht⟩) Z.2.2.2 dX1_show_44
  · have hf := hf.2 c_2
    refine lv_iconst (v := 2) F.1 F.2.1 dX1_show_15 (by decide) ?_
    refine lv_iload_n F.1 F.2.1 dX1_show_16 rfl (lv_at hl 1 rfl) ?_
    refine lv_imul F.1 F.2.1 dX1_show_17 ?_
    refine lv_istore (lv' := [(4, .int (2 * x1)), (0, .ref (ad 21)), (1, .int x1), (2, .int x2), (3, .int x3)]) F.1 F.2.1 dX1_show_18 hl (by decide) rfl (fun ls hl => ?_)
    refine lv_aload_n F.1 F.2.1 dX1_show_20 rfl (lv_at hl 1 rfl) ?_
    refine gf_X1_11 F E Z dX1_show_21 ?_
    refine lv_iload_n F.1 F.2.1 dX1_show_24 rfl (lv_at hl 3 rfl) ?_
    refine lv_aload_n F.1 F.2.1 dX1_show_25 rfl (lv_at hl 1 rfl) ?_
    refine gf_X1_11 F E Z dX1_show_26 ?_
    refine lv_iload_n F.1 F.2.1 dX1_show_29 rfl (lv_at hl 3 rfl) ?_
    have hv3 := hf.1
    have hf := hf.2
    refine ig_iald (f := a 22) F E Z (by decide) (by rw [ig_mm_a _ _ (by decide)]; exact (ig_k_22 _ _ _ _ _ _)) hv3 dX1_show_30 ?_
    refine lv_iconst (v := 3) F.1 F.2.1 dX1_show_31 (by decide) ?_
    refine lv_iload F.1 F.2.1 dX1_show_32 (lv_at hl 0 rfl) ?_
    refine lv_ishl F.1 F.2.1 dX1_show_34 ?_
    refine lv_iconst (v := (-1)) F.1 F.2.1 dX1_show_35 (by decide) ?_
    refine lv_ixor F.1 F.2.1 dX1_show_36 ?_
    refine lv_iand F.1 F.2.1 dX1_show_37 ?_
    refine lv_iload_n F.1 F.2.1 dX1_show_38 rfl (lv_at hl 4 rfl) ?_
    refine lv_iload F.1 F.2.1 dX1_show_39 (lv_at hl 0 rfl) ?_
    refine lv_ishl F.1 F.2.1 dX1_show_41 ?_
    refine lv_ior F.1 F.2.1 dX1_show_42 ?_
    have hv4 := hf.1
    have hf := hf.2
    refine ig_iastA (n := 5000) F E Z (by decide) (fun r => ig_k_22 _ _ _ _ _ r) hv4 dX1_show_43 (fun H locs a5 ha5 Z => ?_)
    have hf := hf a5 ha5
    exact W.vret F.1 F.2.1 hr (fun t ht hW => ⟨⟨(a5, la), rfl, hf, Z.wd E ht hW⟩, Z.fr ht⟩) Z.2.2.2 dX1_show_44
set_option maxHeartbeats 4000000 in
set_option maxRecDepth 100000 in
theorem wm_X0_writeLog_21 (F : CallFix p m c cX0_writeLog 2 s args ig_all RX0) (E : ig_E D kk ad bs s) (hr : meth.sig.returnType = none) (hk : meth.locks = false) (post : ig_M → Int64 → Prop) :
    ∀ (n : Nat) (a : ig_M) (la : Int64) (x1 : Int32) (H : Heap) (locs : List Loc) (ls : Array Slot), wp_X0_writeLog_21 post n a la x1 → ig_Z D kk ad bs s H locs a la b lb lo → lv_has ls 2 [(0, .ref (ad 23)), (1, .int x1)] → W p l e (k2_rm 3 62) s m args below meth c H locs 0 0 (MQ below (va_Qv (fun u : ig_M × Int64 => post u.1 u.2) (fun u t => ig_Wd D kk ad bs u.1 u.2 b lb lo t) (ig_A bs)) args s 0 0 (ig_A bs)) (F0 m 21 ls []) := by
  intro n
  induction n with
  | zero => intro a la x1 H locs ls hf Z hl; exact False.elim hf
  | succ n ih =>
    intro a la x1 H locs ls hf Z hl
    refine lv_iload_n F.1 F.2.1 dX0_writeLog_21 rfl (lv_at hl 1 rfl) ?_
    refine lv_aload_n F.1 F.2.1 dX0_writeLog_22 rfl (lv_at hl 0 rfl) ?_
    refine gf_X0_21 F E Z dX0_writeLog_23 ?_
    refine gf_X0_33 F E Z dX0_writeLog_26 ?_
    refine lv_icmp_ge (tgt := 62) F.1 F.2.1 dX0_writeLog_29 (by decide) (fun c_5 => ?_) (fun c_5 => ?_)
    · have hf := hf.1 c_5
      exact W.vret F.1 F.2.1 hr (fun t ht hW => ⟨⟨(a, la), rfl, hf, Z.wd E ht hW⟩, Z.fr ht⟩) Z.2.2.2 dX0_writeLog_62
    · have hf := hf.2 c_5
      refine lv_aload_n F.1 F.2.1 dX0_writeLog_32 rfl (lv_at hl 0 rfl) ?_
      refine gf_X0_25 F E Z dX0_writeLog_33 ?_
      refine lv_iload_n F.1 F.2.1 dX0_writeLog_36 rfl (lv_at hl 1 rfl) ?_
      refine lv_aload_n F.1 F.2.1 dX0_writeLog_37 rfl (lv_at hl 0 rfl) ?_
      refine gf_X0_42 F E Z dX0_writeLog_38 ?_
      refine lv_aload_n F.1 F.2.1 dX0_writeLog_41 rfl (lv_at hl 0 rfl) ?_
      refine gf_X0_21 F E Z dX0_writeLog_42 ?_
      refine gf_X0_38 F E Z dX0_writeLog_45 ?_
      refine lv_iload_n F.1 F.2.1 dX0_writeLog_48 rfl (lv_at hl 1 rfl) ?_
      have hv6 := hf.1
      have hf := hf.2
      refine ig_aald (t0 := 3) (n := 8) (b0 := 3) F E Z rfl (Or.inl rfl) (by decide) (ig_k_2 _ _ _ _ _ _) hv6 dX0_writeLog_49 ?_
      have hM := k_X2_shown l (D := D) (kk := kk) (ad := ad) (bs := bs) (a := a) (la := la) (b := b) (lb := lb) (lo := lo) x1.toNatClampNeg (ig_lt hv6) hf
      refine ig_calli E Z (ig_runV (As := []) (rest := [.int (a 23 6), .int x1, .ref (ad 21)]) F E Z hl G_X0_147 hM (i := 3 + x1.toNatClampNeg) (by have := ig_lt hv6; omega) (ig_c_ph _ _ _ _ _ _ (ig_lt hv6)) rfl rfl md_X2_shown rfl ⟨rfl, rfl⟩ ⟨Nat.le_of_ble_eq_true rfl, Nat.le_of_ble_eq_true rfl⟩ (Nat.le_of_ble_eq_true rfl) dX0_writeLog_50 ⟨Nat.le_of_ble_eq_true rfl, Nat.le_of_ble_eq_true rfl⟩) (fun r7 u H locs hf Z => ?_)
      have hM := k_X1_show l (D := D) (kk := kk) (ad := ad) (bs := bs) (a := a) (la := la) (b := b) (lb := lb) (lo := lo) x1 (a 23 6) r7 hf
      refine ig_callv E Z (ig_runV (As := [.int x1, .int (a 23 6), .int r7]) (rest := []) F E Z hl G_X0_150 hM (i := 21) (by decide) (ig_k_21 _ _ _ _ _ _) rfl rfl md_X1_show rfl ⟨rfl, rfl⟩ ⟨Nat.le_of_ble_eq_true rfl, Nat.le_of_ble_eq_true rfl⟩ (Nat.le_of_ble_eq_true rfl) dX0_writeLog_53 ⟨Nat.le_of_ble_eq_true rfl, Nat.le_of_ble_eq_true rfl⟩) (fun u H locs hf Z => ?_)
      obtain ⟨a8, la9⟩ := u
      have Z : ig_Z D kk ad bs s H locs a8 la9 b lb lo := Z
      refine lv_iinc (v := x1 + 1) (lv' := [(1, .int (x1 + 1)), (0, .ref (ad 23))]) F.1 F.2.1 dX0_writeLog_56 hl (k := 1) rfl (by rfl) (by decide) rfl (fun ls hl => ?_)
      refine lv_goto (tgt := 21) F.1 F.2.1 dX0_writeLog_59 (by decide) ?_
      exact ih a8 la9 (x1 + 1) _ _ _ hf Z (lv_sub hl [1, 0] rfl)
set_option maxHeartbeats 4000000 in
set_option maxRecDepth 100000 in
theorem k_X0_writeLog (l : Launch) {D : va_G} {kk : Nat → ClassId} {ad : Nat → Nat} {bs : Nat} {a : ig_M} {la : Int64} {b : ig_M} {lb lo : Int64} {post : ig_M → Int64 → Prop} (hf : wp_X0_writeLog a la post) : Met l yX0_writeLog (ig_ws yX0_writeLog cX0_writeLog 2 none) (k2_rm 3 62) (va_Pc [.ref (ad 23)] (ig_Wd D kk ad bs a la b lb lo)) (va_Qv (fun u : ig_M × Int64 => post u.1 u.2) (fun u t => ig_Wd D kk ad bs u.1 u.2 b lb lo t) (ig_A bs)) 0 0 (ig_A bs) := by
  refine Met.ofW (cc := cX0_writeLog) (maxL := 2) (ret := none) (by decide) rfl ?_
  intro p e s m args below meth c s₁ B hml hv
  obtain ⟨rfl, E, hP⟩ := hv
  have hk := B.notSynchronized
  have hr := B.returns
  have F : CallFix p m c cX0_writeLog 2 s _ ig_all RX0 := ⟨B.exec, B.bytes, hml, findClass_of_methodNamed B.named, fun w hw => atoms_spec B.pre w (List.mem_cons_of_mem _ hw)⟩
  have Z : ig_Z D kk ad bs s s.heap [] a la b lb lo := ig_Z.rf hP
  have hl := lv_entry ([.ref (ad 23)]) (n := 2) (Nat.le_of_ble_eq_true rfl)
  rw [lg_entry_eq]
  generalize (lg_sl ([.ref (ad 23)]) ++ List.replicate (2 - (lg_sl ([.ref (ad 23)])).length) Slot.unset).toArray = ls at hl ⊢
  have hl : lv_has ls 2 [(0, .ref (ad 23))] := hl
  refine lv_aload_n F.1 F.2.1 dX0_writeLog_0 rfl (lv_at hl 0 rfl) ?_
  refine gf_X0_25 F E Z dX0_writeLog_1 ?_
  refine lv_aload_n F.1 F.2.1 dX0_writeLog_4 rfl (lv_at hl 0 rfl) ?_
  refine gf_X0_42 F E Z dX0_writeLog_5 ?_
  have hM := k_X1_darken l (D := D) (kk := kk) (ad := ad) (bs := bs) (a := a) (la := la) (b := b) (lb := lb) (lo := lo) (a 23 6) hf
  refine ig_callv E Z (ig_runV (As := [.int (a 23 6)]) (rest := []) F E Z hl G_X0_142 hM (i := 21) (by decide) (ig_k_21 _ _ _ _ _ _) rfl rfl md_X1_darken rfl ⟨rfl, rfl⟩ ⟨Nat.le_of_ble_eq_true rfl, Nat.le_of_ble_eq_true rfl⟩ (Nat.le_of_ble_eq_true rfl) dX0_writeLog_8 ⟨Nat.le_of_ble_eq_true rfl, Nat.le_of_ble_eq_true rfl⟩) (fun u H locs hf Z => ?_)
  obtain ⟨a1, la2⟩ := u
  have Z : ig_Z D kk ad bs s H locs a1 la2 b lb lo := Z
  refine lv_aload_n F.1 F.2.1 dX0_writeLog_11 rfl (lv_at hl 0 rfl) ?_
  have hM := k_X0_areWorking l (D := D) (kk := kk) (ad := ad) (bs := bs) (a := a1) (la := la2) (b := b) (lb := lb) (lo := lo) hf
  refine ig_calli E Z (ig_runV (As := []) (rest := []) F E Z hl G_X0_126 hM (i := 23) (by decide) (ig_k_23 _ _ _ _ _ _) rfl rfl md_X0_areWorking rfl ⟨rfl, rfl⟩ ⟨Nat.le_of_ble_eq_true rfl, Nat.le_of_ble_eq_true rfl⟩ (Nat.le_of_ble_eq_true rfl) dX0_writeLog_12 ⟨Nat.le_of_ble_eq_true rfl, Nat.le_of_ble_eq_true rfl⟩) (fun r3 u H locs hf Z => ?_)
  refine lv_if_ne (tgt := 19) F.1 F.2.1 dX0_writeLog_15 (by decide) (fun c_4 => ?_) (fun c_4 => ?_)
  · have hf := hf.1 c_4
    refine lv_iconst (v := 0) F.1 F.2.1 dX0_writeLog_19 (by decide) ?_
    refine lv_istore_n (lv' := [(1, .int 0), (0, .ref (ad 23))]) F.1 F.2.1 dX0_writeLog_20 rfl hl (by decide) rfl (fun ls hl => ?_)
    obtain ⟨n1, hf⟩ := hf
    exact wm_X0_writeLog_21 F E hr hk post n1 a1 la2 0 _ _ _ hf Z (lv_sub hl [1, 0] rfl)
  · have hf := hf.2 c_4
    exact W.vret F.1 F.2.1 hr (fun t ht hW => ⟨⟨(a1, la2), rfl, hf, Z.wd E ht hW⟩, Z.fr ht⟩) Z.2.2.2 dX0_writeLog_18
set_option maxHeartbeats 4000000 in
set_option maxRecDepth 100000 in
theorem k_X2_letOneGo (l : Launch) {D : va_G} {kk : Nat → ClassId} {ad : Nat → Nat} {bs : Nat} {a : ig_M} {la : Int64} {b : ig_M} {lb lo : Int64} (k0 : Nat) (hk0 : k0 < 8) {post : Int32 → ig_M → Int64 → Prop} (hf : wp_X2_letOneGo a la k0 post) : Met l yX2_letOneGo (ig_ws yX2_letOneGo cX2_letOneGo 1 (some .int)) (k2_rm 0 0) (va_Pc [.ref (ad (3 + k0))] (ig_Wd D kk ad bs a la b lb lo)) (va_Qi (fun (r : Int32) (u : ig_M × Int64) => post r u.1 u.2) (fun u t => ig_Wd D kk ad bs u.1 u.2 b lb lo t) (ig_A bs)) 0 0 (ig_A bs) := by
  refine Met.ofW (cc := cX2_letOneGo) (maxL := 1) (ret := (some .int)) (by decide) rfl ?_
  intro p e s m args below meth c s₁ B hml hv
  obtain ⟨rfl, E, hP⟩ := hv
  have hk := B.notSynchronized
  have hr := B.returns
  have F : CallFix p m c cX2_letOneGo 1 s _ ig_all RX2 := ⟨B.exec, B.bytes, hml, findClass_of_methodNamed B.named, fun w hw => atoms_spec B.pre w (List.mem_cons_of_mem _ hw)⟩
  have Z : ig_Z D kk ad bs s s.heap [] a la b lb lo := ig_Z.rf hP
  have hl := lv_entry ([.ref (ad (3 + k0))]) (n := 1) (Nat.le_of_ble_eq_true rfl)
  rw [lg_entry_eq]
  generalize (lg_sl ([.ref (ad (3 + k0))]) ++ List.replicate (1 - (lg_sl ([.ref (ad (3 + k0))])).length) Slot.unset).toArray = ls at hl ⊢
  have hl : lv_has ls 1 [(0, .ref (ad (3 + k0)))] := hl
  refine lv_aload_n F.1 F.2.1 dX2_letOneGo_0 rfl (lv_at hl 0 rfl) ?_
  refine gf_X2_22 F E Z hk0 dX2_letOneGo_1 ?_
  refine lv_if_ne (tgt := 9) F.1 F.2.1 dX2_letOneGo_4 (by decide) (fun c_1 => ?_) (fun c_1 => ?_)
  · have hf := hf.1 c_1
    refine lv_aload_n F.1 F.2.1 dX2_letOneGo_9 rfl (lv_at hl 0 rfl) ?_
    refine lv_dup F.1 F.2.1 dX2_letOneGo_10 rfl ?_
    refine gf_X2_22 F E Z hk0 dX2_letOneGo_11 ?_
    refine lv_iconst (v := 1) F.1 F.2.1 dX2_letOneGo_14 (by decide) ?_
    refine lv_isub F.1 F.2.1 dX2_letOneGo_15 ?_
    refine pf_X2_22 F E Z hk0 dX2_letOneGo_16 (fun H locs a2 ha2 Z => ?_)
    have hf := hf a2 ha2
    refine lv_aload_n F.1 F.2.1 dX2_letOneGo_19 rfl (lv_at hl 0 rfl) ?_
    refine lv_aload_n F.1 F.2.1 dX2_letOneGo_20 rfl (lv_at hl 0 rfl) ?_
    refine gf_X2_44 F E Z hk0 dX2_letOneGo_21 ?_
    refine pf_X2_38 F E Z hk0 dX2_letOneGo_24 (fun H locs a3 ha3 Z => ?_)
    have hf := hf a3 ha3
    refine lv_iconst (v := 1) F.1 F.2.1 dX2_letOneGo_27 (by decide) ?_
    exact W.iret (v := 1) F.1 F.2.1 hr (fun t ht hW => ⟨⟨_, (a3, la), rfl, hf, Z.wd E ht hW⟩, Z.fr ht⟩) Z.2.2.2 dX2_letOneGo_28
  · have hf := hf.2 c_1
    refine lv_iconst (v := 0) F.1 F.2.1 dX2_letOneGo_7 (by decide) ?_
    exact W.iret (v := 0) F.1 F.2.1 hr (fun t ht hW => ⟨⟨_, (a, la), rfl, hf, Z.wd E ht hW⟩, Z.fr ht⟩) Z.2.2.2 dX2_letOneGo_8
set_option maxHeartbeats 4000000 in
set_option maxRecDepth 100000 in
theorem wm_X2_passSecond_35 (F : CallFix p m c cX2_passSecond 1 s args ig_all RX2) (E : ig_E D kk ad bs s) (hr : meth.sig.returnType = (some .int)) (hk : meth.locks = false) (post : Int32 → ig_M → Int64 → Prop) :
    ∀ (a : ig_M) (la : Int64) (k0 : Nat) (H : Heap) (locs : List Loc) (ls : Array Slot) (hk0 : k0 < 8), wp_X2_passSecond_35 post a la k0 → ig_Z D kk ad bs s H locs a la b lb lo → lv_has ls 1 [(0, .ref (ad (3 + k0)))] → W p l e (k2_rm 1 21) s m args below meth c H locs 0 0 (MQ below (va_Qi (fun (r : Int32) (u : ig_M × Int64) => post r u.1 u.2) (fun u t => ig_Wd D kk ad bs u.1 u.2 b lb lo t) (ig_A bs)) args s 0 0 (ig_A bs)) (F0 m 35 ls []) := by
  intro a la k0 H locs ls hk0 hf Z hl
  refine lv_aload_n F.1 F.2.1 dX2_passSecond_35 rfl (lv_at hl 0 rfl) ?_
  have hM := k_X2_letOneGo l (D := D) (kk := kk) (ad := ad) (bs := bs) (a := a) (la := la) (b := b) (lb := lb) (lo := lo) k0 hk0 hf
  refine ig_calli E Z (ig_runV (As := []) (rest := []) F E Z hl G_X2_54 hM (i := 3 + k0) (by have := hk0; omega) (ig_c_ph _ _ _ _ _ _ hk0) rfl rfl md_X2_letOneGo rfl ⟨rfl, rfl⟩ ⟨Nat.le_of_ble_eq_true rfl, Nat.le_of_ble_eq_true rfl⟩ (Nat.le_of_ble_eq_true rfl) dX2_passSecond_36 ⟨Nat.le_of_ble_eq_true rfl, Nat.le_of_ble_eq_true rfl⟩) (fun r9 u H locs hf Z => ?_)
  obtain ⟨a10, la11⟩ := u
  have Z : ig_Z D kk ad bs s H locs a10 la11 b lb lo := Z
  exact W.iret (v := r9) F.1 F.2.1 hr (fun t ht hW => ⟨⟨_, (a10, la11), rfl, hf, Z.wd E ht hW⟩, Z.fr ht⟩) Z.2.2.2 dX2_passSecond_39
set_option maxHeartbeats 4000000 in
set_option maxRecDepth 100000 in
theorem k_X2_passSecond (l : Launch) {D : va_G} {kk : Nat → ClassId} {ad : Nat → Nat} {bs : Nat} {a : ig_M} {la : Int64} {b : ig_M} {lb lo : Int64} (k0 : Nat) (hk0 : k0 < 8) {post : Int32 → ig_M → Int64 → Prop} (hf : wp_X2_passSecond a la k0 post) : Met l yX2_passSecond (ig_ws yX2_passSecond cX2_passSecond 1 (some .int)) (k2_rm 1 21) (va_Pc [.ref (ad (3 + k0))] (ig_Wd D kk ad bs a la b lb lo)) (va_Qi (fun (r : Int32) (u : ig_M × Int64) => post r u.1 u.2) (fun u t => ig_Wd D kk ad bs u.1 u.2 b lb lo t) (ig_A bs)) 0 0 (ig_A bs) := by
  refine Met.ofW (cc := cX2_passSecond) (maxL := 1) (ret := (some .int)) (by decide) rfl ?_
  intro p e s m args below meth c s₁ B hml hv
  obtain ⟨rfl, E, hP⟩ := hv
  have hk := B.notSynchronized
  have hr := B.returns
  have F : CallFix p m c cX2_passSecond 1 s _ ig_all RX2 := ⟨B.exec, B.bytes, hml, findClass_of_methodNamed B.named, fun w hw => atoms_spec B.pre w (List.mem_cons_of_mem _ hw)⟩
  have Z : ig_Z D kk ad bs s s.heap [] a la b lb lo := ig_Z.rf hP
  have hl := lv_entry ([.ref (ad (3 + k0))]) (n := 1) (Nat.le_of_ble_eq_true rfl)
  rw [lg_entry_eq]
  generalize (lg_sl ([.ref (ad (3 + k0))]) ++ List.replicate (1 - (lg_sl ([.ref (ad (3 + k0))])).length) Slot.unset).toArray = ls at hl ⊢
  have hl : lv_has ls 1 [(0, .ref (ad (3 + k0)))] := hl
  refine lv_aload_n F.1 F.2.1 dX2_passSecond_0 rfl (lv_at hl 0 rfl) ?_
  refine gf_X2_9 F E Z hk0 dX2_passSecond_1 ?_
  refine lv_iconst (v := 1) F.1 F.2.1 dX2_passSecond_4 (by decide) ?_
  refine lv_icmp_ne (tgt := 40) F.1 F.2.1 dX2_passSecond_5 (by decide) (fun c_1 => ?_) (fun c_1 => ?_)
  · have hf := hf.1 c_1
    refine lv_aload_n F.1 F.2.1 dX2_passSecond_40 rfl (lv_at hl 0 rfl) ?_
    have hM := k_X2_isDemanded l (D := D) (kk := kk) (ad := ad) (bs := bs) (a := a) (la := la) (b := b) (lb := lb) (lo := lo) k0 hk0 hf
    refine ig_calli E Z (ig_runV (As := []) (rest := []) F E Z hl G_X2_58 hM (i := 3 + k0) (by have := hk0; omega) (ig_c_ph _ _ _ _ _ _ hk0) rfl rfl md_X2_isDemanded rfl ⟨rfl, rfl⟩ ⟨Nat.le_of_ble_eq_true rfl, Nat.le_of_ble_eq_true rfl⟩ (Nat.le_of_ble_eq_true rfl) dX2_passSecond_41 ⟨Nat.le_of_ble_eq_true rfl, Nat.le_of_ble_eq_true rfl⟩) (fun r2 u H locs hf Z => ?_)
    refine lv_if_eq (tgt := 72) F.1 F.2.1 dX2_passSecond_44 (by decide) (fun c_3 => ?_) (fun c_3 => ?_)
    · have hf := hf.1 c_3
      refine lv_iconst (v := 0) F.1 F.2.1 dX2_passSecond_72 (by decide) ?_
      exact W.iret (v := 0) F.1 F.2.1 hr (fun t ht hW => ⟨⟨_, (a, la), rfl, hf, Z.wd E ht hW⟩, Z.fr ht⟩) Z.2.2.2 dX2_passSecond_73
    · have hf := hf.2 c_3
      refine lv_aload_n F.1 F.2.1 dX2_passSecond_47 rfl (lv_at hl 0 rfl) ?_
      refine lv_dup F.1 F.2.1 dX2_passSecond_48 rfl ?_
      refine gf_X2_47 F E Z hk0 dX2_passSecond_49 ?_
      refine lv_iconst (v := 1) F.1 F.2.1 dX2_passSecond_52 (by decide) ?_
      refine lv_iadd F.1 F.2.1 dX2_passSecond_53 ?_
      refine pf_X2_47 F E Z hk0 dX2_passSecond_54 (fun H locs a4 ha4 Z => ?_)
      have hf := hf a4 ha4
      refine lv_aload_n F.1 F.2.1 dX2_passSecond_57 rfl (lv_at hl 0 rfl) ?_
      refine lv_aload_n F.1 F.2.1 dX2_passSecond_58 rfl (lv_at hl 0 rfl) ?_
      refine gf_X2_62 F E Z hk0 dX2_passSecond_59 ?_
      refine lv_aload_n F.1 F.2.1 dX2_passSecond_62 rfl (lv_at hl 0 rfl) ?_
      refine gf_X2_47 F E Z hk0 dX2_passSecond_63 ?_
      refine va_mmax F.1 F.2.1 (F.2.2.1.trans hl.1.symm) F.2.2.2.1 (F.2.2.2.2 _ mw_327) (F.2.2.2.2 _ mw_323) (F.2.2.2.2 _ mw_324) (F.2.2.2.2 _ mw_325) (Nat.le_of_ble_eq_true rfl) (Nat.le_of_ble_eq_true rfl) (Nat.le_of_ble_eq_true rfl) (Nat.le_of_ble_eq_true rfl) dX2_passSecond_66 ?_
      refine pf_X2_62 F E Z hk0 dX2_passSecond_69 (fun H locs a5 ha5 Z => ?_)
      have hf := hf a5 ha5
      refine lv_iconst (v := 0) F.1 F.2.1 dX2_passSecond_72 (by decide) ?_
      exact W.iret (v := 0) F.1 F.2.1 hr (fun t ht hW => ⟨⟨_, (a5, la), rfl, hf, Z.wd E ht hW⟩, Z.fr ht⟩) Z.2.2.2 dX2_passSecond_73
  · have hf := hf.2 c_1
    refine lv_aload_n F.1 F.2.1 dX2_passSecond_8 rfl (lv_at hl 0 rfl) ?_
    refine lv_dup F.1 F.2.1 dX2_passSecond_9 rfl ?_
    refine gf_X2_32 F E Z hk0 dX2_passSecond_10 ?_
    refine lv_iconst (v := 1) F.1 F.2.1 dX2_passSecond_13 (by decide) ?_
    refine lv_iadd F.1 F.2.1 dX2_passSecond_14 ?_
    refine pf_X2_32 F E Z hk0 dX2_passSecond_15 (fun H locs a6 ha6 Z => ?_)
    have hf := hf a6 ha6
    refine lv_aload_n F.1 F.2.1 dX2_passSecond_18 rfl (lv_at hl 0 rfl) ?_
    refine gf_X2_38 F E Z hk0 dX2_passSecond_19 ?_
    refine lv_if_le (tgt := 35) F.1 F.2.1 dX2_passSecond_22 (by decide) (fun c_7 => ?_) (fun c_7 => ?_)
    · have hf := hf.1 c_7
      exact wm_X2_passSecond_35 F E hr hk post a6 la k0 _ _ _ hk0 hf Z (lv_sub hl [0] rfl)
    · have hf := hf.2 c_7
      refine lv_aload_n F.1 F.2.1 dX2_passSecond_25 rfl (lv_at hl 0 rfl) ?_
      refine lv_dup F.1 F.2.1 dX2_passSecond_26 rfl ?_
      refine gf_X2_38 F E Z hk0 dX2_passSecond_27 ?_
      refine lv_iconst (v := 1) F.1 F.2.1 dX2_passSecond_30 (by decide) ?_
      refine lv_isub F.1 F.2.1 dX2_passSecond_31 ?_
      refine pf_X2_38 F E Z hk0 dX2_passSecond_32 (fun H locs a8 ha8 Z => ?_)
      have hf := hf a8 ha8
      exact wm_X2_passSecond_35 F E hr hk post a8 la k0 _ _ _ hk0 hf Z (lv_sub hl [0] rfl)
set_option maxHeartbeats 4000000 in
set_option maxRecDepth 100000 in
theorem wm_X0_movePhases_2 (F : CallFix p m c cX0_movePhases 2 s args ig_all RX0) (E : ig_E D kk ad bs s) (hr : meth.sig.returnType = none) (hk : meth.locks = false) (post : ig_M → Int64 → Prop) :
    ∀ (n : Nat) (a : ig_M) (la : Int64) (x1 : Int32) (H : Heap) (locs : List Loc) (ls : Array Slot), wp_X0_movePhases_2 post n a la x1 → ig_Z D kk ad bs s H locs a la b lb lo → lv_has ls 2 [(0, .ref (ad 23)), (1, .int x1)] → W p l e (k2_rm 2 41) s m args below meth c H locs 0 0 (MQ below (va_Qv (fun u : ig_M × Int64 => post u.1 u.2) (fun u t => ig_Wd D kk ad bs u.1 u.2 b lb lo t) (ig_A bs)) args s 0 0 (ig_A bs)) (F0 m 2 ls []) := by
  intro n
  induction n with
  | zero => intro a la x1 H locs ls hf Z hl; exact False.elim hf
  | succ n ih =>
    intro a la x1 H locs ls hf Z hl
    refine lv_iload_n F.1 F.2.1 dX0_movePhases_2 rfl (lv_at hl 1 rfl) ?_
    refine lv_aload_n F.1 F.2.1 dX0_movePhases_3 rfl (lv_at hl 0 rfl) ?_
    refine gf_X0_21 F E Z dX0_movePhases_4 ?_
    refine gf_X0_33 F E Z dX0_movePhases_7 ?_
    refine lv_icmp_ge (tgt := 40) F.1 F.2.1 dX0_movePhases_10 (by decide) (fun c_1 => ?_) (fun c_1 => ?_)
    · have hf := hf.1 c_1
      exact W.vret F.1 F.2.1 hr (fun t ht hW => ⟨⟨(a, la), rfl, hf, Z.wd E ht hW⟩, Z.fr ht⟩) Z.2.2.2 dX0_movePhases_40
    · have hf := hf.2 c_1
      refine lv_aload_n F.1 F.2.1 dX0_movePhases_13 rfl (lv_at hl 0 rfl) ?_
      refine lv_dup F.1 F.2.1 dX0_movePhases_14 rfl ?_
      refine gf_X0_154 F E Z dX0_movePhases_15 ?_
      refine lv_aload_n F.1 F.2.1 dX0_movePhases_18 rfl (lv_at hl 0 rfl) ?_
      refine gf_X0_21 F E Z dX0_movePhases_19 ?_
      refine gf_X0_38 F E Z dX0_movePhases_22 ?_
      refine lv_iload_n F.1 F.2.1 dX0_movePhases_25 rfl (lv_at hl 1 rfl) ?_
      have hv2 := hf.1
      have hf := hf.2
      refine ig_aald (t0 := 3) (n := 8) (b0 := 3) F E Z rfl (Or.inl rfl) (by decide) (ig_k_2 _ _ _ _ _ _) hv2 dX0_movePhases_26 ?_
      have hM := k_X2_passSecond l (D := D) (kk := kk) (ad := ad) (bs := bs) (a := a) (la := la) (b := b) (lb := lb) (lo := lo) x1.toNatClampNeg (ig_lt hv2) hf
      refine ig_calli E Z (ig_runV (As := []) (rest := [.int (a 23 7), .ref (ad 23)]) F E Z hl G_X0_157 hM (i := 3 + x1.toNatClampNeg) (by have := ig_lt hv2; omega) (ig_c_ph _ _ _ _ _ _ (ig_lt hv2)) rfl rfl md_X2_passSecond rfl ⟨rfl, rfl⟩ ⟨Nat.le_of_ble_eq_true rfl, Nat.le_of_ble_eq_true rfl⟩ (Nat.le_of_ble_eq_true rfl) dX0_movePhases_27 ⟨Nat.le_of_ble_eq_true rfl, Nat.le_of_ble_eq_true rfl⟩) (fun r3 u H locs hf Z => ?_)
      obtain ⟨a4, la5⟩ := u
      have Z : ig_Z D kk ad bs s H locs a4 la5 b lb lo := Z
      refine lv_iadd F.1 F.2.1 dX0_movePhases_30 ?_
      refine pf_X0_154 F E Z dX0_movePhases_31 (fun H locs a6 ha6 Z => ?_)
      have hf := hf a6 ha6
      refine lv_iinc (v := x1 + 1) (lv' := [(1, .int (x1 + 1)), (0, .ref (ad 23))]) F.1 F.2.1 dX0_movePhases_34 hl (k := 1) rfl (by rfl) (by decide) rfl (fun ls hl => ?_)
      refine lv_goto (tgt := 2) F.1 F.2.1 dX0_movePhases_37 (by decide) ?_
      exact ih a6 la5 (x1 + 1) _ _ _ hf Z (lv_sub hl [1, 0] rfl)
set_option maxHeartbeats 4000000 in
set_option maxRecDepth 100000 in
theorem k_X0_movePhases (l : Launch) {D : va_G} {kk : Nat → ClassId} {ad : Nat → Nat} {bs : Nat} {a : ig_M} {la : Int64} {b : ig_M} {lb lo : Int64} {post : ig_M → Int64 → Prop} (hf : wp_X0_movePhases a la post) : Met l yX0_movePhases (ig_ws yX0_movePhases cX0_movePhases 2 none) (k2_rm 2 41) (va_Pc [.ref (ad 23)] (ig_Wd D kk ad bs a la b lb lo)) (va_Qv (fun u : ig_M × Int64 => post u.1 u.2) (fun u t => ig_Wd D kk ad bs u.1 u.2 b lb lo t) (ig_A bs)) 0 0 (ig_A bs) := by
  refine Met.ofW (cc := cX0_movePhases) (maxL := 2) (ret := none) (by decide) rfl ?_
  intro p e s m args below meth c s₁ B hml hv
  obtain ⟨rfl, E, hP⟩ := hv
  have hk := B.notSynchronized
  have hr := B.returns
  have F : CallFix p m c cX0_movePhases 2 s _ ig_all RX0 := ⟨B.exec, B.bytes, hml, findClass_of_methodNamed B.named, fun w hw => atoms_spec B.pre w (List.mem_cons_of_mem _ hw)⟩
  have Z : ig_Z D kk ad bs s s.heap [] a la b lb lo := ig_Z.rf hP
  have hl := lv_entry ([.ref (ad 23)]) (n := 2) (Nat.le_of_ble_eq_true rfl)
  rw [lg_entry_eq]
  generalize (lg_sl ([.ref (ad 23)]) ++ List.replicate (2 - (lg_sl ([.ref (ad 23)])).length) Slot.unset).toArray = ls at hl ⊢
  have hl : lv_has ls 2 [(0, .ref (ad 23))] := hl
  refine lv_iconst (v := 0) F.1 F.2.1 dX0_movePhases_0 (by decide) ?_
  refine lv_istore_n (lv' := [(1, .int 0), (0, .ref (ad 23))]) F.1 F.2.1 dX0_movePhases_1 rfl hl (by decide) rfl (fun ls hl => ?_)
  obtain ⟨n1, hf⟩ := hf
  exact wm_X0_movePhases_2 F E hr hk post n1 a la 0 _ _ _ hf Z (lv_sub hl [1, 0] rfl)
set_option maxHeartbeats 4000000 in
set_option maxRecDepth 100000 in
theorem wm_X0_addQueues_2 (F : CallFix p m c cX0_addQueues 2 s args ig_all RX0) (E : ig_E D kk ad bs s) (hr : meth.sig.returnType = none) (hk : meth.locks = false) (post : ig_M → Int64 → Prop) :
    ∀ (n : Nat) (a : ig_M) (la : Int64) (x1 : Int32) (H : Heap) (locs : List Loc) (ls : Array Slot), wp_X0_addQueues_2 post n a la x1 → ig_Z D kk ad bs s H locs a la b lb lo → lv_has ls 2 [(0, .ref (ad 23)), (1, .int x1)] → W p l e (k2_rm 0 0) s m args below meth c H locs 0 0 (MQ below (va_Qv (fun u : ig_M × Int64 => post u.1 u.2) (fun u t => ig_Wd D kk ad bs u.1 u.2 b lb lo t) (ig_A bs)) args s 0 0 (ig_A bs)) (F0 m 2 ls []) := by
  intro n
  induction n with
  | zero => intro a la x1 H locs ls hf Z hl; exact False.elim hf
  | succ n ih =>
    intro a la x1 H locs ls hf Z hl
    refine lv_iload_n F.1 F.2.1 dX0_addQueues_2 rfl (lv_at hl 1 rfl) ?_
    refine lv_aload_n F.1 F.2.1 dX0_addQueues_3 rfl (lv_at hl 0 rfl) ?_
    refine gf_X0_21 F E Z dX0_addQueues_4 ?_
    refine gf_X0_33 F E Z dX0_addQueues_7 ?_
    refine lv_icmp_ge (tgt := 41) F.1 F.2.1 dX0_addQueues_10 (by decide) (fun c_1 => ?_) (fun c_1 => ?_)
    · have hf := hf.1 c_1
      exact W.vret F.1 F.2.1 hr (fun t ht hW => ⟨⟨(a, la), rfl, hf, Z.wd E ht hW⟩, Z.fr ht⟩) Z.2.2.2 dX0_addQueues_41
    · have hf := hf.2 c_1
      refine lv_aload_n F.1 F.2.1 dX0_addQueues_13 rfl (lv_at hl 0 rfl) ?_
      refine lv_dup F.1 F.2.1 dX0_addQueues_14 rfl ?_
      refine gf_X0_160 F E Z dX0_addQueues_15 ?_
      refine lv_aload_n F.1 F.2.1 dX0_addQueues_18 rfl (lv_at hl 0 rfl) ?_
      refine gf_X0_21 F E Z dX0_addQueues_19 ?_
      refine gf_X0_38 F E Z dX0_addQueues_22 ?_
      refine lv_iload_n F.1 F.2.1 dX0_addQueues_25 rfl (lv_at hl 1 rfl) ?_
      have hv2 := hf.1
      have hf := hf.2
      refine ig_aald (t0 := 3) (n := 8) (b0 := 3) F E Z rfl (Or.inl rfl) (by decide) (ig_k_2 _ _ _ _ _ _) hv2 dX0_addQueues_26 ?_
      refine gf_X0_164 F E Z (ig_lt hv2) dX0_addQueues_27 ?_
      refine lv_i2l F.1 F.2.1 dX0_addQueues_30 rfl ?_
      refine lv_ladd F.1 F.2.1 dX0_addQueues_31 ?_
      refine pf_X0_160 F E Z dX0_addQueues_32 (fun H locs Z => ?_)
      refine lv_iinc (v := x1 + 1) (lv' := [(1, .int (x1 + 1)), (0, .ref (ad 23))]) F.1 F.2.1 dX0_addQueues_35 hl (k := 1) rfl (by rfl) (by decide) rfl (fun ls hl => ?_)
      refine lv_goto (tgt := 2) F.1 F.2.1 dX0_addQueues_38 (by decide) ?_
      exact ih a (la + ((a (3 + x1.toNatClampNeg) 6).toInt64)) (x1 + 1) _ _ _ hf Z (lv_sub hl [1, 0] rfl)
set_option maxHeartbeats 4000000 in
set_option maxRecDepth 100000 in
theorem k_X0_addQueues (l : Launch) {D : va_G} {kk : Nat → ClassId} {ad : Nat → Nat} {bs : Nat} {a : ig_M} {la : Int64} {b : ig_M} {lb lo : Int64} {post : ig_M → Int64 → Prop} (hf : wp_X0_addQueues a la post) : Met l yX0_addQueues (ig_ws yX0_addQueues cX0_addQueues 2 none) (k2_rm 0 0) (va_Pc [.ref (ad 23)] (ig_Wd D kk ad bs a la b lb lo)) (va_Qv (fun u : ig_M × Int64 => post u.1 u.2) (fun u t => ig_Wd D kk ad bs u.1 u.2 b lb lo t) (ig_A bs)) 0 0 (ig_A bs) := by
  refine Met.ofW (cc := cX0_addQueues) (maxL := 2) (ret := none) (by decide) rfl ?_
  intro p e s m args below meth c s₁ B hml hv
  obtain ⟨rfl, E, hP⟩ := hv
  have hk := B.notSynchronized
  have hr := B.returns
  have F : CallFix p m c cX0_addQueues 2 s _ ig_all RX0 := ⟨B.exec, B.bytes, hml, findClass_of_methodNamed B.named, fun w hw => atoms_spec B.pre w (List.mem_cons_of_mem _ hw)⟩
  have Z : ig_Z D kk ad bs s s.heap [] a la b lb lo := ig_Z.rf hP
  have hl := lv_entry ([.ref (ad 23)]) (n := 2) (Nat.le_of_ble_eq_true rfl)
  rw [lg_entry_eq]
  generalize (lg_sl ([.ref (ad 23)]) ++ List.replicate (2 - (lg_sl ([.ref (ad 23)])).length) Slot.unset).toArray = ls at hl ⊢
  have hl : lv_has ls 2 [(0, .ref (ad 23))] := hl
  refine lv_iconst (v := 0) F.1 F.2.1 dX0_addQueues_0 (by decide) ?_
  refine lv_istore_n (lv' := [(1, .int 0), (0, .ref (ad 23))]) F.1 F.2.1 dX0_addQueues_1 rfl hl (by decide) rfl (fun ls hl => ?_)
  obtain ⟨n1, hf⟩ := hf
  exact wm_X0_addQueues_2 F E hr hk post n1 a la 0 _ _ _ hf Z (lv_sub hl [1, 0] rfl)
set_option maxHeartbeats 4000000 in
set_option maxRecDepth 100000 in
theorem k_X0_passSecond (l : Launch) {D : va_G} {kk : Nat → ClassId} {ad : Nat → Nat} {bs : Nat} {a : ig_M} {la : Int64} {b : ig_M} {lb lo : Int64} {post : ig_M → Int64 → Prop} (hf : wp_X0_passSecond a la post) : Met l yX0_passSecond (ig_ws yX0_passSecond cX0_passSecond 1 none) (k2_rm 4 88) (va_Pc [.ref (ad 23)] (ig_Wd D kk ad bs a la b lb lo)) (va_Qv (fun u : ig_M × Int64 => post u.1 u.2) (fun u t => ig_Wd D kk ad bs u.1 u.2 b lb lo t) (ig_A bs)) 0 0 (ig_A bs) := by
  refine Met.ofW (cc := cX0_passSecond) (maxL := 1) (ret := none) (by decide) rfl ?_
  intro p e s m args below meth c s₁ B hml hv
  obtain ⟨rfl, E, hP⟩ := hv
  have hk := B.notSynchronized
  have hr := B.returns
  have F : CallFix p m c cX0_passSecond 1 s _ ig_all RX0 := ⟨B.exec, B.bytes, hml, findClass_of_methodNamed B.named, fun w hw => atoms_spec B.pre w (List.mem_cons_of_mem _ hw)⟩
  have Z : ig_Z D kk ad bs s s.heap [] a la b lb lo := ig_Z.rf hP
  have hl := lv_entry ([.ref (ad 23)]) (n := 1) (Nat.le_of_ble_eq_true rfl)
  rw [lg_entry_eq]
  generalize (lg_sl ([.ref (ad 23)]) ++ List.replicate (1 - (lg_sl ([.ref (ad 23)])).length) Slot.unset).toArray = ls at hl ⊢
  have hl : lv_has ls 1 [(0, .ref (ad 23))] := hl
  refine lv_aload_n F.1 F.2.1 dX0_passSecond_0 rfl (lv_at hl 0 rfl) ?_
  have hM := k_X0_leaveStage l (D := D) (kk := kk) (ad := ad) (bs := bs) (a := a) (la := la) (b := b) (lb := lb) (lo := lo) hf
  refine ig_callv E Z (ig_runV (As := []) (rest := []) F E Z hl G_X0_51 hM (i := 23) (by decide) (ig_k_23 _ _ _ _ _ _) rfl rfl md_X0_leaveStage rfl ⟨rfl, rfl⟩ ⟨Nat.le_of_ble_eq_true rfl, Nat.le_of_ble_eq_true rfl⟩ (Nat.le_of_ble_eq_true rfl) dX0_passSecond_1 ⟨Nat.le_of_ble_eq_true rfl, Nat.le_of_ble_eq_true rfl⟩) (fun u H locs hf Z => ?_)
  obtain ⟨a1, la2⟩ := u
  have Z : ig_Z D kk ad bs s H locs a1 la2 b lb lo := Z
  refine lv_aload_n F.1 F.2.1 dX0_passSecond_4 rfl (lv_at hl 0 rfl) ?_
  have hM := k_X0_enterStage l (D := D) (kk := kk) (ad := ad) (bs := bs) (a := a1) (la := la2) (b := b) (lb := lb) (lo := lo) hf
  refine ig_callv E Z (ig_runV (As := []) (rest := []) F E Z hl G_X0_54 hM (i := 23) (by decide) (ig_k_23 _ _ _ _ _ _) rfl rfl md_X0_enterStage rfl ⟨rfl, rfl⟩ ⟨Nat.le_of_ble_eq_true rfl, Nat.le_of_ble_eq_true rfl⟩ (Nat.le_of_ble_eq_true rfl) dX0_passSecond_5 ⟨Nat.le_of_ble_eq_true rfl, Nat.le_of_ble_eq_true rfl⟩) (fun u H locs hf Z => ?_)
  obtain ⟨a3, la4⟩ := u
  have Z : ig_Z D kk ad bs s H locs a3 la4 b lb lo := Z
  refine lv_aload_n F.1 F.2.1 dX0_passSecond_8 rfl (lv_at hl 0 rfl) ?_
  have hM := k_X0_fadeAmbers l (D := D) (kk := kk) (ad := ad) (bs := bs) (a := a3) (la := la4) (b := b) (lb := lb) (lo := lo) hf
  refine ig_callv E Z (ig_runV (As := []) (rest := []) F E Z hl G_X0_57 hM (i := 23) (by decide) (ig_k_23 _ _ _ _ _ _) rfl rfl md_X0_fadeAmbers rfl ⟨rfl, rfl⟩ ⟨Nat.le_of_ble_eq_true rfl, Nat.le_of_ble_eq_true rfl⟩ (Nat.le_of_ble_eq_true rfl) dX0_passSecond_9 ⟨Nat.le_of_ble_eq_true rfl, Nat.le_of_ble_eq_true rfl⟩) (fun u H locs hf Z => ?_)
  obtain ⟨a5, la6⟩ := u
  have Z : ig_Z D kk ad bs s H locs a5 la6 b lb lo := Z
  refine lv_aload_n F.1 F.2.1 dX0_passSecond_12 rfl (lv_at hl 0 rfl) ?_
  have hM := k_X0_watch l (D := D) (kk := kk) (ad := ad) (bs := bs) (a := a5) (la := la6) (b := b) (lb := lb) (lo := lo) hf
  refine ig_callv E Z (ig_runV (As := []) (rest := []) F E Z hl G_X0_60 hM (i := 23) (by decide) (ig_k_23 _ _ _ _ _ _) rfl rfl md_X0_watch rfl ⟨rfl, rfl⟩ ⟨Nat.le_of_ble_eq_true rfl, Nat.le_of_ble_eq_true rfl⟩ (Nat.le_of_ble_eq_true rfl) dX0_passSecond_13 ⟨Nat.le_of_ble_eq_true rfl, Nat.le_of_ble_eq_true rfl⟩) (fun u H locs hf Z => ?_)
  obtain ⟨a7, la8⟩ := u
  have Z : ig_Z D kk ad bs s H locs a7 la8 b lb lo := Z
  refine lv_aload_n F.1 F.2.1 dX0_passSecond_16 rfl (lv_at hl 0 rfl) ?_
  have hM := k_X0_writeLog l (D := D) (kk := kk) (ad := ad) (bs := bs) (a := a7) (la := la8) (b := b) (lb := lb) (lo := lo) hf
  refine ig_callv E Z (ig_runV (As := []) (rest := []) F E Z hl G_X0_63 hM (i := 23) (by decide) (ig_k_23 _ _ _ _ _ _) rfl rfl md_X0_writeLog rfl ⟨rfl, rfl⟩ ⟨Nat.le_of_ble_eq_true rfl, Nat.le_of_ble_eq_true rfl⟩ (Nat.le_of_ble_eq_true rfl) dX0_passSecond_17 ⟨Nat.le_of_ble_eq_true rfl, Nat.le_of_ble_eq_true rfl⟩) (fun u H locs hf Z => ?_)
  obtain ⟨a9, la10⟩ := u
  have Z : ig_Z D kk ad bs s H locs a9 la10 b lb lo := Z
  refine lv_aload_n F.1 F.2.1 dX0_passSecond_20 rfl (lv_at hl 0 rfl) ?_
  have hM := k_X0_movePhases l (D := D) (kk := kk) (ad := ad) (bs := bs) (a := a9) (la := la10) (b := b) (lb := lb) (lo := lo) hf
  refine ig_callv E Z (ig_runV (As := []) (rest := []) F E Z hl G_X0_66 hM (i := 23) (by decide) (ig_k_23 _ _ _ _ _ _) rfl rfl md_X0_movePhases rfl ⟨rfl, rfl⟩ ⟨Nat.le_of_ble_eq_true rfl, Nat.le_of_ble_eq_true rfl⟩ (Nat.le_of_ble_eq_true rfl) dX0_passSecond_21 ⟨Nat.le_of_ble_eq_true rfl, Nat.le_of_ble_eq_true rfl⟩) (fun u H locs hf Z => ?_)
  obtain ⟨a11, la12⟩ := u
  have Z : ig_Z D kk ad bs s H locs a11 la12 b lb lo := Z
  refine lv_aload_n F.1 F.2.1 dX0_passSecond_24 rfl (lv_at hl 0 rfl) ?_
  have hM := k_X0_addQueues l (D := D) (kk := kk) (ad := ad) (bs := bs) (a := a11) (la := la12) (b := b) (lb := lb) (lo := lo) hf
  refine ig_callv E Z (ig_runV (As := []) (rest := []) F E Z hl G_X0_69 hM (i := 23) (by decide) (ig_k_23 _ _ _ _ _ _) rfl rfl md_X0_addQueues rfl ⟨rfl, rfl⟩ ⟨Nat.le_of_ble_eq_true rfl, Nat.le_of_ble_eq_true rfl⟩ (Nat.le_of_ble_eq_true rfl) dX0_passSecond_25 ⟨Nat.le_of_ble_eq_true rfl, Nat.le_of_ble_eq_true rfl⟩) (fun u H locs hf Z => ?_)
  obtain ⟨a13, la14⟩ := u
  have Z : ig_Z D kk ad bs s H locs a13 la14 b lb lo := Z
  refine lv_aload_n F.1 F.2.1 dX0_passSecond_28 rfl (lv_at hl 0 rfl) ?_
  refine lv_dup F.1 F.2.1 dX0_passSecond_29 rfl ?_
  refine gf_X0_42 F E Z dX0_passSecond_30 ?_
  refine lv_iconst (v := 1) F.1 F.2.1 dX0_passSecond_33 (by decide) ?_
  refine lv_iadd F.1 F.2.1 dX0_passSecond_34 ?_
  refine pf_X0_42 F E Z dX0_passSecond_35 (fun H locs a15 ha15 Z => ?_)
  have hf := hf a15 ha15
  exact W.vret F.1 F.2.1 hr (fun t ht hW => ⟨⟨(a15, la14), rfl, hf, Z.wd E ht hW⟩, Z.fr ht⟩) Z.2.2.2 dX0_passSecond_38
set_option maxHeartbeats 4000000 in
set_option maxRecDepth 100000 in
theorem k_X1_colourIn (l : Launch) {D : va_G} {kk : Nat → ClassId} {ad : Nat → Nat} {bs : Nat} {a : ig_M} {la : Int64} {b : ig_M} {lb lo : Int64} (x0 : Int32) (x1 : Int32) {post : Int32 → Prop} (hf : wp_X1_colourIn x0 x1 post) : Met l yX1_colourIn (ig_ws yX1_colourIn cX1_colourIn 2 (some .int)) (k2_rm 0 0) (va_Pc [.int x0, .int x1] (ig_Wd D kk ad bs a la b lb lo)) (va_Qi (fun (r : Int32) (_ : Unit) => post r) (fun _ t => ig_Wd D kk ad bs a la b lb lo t) (ig_A bs)) 0 0 (ig_A bs) := by
  refine Met.ofW (cc := cX1_colourIn) (maxL := 2) (ret := (some .int)) (by decide) rfl ?_
  intro p e s m args below meth c s₁ B hml hv
  obtain ⟨rfl, E, hP⟩ := hv
  have hk := B.notSynchronized
  have hr := B.returns
  have F : CallFix p m c cX1_colourIn 2 s _ ig_all RX1 := ⟨B.exec, B.bytes, hml, findClass_of_methodNamed B.named, fun w hw => atoms_spec B.pre w (List.mem_cons_of_mem _ hw)⟩
  have Z : ig_Z D kk ad bs s s.heap [] a la b lb lo := ig_Z.rf hP
  have hl := lv_entry ([.int x0, .int x1]) (n := 2) (Nat.le_of_ble_eq_true rfl)
  rw [lg_entry_eq]
  generalize (lg_sl ([.int x0, .int x1]) ++ List.replicate (2 - (lg_sl ([.int x0, .int x1])).length) Slot.unset).toArray = ls at hl ⊢
  have hl : lv_has ls 2 [(0, .int x0), (1, .int x1)] := hl
  refine lv_iload_n F.1 F.2.1 dX1_colourIn_0 rfl (lv_at hl 0 rfl) ?_
  refine lv_iconst (v := 2) F.1 F.2.1 dX1_colourIn_1 (by decide) ?_
  refine lv_iload_n F.1 F.2.1 dX1_colourIn_2 rfl (lv_at hl 1 rfl) ?_
  refine lv_imul F.1 F.2.1 dX1_colourIn_3 ?_
  refine lv_ishr F.1 F.2.1 dX1_colourIn_4 ?_
  refine lv_iconst (v := 3) F.1 F.2.1 dX1_colourIn_5 (by decide) ?_
  refine lv_iand F.1 F.2.1 dX1_colourIn_6 ?_
  exact W.iret (v := (x0 >>> ((2 * x1) &&& 31)) &&& 3) F.1 F.2.1 hr (fun t ht hW => ⟨⟨_, (), rfl, hf, Z.wd E ht hW⟩, Z.fr ht⟩) Z.2.2.2 dX1_colourIn_7
set_option maxHeartbeats 4000000 in
set_option maxRecDepth 100000 in
theorem k_X1_shown (l : Launch) {D : va_G} {kk : Nat → ClassId} {ad : Nat → Nat} {bs : Nat} {a : ig_M} {la : Int64} {b : ig_M} {lb lo : Int64} (x1 : Int32) (x2 : Int32) {post : Int32 → Prop} (hf : wp_X1_shown a la x1 x2 post) : Met l yX1_shown (ig_ws yX1_shown cX1_shown 3 (some .int)) (k2_rm 1 22) (va_Pc [.ref (ad 21), .int x1, .int x2] (ig_Wd D kk ad bs a la b lb lo)) (va_Qi (fun (r : Int32) (_ : Unit) => post r) (fun _ t => ig_Wd D kk ad bs a la b lb lo t) (ig_A bs)) 0 0 (ig_A bs) := by
  refine Met.ofW (cc := cX1_shown) (maxL := 3) (ret := (some .int)) (by decide) rfl ?_
  intro p e s m args below meth c s₁ B hml hv
  obtain ⟨rfl, E, hP⟩ := hv
  have hk := B.notSynchronized
  have hr := B.returns
  have F : CallFix p m c cX1_shown 3 s _ ig_all RX1 := ⟨B.exec, B.bytes, hml, findClass_of_methodNamed B.named, fun w hw => atoms_spec B.pre w (List.mem_cons_of_mem _ hw)⟩
  have Z : ig_Z D kk ad bs s s.heap [] a la b lb lo := ig_Z.rf hP
  have hl := lv_entry ([.ref (ad 21), .int x1, .int x2]) (n := 3) (Nat.le_of_ble_eq_true rfl)
  rw [lg_entry_eq]
  generalize (lg_sl ([.ref (ad 21), .int x1, .int x2]) ++ List.replicate (3 - (lg_sl ([.ref (ad 21), .int x1, .int x2])).length) Slot.unset).toArray = ls at hl ⊢
  have hl : lv_has ls 3 [(0, .ref (ad 21)), (1, .int x1), (2, .int x2)] := hl
  refine lv_iload_n F.1 F.2.1 dX1_shown_0 rfl (lv_at hl 2 rfl) ?_
  refine lv_iconst (v := 0) F.1 F.2.1 dX1_shown_1 (by decide) ?_
  refine lv_aload_n F.1 F.2.1 dX1_shown_2 rfl (lv_at hl 0 rfl) ?_
  refine gf_X1_11 F E Z dX1_shown_3 ?_
  refine ig_alen (v := 5000) F E Z (by decide) (ig_k_22 _ _ _ _ _ _) rfl dX1_shown_6 ?_
  refine lv_iconst (v := 1) F.1 F.2.1 dX1_shown_7 (by decide) ?_
  refine lv_isub F.1 F.2.1 dX1_shown_8 ?_
  have hM := k_X5_isWithin l (D := D) (kk := kk) (ad := ad) (bs := bs) (a := a) (la := la) (b := b) (lb := lb) (lo := lo) x2 0 (5000 - 1) hf
  refine ig_calli E Z (ig_runSN (As := [.int x2, .int 0, .int (5000 - 1)]) (rest := []) F E Z hl (host := "Intergreen") (by decide +kernel) G_X1_15 G_X1_15_i G_X1_15_s hM md_X5_isWithin rfl ⟨rfl, rfl⟩ ⟨Nat.le_of_ble_eq_true rfl, Nat.le_of_ble_eq_true rfl⟩ (Nat.le_of_ble_eq_true rfl) dX1_shown_9 ⟨Nat.le_of_ble_eq_true rfl, Nat.le_of_ble_eq_true rfl⟩) (fun r1 u H locs hf Z => ?_)
  refine lv_if_eq (tgt := 28) F.1 F.2.1 dX1_shown_12 (by decide) (fun c_2 => ?_) (fun c_2 => ?_)
  · have hf := hf.1 c_2
    refine lv_iconst (v := 3) F.1 F.2.1 dX1_shown_28 (by decide) ?_
    exact W.iret (v := 3) F.1 F.2.1 hr (fun t ht hW => ⟨⟨_, (), rfl, hf, Z.wd E ht hW⟩, Z.fr ht⟩) Z.2.2.2 dX1_shown_29
  · have hf := hf.2 c_2
    refine lv_aload_n F.1 F.2.1 dX1_shown_15 rfl (lv_at hl 0 rfl) ?_
    refine gf_X1_11 F E Z dX1_shown_16 ?_
    refine lv_iload_n F.1 F.2.1 dX1_shown_19 rfl (lv_at hl 2 rfl) ?_
    have hv3 := hf.1
    have hf := hf.2
    refine ig_iald (f := a 22) F E Z (by decide) (by rw [ig_mm_a _ _ (by decide)]; exact (ig_k_22 _ _ _ _ _ _)) hv3 dX1_shown_20 ?_
    refine lv_iload_n F.1 F.2.1 dX1_shown_21 rfl (lv_at hl 1 rfl) ?_
    have hM := k_X1_colourIn l (D := D) (kk := kk) (ad := ad) (bs := bs) (a := a) (la := la) (b := b) (lb := lb) (lo := lo) (a 22 x2.toNatClampNeg) x1 hf
    refine ig_calli E Z (ig_runS (As := [.int (a 22 x2.toNatClampNeg), .int x1]) (rest := []) F E Z hl G_X1_20 hM rfl md_X1_colourIn rfl ⟨rfl, rfl⟩ ⟨Nat.le_of_ble_eq_true rfl, Nat.le_of_ble_eq_true rfl⟩ (Nat.le_of_ble_eq_true rfl) dX1_shown_22 ⟨Nat.le_of_ble_eq_true rfl, Nat.le_of_ble_eq_true rfl⟩) (fun r4 u H locs hf Z => ?_)
    refine lv_goto (tgt := 29) F.1 F.2.1 dX1_shown_25 (by decide) ?_
    exact W.iret (v := r4) F.1 F.2.1 hr (fun t ht hW => ⟨⟨_, (), rfl, hf, Z.wd E ht hW⟩, Z.fr ht⟩) Z.2.2.2 dX1_shown_29
set_option maxHeartbeats 4000000 in
set_option maxRecDepth 100000 in
theorem k_X2_tell (l : Launch) {D : va_G} {kk : Nat → ClassId} {ad : Nat → Nat} {bs : Nat} {a : ig_M} {la : Int64} {b : ig_M} {lb lo : Int64} (k0 : Nat) (x1 : Int32) (hk0 : k0 < 8) {post : Int32 → Prop} (hf : wp_X2_tell a la k0 x1 post) : Met l yX2_tell (ig_ws yX2_tell cX2_tell 2 (some .int)) (k2_rm 1 20) (va_Pc [.ref (ad (3 + k0)), .int x1] (ig_Wd D kk ad bs a la b lb lo)) (va_Qi (fun (r : Int32) (_ : Unit) => post r) (fun _ t => ig_Wd D kk ad bs a la b lb lo t) (ig_A bs)) 0 0 (ig_A bs) := by
  refine Met.ofW (cc := cX2_tell) (maxL := 2) (ret := (some .int)) (by decide) rfl ?_
  intro p e s m args below meth c s₁ B hml hv
  obtain ⟨rfl, E, hP⟩ := hv
  have hk := B.notSynchronized
  have hr := B.returns
  have F : CallFix p m c cX2_tell 2 s _ ig_all RX2 := ⟨B.exec, B.bytes, hml, findClass_of_methodNamed B.named, fun w hw => atoms_spec B.pre w (List.mem_cons_of_mem _ hw)⟩
  have Z : ig_Z D kk ad bs s s.heap [] a la b lb lo := ig_Z.rf hP
  have hl := lv_entry ([.ref (ad (3 + k0)), .int x1]) (n := 2) (Nat.le_of_ble_eq_true rfl)
  rw [lg_entry_eq]
  generalize (lg_sl ([.ref (ad (3 + k0)), .int x1]) ++ List.replicate (2 - (lg_sl ([.ref (ad (3 + k0)), .int x1])).length) Slot.unset).toArray = ls at hl ⊢
  have hl : lv_has ls 2 [(0, .ref (ad (3 + k0))), (1, .int x1)] := hl
  refine lv_iload_n F.1 F.2.1 dX2_tell_0 rfl (lv_at hl 1 rfl) ?_
  by_cases c_1 : x1 = 0
  · have hf := hf.1 c_1
    refine lv_tableIn (tgt := 40) F.1 F.2.1 dX2_tell_1 (by rw [c_1]; decide) (by rw [c_1]; decide) (by rw [c_1]; rfl) (by decide) ?_
    refine lv_aload_n F.1 F.2.1 dX2_tell_40 rfl (lv_at hl 0 rfl) ?_
    refine gf_X2_9 F E Z hk0 dX2_tell_41 ?_
    exact W.iret (v := a (3 + k0) 3) F.1 F.2.1 hr (fun t ht hW => ⟨⟨_, (), rfl, hf, Z.wd E ht hW⟩, Z.fr ht⟩) Z.2.2.2 dX2_tell_44
  have hf := hf.2 c_1
  by_cases c_2 : x1 = 1
  · have hf := hf.1 c_2
    refine lv_tableIn (tgt := 45) F.1 F.2.1 dX2_tell_1 (by rw [c_2]; decide) (by rw [c_2]; decide) (by rw [c_2]; rfl) (by decide) ?_
    refine lv_aload_n F.1 F.2.1 dX2_tell_45 rfl (lv_at hl 0 rfl) ?_
    refine gf_X2_9 F E Z hk0 dX2_tell_46 ?_
    refine lv_iconst (v := 1) F.1 F.2.1 dX2_tell_49 (by decide) ?_
    refine lv_icmp_ne (tgt := 60) F.1 F.2.1 dX2_tell_50 (by decide) (fun c_3 => ?_) (fun c_3 => ?_)
    · have hf := hf.1 c_3
      refine lv_iconst (v := 0) F.1 F.2.1 dX2_tell_60 (by decide) ?_
      exact W.iret (v := 0) F.1 F.2.1 hr (fun t ht hW => ⟨⟨_, (), rfl, hf, Z.wd E ht hW⟩, Z.fr ht⟩) Z.2.2.2 dX2_tell_61
    · have hf := hf.2 c_3
      refine lv_aload_n F.1 F.2.1 dX2_tell_53 rfl (lv_at hl 0 rfl) ?_
      refine gf_X2_32 F E Z hk0 dX2_tell_54 ?_
      refine lv_goto (tgt := 61) F.1 F.2.1 dX2_tell_57 (by decide) ?_
      exact W.iret (v := a (3 + k0) 4) F.1 F.2.1 hr (fun t ht hW => ⟨⟨_, (), rfl, hf, Z.wd E ht hW⟩, Z.fr ht⟩) Z.2.2.2 dX2_tell_61
  have hf := hf.2 c_2
  by_cases c_4 : x1 = 2
  · have hf := hf.1 c_4
    refine lv_tableIn (tgt := 62) F.1 F.2.1 dX2_tell_1 (by rw [c_4]; decide) (by rw [c_4]; decide) (by rw [c_4]; rfl) (by decide) ?_
    refine lv_aload_n F.1 F.2.1 dX2_tell_62 rfl (lv_at hl 0 rfl) ?_
    refine gf_X2_9 F E Z hk0 dX2_tell_63 ?_
    refine lv_iconst (v := 1) F.1 F.2.1 dX2_tell_66 (by decide) ?_
    refine lv_icmp_ne (tgt := 77) F.1 F.2.1 dX2_tell_67 (by decide) (fun c_5 => ?_) (fun c_5 => ?_)
    · have hf := hf.1 c_5
      refine lv_iconst (v := 0) F.1 F.2.1 dX2_tell_77 (by decide) ?_
      exact W.iret (v := 0) F.1 F.2.1 hr (fun t ht hW => ⟨⟨_, (), rfl, hf, Z.wd E ht hW⟩, Z.fr ht⟩) Z.2.2.2 dX2_tell_78
    · have hf := hf.2 c_5
      refine lv_aload_n F.1 F.2.1 dX2_tell_70 rfl (lv_at hl 0 rfl) ?_
      refine gf_X2_38 F E Z hk0 dX2_tell_71 ?_
      refine lv_goto (tgt := 78) F.1 F.2.1 dX2_tell_74 (by decide) ?_
      exact W.iret (v := a (3 + k0) 5) F.1 F.2.1 hr (fun t ht hW => ⟨⟨_, (), rfl, hf, Z.wd E ht hW⟩, Z.fr ht⟩) Z.2.2.2 dX2_tell_78
  have hf := hf.2 c_4
  by_cases c_6 : x1 = 3
  · have hf := hf.1 c_6
    refine lv_tableIn (tgt := 79) F.1 F.2.1 dX2_tell_1 (by rw [c_6]; decide) (by rw [c_6]; decide) (by rw [c_6]; rfl) (by decide) ?_
    refine lv_aload_n F.1 F.2.1 dX2_tell_79 rfl (lv_at hl 0 rfl) ?_
    refine gf_X2_22 F E Z hk0 dX2_tell_80 ?_
    exact W.iret (v := a (3 + k0) 6) F.1 F.2.1 hr (fun t ht hW => ⟨⟨_, (), rfl, hf, Z.wd E ht hW⟩, Z.fr ht⟩) Z.2.2.2 dX2_tell_83
  have hf := hf.2 c_6
  by_cases c_7 : x1 = 4
  · have hf := hf.1 c_7
    refine lv_tableIn (tgt := 84) F.1 F.2.1 dX2_tell_1 (by rw [c_7]; decide) (by rw [c_7]; decide) (by rw [c_7]; rfl) (by decide) ?_
    refine lv_aload_n F.1 F.2.1 dX2_tell_84 rfl (lv_at hl 0 rfl) ?_
    refine gf_X2_47 F E Z hk0 dX2_tell_85 ?_
    exact W.iret (v := a (3 + k0) 7) F.1 F.2.1 hr (fun t ht hW => ⟨⟨_, (), rfl, hf, Z.wd E ht hW⟩, Z.fr ht⟩) Z.2.2.2 dX2_tell_88
  have hf := hf.2 c_7
  by_cases c_8 : x1 = 5
  · have hf := hf.1 c_8
    refine lv_tableIn (tgt := 89) F.1 F.2.1 dX2_tell_1 (by rw [c_8]; decide) (by rw [c_8]; decide) (by rw [c_8]; rfl) (by decide) ?_
    refine lv_aload_n F.1 F.2.1 dX2_tell_89 rfl (lv_at hl 0 rfl) ?_
    refine gf_X2_62 F E Z hk0 dX2_tell_90 ?_
    exact W.iret (v := a (3 + k0) 8) F.1 F.2.1 hr (fun t ht hW => ⟨⟨_, (), rfl, hf, Z.wd E ht hW⟩, Z.fr ht⟩) Z.2.2.2 dX2_tell_93
  have hf := hf.2 c_8
  refine lv_tableOut (tgt := 94) F.1 F.2.1 dX2_tell_1 (ig_swout x1 0 5 (by decide) (by decide) (fun k h1 h2 => ?_)) (by decide) ?_
  · rcases (show k = 0 ∨ k = 1 ∨ k = 2 ∨ k = 3 ∨ k = 4 ∨ k = 5 by omega) with rfl | rfl | rfl | rfl | rfl | rfl
    · exact c_1
    · exact c_2
    · exact c_4
    · exact c_6
    · exact c_7
    · exact c_8
  refine lv_aload_n F.1 F.2.1 dX2_tell_94 rfl (lv_at hl 0 rfl) ?_
  have hM := k_X2_isDemanded l (D := D) (kk := kk) (ad := ad) (bs := bs) (a := a) (la := la) (b := b) (lb := lb) (lo := lo) k0 hk0 hf
  refine ig_calli E Z (ig_runV (As := []) (rest := []) F E Z hl G_X2_58 hM (i := 3 + k0) (by have := hk0; omega) (ig_c_ph _ _ _ _ _ _ hk0) rfl rfl md_X2_isDemanded rfl ⟨rfl, rfl⟩ ⟨Nat.le_of_ble_eq_true rfl, Nat.le_of_ble_eq_true rfl⟩ (Nat.le_of_ble_eq_true rfl) dX2_tell_95 ⟨Nat.le_of_ble_eq_true rfl, Nat.le_of_ble_eq_true rfl⟩) (fun r9 u H locs hf Z => ?_)
  refine lv_if_eq (tgt := 105) F.1 F.2.1 dX2_tell_98 (by decide) (fun c_10 => ?_) (fun c_10 => ?_)
  · have hf := hf.1 c_10
    refine lv_iconst (v := 0) F.1 F.2.1 dX2_tell_105 (by decide) ?_
    exact W.iret (v := 0) F.1 F.2.1 hr (fun t ht hW => ⟨⟨_, (), rfl, hf, Z.wd E ht hW⟩, Z.fr ht⟩) Z.2.2.2 dX2_tell_106
  · have hf := hf.2 c_10
    refine lv_iconst (v := 1) F.1 F.2.1 dX2_tell_101 (by decide) ?_
    refine lv_goto (tgt := 106) F.1 F.2.1 dX2_tell_102 (by decide) ?_
    exact W.iret (v := 1) F.1 F.2.1 hr (fun t ht hW => ⟨⟨_, (), rfl, hf, Z.wd E ht hW⟩, Z.fr ht⟩) Z.2.2.2 dX2_tell_106
set_option maxHeartbeats 4000000 in
set_option maxRecDepth 100000 in
theorem k_X0_tell (l : Launch) {D : va_G} {kk : Nat → ClassId} {ad : Nat → Nat} {bs : Nat} {a : ig_M} {la : Int64} {b : ig_M} {lb lo : Int64} (x1 : Int32) {post : Int32 → Prop} (hf : wp_X0_tell a la x1 post) : Met l yX0_tell (ig_ws yX0_tell cX0_tell 2 (some .int)) (k2_rm 0 0) (va_Pc [.ref (ad 23), .int x1] (ig_Wd D kk ad bs a la b lb lo)) (va_Qi (fun (r : Int32) (_ : Unit) => post r) (fun _ t => ig_Wd D kk ad bs a la b lb lo t) (ig_A bs)) 0 0 (ig_A bs) := by
  refine Met.ofW (cc := cX0_tell) (maxL := 2) (ret := (some .int)) (by decide) rfl ?_
  intro p e s m args below meth c s₁ B hml hv
  obtain ⟨rfl, E, hP⟩ := hv
  have hk := B.notSynchronized
  have hr := B.returns
  have F : CallFix p m c cX0_tell 2 s _ ig_all RX0 := ⟨B.exec, B.bytes, hml, findClass_of_methodNamed B.named, fun w hw => atoms_spec B.pre w (List.mem_cons_of_mem _ hw)⟩
  have Z : ig_Z D kk ad bs s s.heap [] a la b lb lo := ig_Z.rf hP
  have hl := lv_entry ([.ref (ad 23), .int x1]) (n := 2) (Nat.le_of_ble_eq_true rfl)
  rw [lg_entry_eq]
  generalize (lg_sl ([.ref (ad 23), .int x1]) ++ List.replicate (2 - (lg_sl ([.ref (ad 23), .int x1])).length) Slot.unset).toArray = ls at hl ⊢
  have hl : lv_has ls 2 [(0, .ref (ad 23)), (1, .int x1)] := hl
  refine lv_iload_n F.1 F.2.1 dX0_tell_0 rfl (lv_at hl 1 rfl) ?_
  by_cases c_1 : x1 = 0
  · have hf := hf.1 c_1
    refine lv_tableIn (tgt := 32) F.1 F.2.1 dX0_tell_1 (by rw [c_1]; decide) (by rw [c_1]; decide) (by rw [c_1]; rfl) (by decide) ?_
    refine lv_aload_n F.1 F.2.1 dX0_tell_32 rfl (lv_at hl 0 rfl) ?_
    refine gf_X0_9 F E Z dX0_tell_33 ?_
    exact W.iret (v := a 23 2) F.1 F.2.1 hr (fun t ht hW => ⟨⟨_, (), rfl, hf, Z.wd E ht hW⟩, Z.fr ht⟩) Z.2.2.2 dX0_tell_36
  have hf := hf.2 c_1
  by_cases c_2 : x1 = 1
  · have hf := hf.1 c_2
    refine lv_tableIn (tgt := 37) F.1 F.2.1 dX0_tell_1 (by rw [c_2]; decide) (by rw [c_2]; decide) (by rw [c_2]; rfl) (by decide) ?_
    refine lv_aload_n F.1 F.2.1 dX0_tell_37 rfl (lv_at hl 0 rfl) ?_
    refine gf_X0_15 F E Z dX0_tell_38 ?_
    exact W.iret (v := a 23 3) F.1 F.2.1 hr (fun t ht hW => ⟨⟨_, (), rfl, hf, Z.wd E ht hW⟩, Z.fr ht⟩) Z.2.2.2 dX0_tell_41
  have hf := hf.2 c_2
  by_cases c_3 : x1 = 2
  · have hf := hf.1 c_3
    refine lv_tableIn (tgt := 42) F.1 F.2.1 dX0_tell_1 (by rw [c_3]; decide) (by rw [c_3]; decide) (by rw [c_3]; rfl) (by decide) ?_
    refine lv_aload_n F.1 F.2.1 dX0_tell_42 rfl (lv_at hl 0 rfl) ?_
    refine gf_X0_42 F E Z dX0_tell_43 ?_
    exact W.iret (v := a 23 6) F.1 F.2.1 hr (fun t ht hW => ⟨⟨_, (), rfl, hf, Z.wd E ht hW⟩, Z.fr ht⟩) Z.2.2.2 dX0_tell_46
  have hf := hf.2 c_3
  by_cases c_4 : x1 = 3
  · have hf := hf.1 c_4
    refine lv_tableIn (tgt := 47) F.1 F.2.1 dX0_tell_1 (by rw [c_4]; decide) (by rw [c_4]; decide) (by rw [c_4]; rfl) (by decide) ?_
    refine lv_aload_n F.1 F.2.1 dX0_tell_47 rfl (lv_at hl 0 rfl) ?_
    refine gf_X0_18 F E Z dX0_tell_48 ?_
    exact W.iret (v := a 23 5) F.1 F.2.1 hr (fun t ht hW => ⟨⟨_, (), rfl, hf, Z.wd E ht hW⟩, Z.fr ht⟩) Z.2.2.2 dX0_tell_51
  have hf := hf.2 c_4
  refine lv_tableOut (tgt := 52) F.1 F.2.1 dX0_tell_1 (ig_swout x1 0 3 (by decide) (by decide) (fun k h1 h2 => ?_)) (by decide) ?_
  · rcases (show k = 0 ∨ k = 1 ∨ k = 2 ∨ k = 3 by omega) with rfl | rfl | rfl | rfl
    · exact c_1
    · exact c_2
    · exact c_3
    · exact c_4
  refine lv_aload_n F.1 F.2.1 dX0_tell_52 rfl (lv_at hl 0 rfl) ?_
  refine gf_X0_154 F E Z dX0_tell_53 ?_
  exact W.iret (v := a 23 7) F.1 F.2.1 hr (fun t ht hW => ⟨⟨_, (), rfl, hf, Z.wd E ht hW⟩, Z.fr ht⟩) Z.2.2.2 dX0_tell_56
set_option maxHeartbeats 4000000 in
set_option maxRecDepth 100000 in
theorem k_X5_delay (l : Launch) {D : va_G} {kk : Nat → ClassId} {ad : Nat → Nat} {bs : Nat} {a : ig_M} {la : Int64} {b : ig_M} {lb lo : Int64} {post : Int64 → Prop} (hf : wp_X5_delay a la post) : Met l yX5_delay (ig_ws yX5_delay cX5_delay 1 (some .long)) (k2_rm 0 0) (va_Pc [.ref (ad 0)] (ig_Wd D kk ad bs a la b lb lo)) (va_Ql (fun (r : Int64) (_ : Unit) => post r) (fun _ t => ig_Wd D kk ad bs a la b lb lo t) (ig_A bs)) 0 0 (ig_A bs) := by
  refine Met.ofW (cc := cX5_delay) (maxL := 1) (ret := (some .long)) (by decide) rfl ?_
  intro p e s m args below meth c s₁ B hml hv
  obtain ⟨rfl, E, hP⟩ := hv
  have hk := B.notSynchronized
  have hr := B.returns
  have F : CallFix p m c cX5_delay 1 s _ ig_all RX5 := ⟨B.exec, B.bytes, hml, findClass_of_methodNamed B.named, fun w hw => atoms_spec B.pre w (List.mem_cons_of_mem _ hw)⟩
  have Z : ig_Z D kk ad bs s s.heap [] a la b lb lo := ig_Z.rf hP
  have hl := lv_entry ([.ref (ad 0)]) (n := 1) (Nat.le_of_ble_eq_true rfl)
  rw [lg_entry_eq]
  generalize (lg_sl ([.ref (ad 0)]) ++ List.replicate (1 - (lg_sl ([.ref (ad 0)])).length) Slot.unset).toArray = ls at hl ⊢
  have hl : lv_has ls 1 [(0, .ref (ad 0))] := hl
  refine lv_aload_n F.1 F.2.1 dX5_delay_0 rfl (lv_at hl 0 rfl) ?_
  refine gf_X5_28 F E Z dX5_delay_1 ?_
  refine gf_X5_183 F E Z dX5_delay_4 ?_
  exact W.lret F.1 F.2.1 hr (fun t ht hW => ⟨⟨la, (), rfl, hf, Z.wd E ht hW⟩, Z.fr ht⟩) Z.2.2.2 dX5_delay_7
set_option maxHeartbeats 4000000 in
set_option maxRecDepth 100000 in
theorem wm_X1_leastBetween_97 (F : CallFix p m c cX1_leastBetween 11 s args ig_all RX1) (E : ig_E D kk ad bs s) (hr : meth.sig.returnType = (some .int)) (hk : meth.locks = false) (k_99 : Int32 → Int32 → Int32 → Int32 → Int32 → Int32 → Int32 → Int32 → Prop) (post : Int32 → Prop) (h_99 : ∀ (x1 : Int32) (x2 : Int32) (x3 : Int32) (x4 : Int32) (x5 : Int32) (x7 : Int32) (x8 : Int32) (x9 : Int32) (H : Heap) (locs : List Loc) (ls : Array Slot), k_99 x1 x2 x3 x4 x5 x7 x8 x9 → ig_Z D kk ad bs s H locs a la b lb lo → lv_has ls 11 [(0, .ref (ad 21)), (1, .int x1), (2, .int x2), (3, .int x3), (4, .int x4), (5, .int x5), (7, .int x7), (8, .int x8), (9, .int x9)] → W p l e (k2_rm 1 21) s m args below meth c H locs 0 0 (MQ below (va_Qi (fun (r : Int32) (_ : Unit) => post r) (fun _ t => ig_Wd D kk ad bs a la b lb lo t) (ig_A bs)) args s 0 0 (ig_A bs)) (F0 m 99 ls [])) :
    ∀ (x1 : Int32) (x2 : Int32) (x3 : Int32) (x5 : Int32) (x7 : Int32) (x8 : Int32) (x9 : Int32) (t0 : Int32) (H : Heap) (locs : List Loc) (ls : Array Slot), wp_X1_leastBetween_97 a la k_99 post x1 x2 x3 x5 x7 x8 x9 t0 → ig_Z D kk ad bs s H locs a la b lb lo → lv_has ls 11 [(0, .ref (ad 21)), (1, .int x1), (2, .int x2), (3, .int x3), (5, .int x5), (7, .int x7), (8, .int x8), (9, .int x9)] → W p l e (k2_rm 1 21) s m args below meth c H locs 0 0 (MQ below (va_Qi (fun (r : Int32) (_ : Unit) => post r) (fun _ t => ig_Wd D kk ad bs a la b lb lo t) (ig_A bs)) args s 0 0 (ig_A bs)) (F0 m 97 ls [.int t0]) := by
  intro x1 x2 x3 x5 x7 x8 x9 t0 H locs ls hf Z hl
  refine lv_istore (lv' := [(4, .int t0), (0, .ref (ad 21)), (1, .int x1), (2, .int x2), (3, .int x3), (5, .int x5), (7, .int x7), (8, .int x8), (9, .int x9)]) F.1 F.2.1 dX1_leastBetween_97 hl (by decide) rfl (fun ls hl => ?_)
  exact h_99 x1 x2 x3 t0 x5 x7 x8 x9 _ _ _ hf Z (lv_sub hl [1, 2, 3, 4, 0, 5, 6, 7, 8] rfl)
set_option maxHeartbeats 4000000 in
set_option maxRecDepth 100000 in
theorem wm_X1_leastBetween_99 (F : CallFix p m c cX1_leastBetween 11 s args ig_all RX1) (E : ig_E D kk ad bs s) (hr : meth.sig.returnType = (some .int)) (hk : meth.locks = false) (k_12 : Int32 → Int32 → Int32 → Int32 → Int32 → Int32 → Int32 → Prop) (post : Int32 → Prop) (h_12 : ∀ (x1 : Int32) (x2 : Int32) (x3 : Int32) (x4 : Int32) (x5 : Int32) (x6 : Int32) (x7 : Int32) (H : Heap) (locs : List Loc) (ls : Array Slot), k_12 x1 x2 x3 x4 x5 x6 x7 → ig_Z D kk ad bs s H locs a la b lb lo → lv_has ls 11 [(0, .ref (ad 21)), (1, .int x1), (2, .int x2), (3, .int x3), (4, .int x4), (5, .int x5), (6, .int x6), (7, .int x7)] → W p l e (k2_rm 1 21) s m args below meth c H locs 0 0 (MQ below (va_Qi (fun (r : Int32) (_ : Unit) => post r) (fun _ t => ig_Wd D kk ad bs a la b lb lo t) (ig_A bs)) args s 0 0 (ig_A bs)) (F0 m 12 ls [])) :
    ∀ (x1 : Int32) (x2 : Int32) (x3 : Int32) (x4 : Int32) (x5 : Int32) (x7 : Int32) (x8 : Int32) (x9 : Int32) (H : Heap) (locs : List Loc) (ls : Array Slot), wp_X1_leastBetween_99 a la k_12 post x1 x2 x3 x4 x5 x7 x8 x9 → ig_Z D kk ad bs s H locs a la b lb lo → lv_has ls 11 [(0, .ref (ad 21)), (1, .int x1), (2, .int x2), (3, .int x3), (4, .int x4), (5, .int x5), (7, .int x7), (8, .int x8), (9, .int x9)] → W p l e (k2_rm 1 21) s m args below meth c H locs 0 0 (MQ below (va_Qi (fun (r : Int32) (_ : Unit) => post r) (fun _ t => ig_Wd D kk ad bs a la b lb lo t) (ig_A bs)) args s 0 0 (ig_A bs)) (F0 m 99 ls []) := by
  intro x1 x2 x3 x4 x5 x7 x8 x9 H locs ls hf Z hl
  refine lv_iload F.1 F.2.1 dX1_leastBetween_99 (lv_at hl 7 rfl) ?_
  refine lv_iload_n F.1 F.2.1 dX1_leastBetween_101 rfl (lv_at hl 1 rfl) ?_
  have hM := k_X1_colourIn l (D := D) (kk := kk) (ad := ad) (bs := bs) (a := a) (la := la) (b := b) (lb := lb) (lo := lo) x8 x1 hf
  refine ig_calli E Z (ig_runS (As := [.int x8, .int x1]) (rest := []) F E Z hl G_X1_20 hM rfl md_X1_colourIn rfl ⟨rfl, rfl⟩ ⟨Nat.le_of_ble_eq_true rfl, Nat.le_of_ble_eq_true rfl⟩ (Nat.le_of_ble_eq_true rfl) dX1_leastBetween_102 ⟨Nat.le_of_ble_eq_true rfl, Nat.le_of_ble_eq_true rfl⟩) (fun r10 u H locs hf Z => ?_)
  refine lv_iconst (v := 1) F.1 F.2.1 dX1_leastBetween_105 (by decide) ?_
  refine lv_icmp_ne (tgt := 113) F.1 F.2.1 dX1_leastBetween_106 (by decide) (fun c_11 => ?_) (fun c_11 => ?_)
  · have hf := hf.1 c_11
    refine lv_iload F.1 F.2.1 dX1_leastBetween_113 (lv_at hl 8 rfl) ?_
    refine lv_istore (lv' := [(6, .int x9), (0, .ref (ad 21)), (1, .int x1), (2, .int x2), (3, .int x3), (4, .int x4), (5, .int x5), (7, .int x7), (8, .int x8), (9, .int x9)]) F.1 F.2.1 dX1_leastBetween_115 hl (by decide) rfl (fun ls hl => ?_)
    refine lv_iinc (v := x7 + 1) (lv' := [(7, .int (x7 + 1)), (6, .int x9), (0, .ref (ad 21)), (1, .int x1), (2, .int x2), (3, .int x3), (4, .int x4), (5, .int x5), (8, .int x8), (9, .int x9)]) F.1 F.2.1 dX1_leastBetween_117 hl (k := 7) rfl (by rfl) (by decide) rfl (fun ls hl => ?_)
    refine lv_goto (tgt := 12) F.1 F.2.1 dX1_leastBetween_120 (by decide) ?_
    exact h_12 x1 x2 x3 x4 x5 x9 (x7 + 1) _ _ _ hf Z (lv_sub hl [2, 3, 4, 5, 6, 7, 1, 0] rfl)
  · have hf := hf.2 c_11
    refine lv_iload F.1 F.2.1 dX1_leastBetween_109 (lv_at hl 6 rfl) ?_
    refine lv_istore (lv' := [(5, .int x7), (0, .ref (ad 21)), (1, .int x1), (2, .int x2), (3, .int x3), (4, .int x4), (7, .int x7), (8, .int x8), (9, .int x9)]) F.1 F.2.1 dX1_leastBetween_111 hl (by decide) rfl (fun ls hl => ?_)
    refine lv_iload F.1 F.2.1 dX1_leastBetween_113 (lv_at hl 8 rfl) ?_
    refine lv_istore (lv' := [(6, .int x9), (5, .int x7), (0, .ref (ad 21)), (1, .int x1), (2, .int x2), (3, .int x3), (4, .int x4), (7, .int x7), (8, .int x8), (9, .int x9)]) F.1 F.2.1 dX1_leastBetween_115 hl (by decide) rfl (fun ls hl => ?_)
    refine lv_iinc (v := x7 + 1) (lv' := [(7, .int (x7 + 1)), (6, .int x9), (5, .int x7), (0, .ref (ad 21)), (1, .int x1), (2, .int x2), (3, .int x3), (4, .int x4), (8, .int x8), (9, .int x9)]) F.1 F.2.1 dX1_leastBetween_117 hl (k := 7) rfl (by rfl) (by decide) rfl (fun ls hl => ?_)
    refine lv_goto (tgt := 12) F.1 F.2.1 dX1_leastBetween_120 (by decide) ?_
    exact h_12 x1 x2 x3 x4 x7 x9 (x7 + 1) _ _ _ hf Z (lv_sub hl [3, 4, 5, 6, 7, 2, 1, 0] rfl)
set_option maxHeartbeats 4000000 in
set_option maxRecDepth 100000 in
theorem wm_X1_leastBetween_52 (F : CallFix p m c cX1_leastBetween 11 s args ig_all RX1) (E : ig_E D kk ad bs s) (hr : meth.sig.returnType = (some .int)) (hk : meth.locks = false) (k_12 : Int32 → Int32 → Int32 → Int32 → Int32 → Int32 → Int32 → Prop) (post : Int32 → Prop) (h_12 : ∀ (x1 : Int32) (x2 : Int32) (x3 : Int32) (x4 : Int32) (x5 : Int32) (x6 : Int32) (x7 : Int32) (H : Heap) (locs : List Loc) (ls : Array Slot), k_12 x1 x2 x3 x4 x5 x6 x7 → ig_Z D kk ad bs s H locs a la b lb lo → lv_has ls 11 [(0, .ref (ad 21)), (1, .int x1), (2, .int x2), (3, .int x3), (4, .int x4), (5, .int x5), (6, .int x6), (7, .int x7)] → W p l e (k2_rm 1 21) s m args below meth c H locs 0 0 (MQ below (va_Qi (fun (r : Int32) (_ : Unit) => post r) (fun _ t => ig_Wd D kk ad bs a la b lb lo t) (ig_A bs)) args s 0 0 (ig_A bs)) (F0 m 12 ls [])) :
    ∀ (x1 : Int32) (x2 : Int32) (x3 : Int32) (x4 : Int32) (x5 : Int32) (x6 : Int32) (x7 : Int32) (x8 : Int32) (t0 : Int32) (H : Heap) (locs : List Loc) (ls : Array Slot), wp_X1_leastBetween_52 a la k_12 post x1 x2 x3 x4 x5 x6 x7 x8 t0 → ig_Z D kk ad bs s H locs a la b lb lo → lv_has ls 11 [(0, .ref (ad 21)), (1, .int x1), (2, .int x2), (3, .int x3), (4, .int x4), (5, .int x5), (6, .int x6), (7, .int x7), (8, .int x8)] → W p l e (k2_rm 1 21) s m args below meth c H locs 0 0 (MQ below (va_Qi (fun (r : Int32) (_ : Unit) => post r) (fun _ t => ig_Wd D kk ad bs a la b lb lo t) (ig_A bs)) args s 0 0 (ig_A bs)) (F0 m 52 ls [.int t0]) := by
  intro x1 x2 x3 x4 x5 x6 x7 x8 t0 H locs ls hf Z hl
  refine lv_istore (lv' := [(9, .int t0), (0, .ref (ad 21)), (1, .int x1), (2, .int x2), (3, .int x3), (4, .int x4), (5, .int x5), (6, .int x6), (7, .int x7), (8, .int x8)]) F.1 F.2.1 dX1_leastBetween_52 hl (by decide) rfl (fun ls hl => ?_)
  refine lv_iload F.1 F.2.1 dX1_leastBetween_54 (lv_at hl 0 rfl) ?_
  refine lv_if_eq (tgt := 99) F.1 F.2.1 dX1_leastBetween_56 (by decide) (fun c_6 => ?_) (fun c_6 => ?_)
  · have hf := hf.1 c_6
    exact wm_X1_leastBetween_99 F E hr hk k_12 post h_12 x1 x2 x3 x4 x5 x7 x8 t0 _ _ _ hf Z (lv_sub hl [1, 2, 3, 4, 5, 6, 8, 9, 0] rfl)
  · have hf := hf.2 c_6
    refine lv_iload F.1 F.2.1 dX1_leastBetween_59 (lv_at hl 7 rfl) ?_
    refine lv_if_ne (tgt := 99) F.1 F.2.1 dX1_leastBetween_61 (by decide) (fun c_7 => ?_) (fun c_7 => ?_)
    · have hf := hf.1 c_7
      exact wm_X1_leastBetween_99 F E hr hk k_12 post h_12 x1 x2 x3 x4 x5 x7 x8 t0 _ _ _ hf Z (lv_sub hl [1, 2, 3, 4, 5, 6, 8, 9, 0] rfl)
    · have hf := hf.2 c_7
      refine lv_iload F.1 F.2.1 dX1_leastBetween_64 (lv_at hl 6 rfl) ?_
      refine lv_iconst (v := (-1)) F.1 F.2.1 dX1_leastBetween_66 (by decide) ?_
      refine lv_icmp_eq (tgt := 99) F.1 F.2.1 dX1_leastBetween_67 (by decide) (fun c_8 => ?_) (fun c_8 => ?_)
      · have hf := hf.1 c_8
        exact wm_X1_leastBetween_99 F E hr hk k_12 post h_12 x1 x2 x3 x4 x5 x7 x8 t0 _ _ _ hf Z (lv_sub hl [1, 2, 3, 4, 5, 6, 8, 9, 0] rfl)
      · have hf := hf.2 c_8
        refine lv_iload F.1 F.2.1 dX1_leastBetween_70 (lv_at hl 8 rfl) ?_
        refine lv_iload F.1 F.2.1 dX1_leastBetween_72 (lv_at hl 6 rfl) ?_
        refine lv_isub F.1 F.2.1 dX1_leastBetween_74 ?_
        refine lv_iconst (v := 1) F.1 F.2.1 dX1_leastBetween_75 (by decide) ?_
        refine lv_isub F.1 F.2.1 dX1_leastBetween_76 ?_
        refine lv_istore (lv' := [(10, .int ((x7 - x5) - 1)), (9, .int t0), (0, .ref (ad 21)), (1, .int x1), (2, .int x2), (3, .int x3), (4, .int x4), (5, .int x5), (6, .int x6), (7, .int x7), (8, .int x8)]) F.1 F.2.1 dX1_leastBetween_77 hl (by decide) rfl (fun ls hl => ?_)
        refine lv_iload F.1 F.2.1 dX1_leastBetween_79 (lv_at hl 6 rfl) ?_
        refine lv_iconst (v := (-1)) F.1 F.2.1 dX1_leastBetween_81 (by decide) ?_
        refine lv_icmp_ne (tgt := 90) F.1 F.2.1 dX1_leastBetween_82 (by decide) (fun c_9 => ?_) (fun c_9 => ?_)
        · have hf := hf.1 c_9
          refine lv_iload F.1 F.2.1 dX1_leastBetween_90 (lv_at hl 6 rfl) ?_
          refine lv_iload F.1 F.2.1 dX1_leastBetween_92 (lv_at hl 0 rfl) ?_
          refine va_mmin F.1 F.2.1 (F.2.2.1.trans hl.1.symm) F.2.2.2.1 (F.2.2.2.2 _ mw_328) (F.2.2.2.2 _ mw_329) (F.2.2.2.2 _ mw_324) (F.2.2.2.2 _ mw_330) (Nat.le_of_ble_eq_true rfl) (Nat.le_of_ble_eq_true rfl) (Nat.le_of_ble_eq_true rfl) (Nat.le_of_ble_eq_true rfl) dX1_leastBetween_94 ?_
          exact wm_X1_leastBetween_97 F E hr hk (wp_X1_leastBetween_99 a la k_12 post) post (fun v0 v1 v2 v3 v4 v5 v6 v7 H locs ls  hf Z hl => wm_X1_leastBetween_99 F E hr hk k_12 post h_12 v0 v1 v2 v3 v4 v5 v6 v7 H locs ls  hf Z hl) x1 x2 x3 x5 x7 x8 t0 (if ((x7 - x5) - 1) < x4 then ((x7 - x5) - 1) else x4) _ _ _ hf Z (lv_sub hl [2, 3, 4, 5, 7, 9, 10, 1] rfl)
        · have hf := hf.2 c_9
          refine lv_iload F.1 F.2.1 dX1_leastBetween_85 (lv_at hl 0 rfl) ?_
          refine lv_goto (tgt := 97) F.1 F.2.1 dX1_leastBetween_87 (by decide) ?_
          exact wm_X1_leastBetween_97 F E hr hk (wp_X1_leastBetween_99 a la k_12 post) post (fun v0 v1 v2 v3 v4 v5 v6 v7 H locs ls  hf Z hl => wm_X1_leastBetween_99 F E hr hk k_12 post h_12 v0 v1 v2 v3 v4 v5 v6 v7 H locs ls  hf Z hl) x1 x2 x3 x5 x7 x8 t0 ((x7 - x5) - 1) _ _ _ hf Z (lv_sub hl [2, 3, 4, 5, 7, 9, 10, 1] rfl)
set_option maxHeartbeats 4000000 in
set_option maxRecDepth 100000 in
theorem wm_X1_leastBetween_12 (F : CallFix p m c cX1_leastBetween 11 s args ig_all RX1) (E : ig_E D kk ad bs s) (hr : meth.sig.returnType = (some .int)) (hk : meth.locks = false) (post : Int32 → Prop) :
    ∀ (n : Nat) (x1 : Int32) (x2 : Int32) (x3 : Int32) (x4 : Int32) (x5 : Int32) (x6 : Int32) (x7 : Int32) (H : Heap) (locs : List Loc) (ls : Array Slot), wp_X1_leastBetween_12 a la post n x1 x2 x3 x4 x5 x6 x7 → ig_Z D kk ad bs s H locs a la b lb lo → lv_has ls 11 [(0, .ref (ad 21)), (1, .int x1), (2, .int x2), (3, .int x3), (4, .int x4), (5, .int x5), (6, .int x6), (7, .int x7)] → W p l e (k2_rm 1 21) s m args below meth c H locs 0 0 (MQ below (va_Qi (fun (r : Int32) (_ : Unit) => post r) (fun _ t => ig_Wd D kk ad bs a la b lb lo t) (ig_A bs)) args s 0 0 (ig_A bs)) (F0 m 12 ls []) := by
  intro n
  induction n with
  | zero => intro x1 x2 x3 x4 x5 x6 x7 H locs ls hf Z hl; exact False.elim hf
  | succ n ih =>
    intro x1 x2 x3 x4 x5 x6 x7 H locs ls hf Z hl
    refine lv_iload F.1 F.2.1 dX1_leastBetween_12 (lv_at hl 7 rfl) ?_
    refine lv_iload_n F.1 F.2.1 dX1_leastBetween_14 rfl (lv_at hl 3 rfl) ?_
    refine lv_icmp_ge (tgt := 123) F.1 F.2.1 dX1_leastBetween_15 (by decide) (fun c_1 => ?_) (fun c_1 => ?_)
    · have hf := hf.1 c_1
      refine lv_iload F.1 F.2.1 dX1_leastBetween_123 (lv_at hl 4 rfl) ?_
      exact W.iret (v := x4) F.1 F.2.1 hr (fun t ht hW => ⟨⟨_, (), rfl, hf, Z.wd E ht hW⟩, Z.fr ht⟩) Z.2.2.2 dX1_leastBetween_125
    · have hf := hf.2 c_1
      refine lv_iload F.1 F.2.1 dX1_leastBetween_18 (lv_at hl 7 rfl) ?_
      refine lv_aload_n F.1 F.2.1 dX1_leastBetween_20 rfl (lv_at hl 0 rfl) ?_
      refine gf_X1_11 F E Z dX1_leastBetween_21 ?_
      refine ig_alen (v := 5000) F E Z (by decide) (ig_k_22 _ _ _ _ _ _) rfl dX1_leastBetween_24 ?_
      refine lv_icmp_ge (tgt := 123) F.1 F.2.1 dX1_leastBetween_25 (by decide) (fun c_2 => ?_) (fun c_2 => ?_)
      · have hf := hf.1 c_2
        refine lv_iload F.1 F.2.1 dX1_leastBetween_123 (lv_at hl 4 rfl) ?_
        exact W.iret (v := x4) F.1 F.2.1 hr (fun t ht hW => ⟨⟨_, (), rfl, hf, Z.wd E ht hW⟩, Z.fr ht⟩) Z.2.2.2 dX1_leastBetween_125
      · have hf := hf.2 c_2
        refine lv_aload_n F.1 F.2.1 dX1_leastBetween_28 rfl (lv_at hl 0 rfl) ?_
        refine gf_X1_11 F E Z dX1_leastBetween_29 ?_
        refine lv_iload F.1 F.2.1 dX1_leastBetween_32 (lv_at hl 7 rfl) ?_
        have hv3 := hf.1
        have hf := hf.2
        refine ig_iald (f := a 22) F E Z (by decide) (by rw [ig_mm_a _ _ (by decide)]; exact (ig_k_22 _ _ _ _ _ _)) hv3 dX1_leastBetween_34 ?_
        refine lv_istore (lv' := [(8, .int (a 22 x7.toNatClampNeg)), (0, .ref (ad 21)), (1, .int x1), (2, .int x2), (3, .int x3), (4, .int x4), (5, .int x5), (6, .int x6), (7, .int x7)]) F.1 F.2.1 dX1_leastBetween_35 hl (by decide) rfl (fun ls hl => ?_)
        refine lv_iload F.1 F.2.1 dX1_leastBetween_37 (lv_at hl 0 rfl) ?_
        refine lv_iload_n F.1 F.2.1 dX1_leastBetween_39 rfl (lv_at hl 3 rfl) ?_
        have hM := k_X1_colourIn l (D := D) (kk := kk) (ad := ad) (bs := bs) (a := a) (la := la) (b := b) (lb := lb) (lo := lo) (a 22 x7.toNatClampNeg) x2 hf
        refine ig_calli E Z (ig_runS (As := [.int (a 22 x7.toNatClampNeg), .int x2]) (rest := []) F E Z hl G_X1_20 hM rfl md_X1_colourIn rfl ⟨rfl, rfl⟩ ⟨Nat.le_of_ble_eq_true rfl, Nat.le_of_ble_eq_true rfl⟩ (Nat.le_of_ble_eq_true rfl) dX1_leastBetween_40 ⟨Nat.le_of_ble_eq_true rfl, Nat.le_of_ble_eq_true rfl⟩) (fun r4 u H locs hf Z => ?_)
        refine lv_iconst (v := 1) F.1 F.2.1 dX1_leastBetween_43 (by decide) ?_
        refine lv_icmp_ne (tgt := 51) F.1 F.2.1 dX1_leastBetween_44 (by decide) (fun c_5 => ?_) (fun c_5 => ?_)
        · have hf := hf.1 c_5
          refine lv_iconst (v := 0) F.1 F.2.1 dX1_leastBetween_51 (by decide) ?_
          exact wm_X1_leastBetween_52 F E hr hk (fun (z0 : Int32) (z1 : Int32) (z2 : Int32) (z3 : Int32) (z4 : Int32) (z5 : Int32) (z6 : Int32) => wp_X1_leastBetween_12 a la post n z0 z1 z2 z3 z4 z5 z6) post ih x1 x2 x3 x4 x5 x6 x7 (a 22 x7.toNatClampNeg) 0 _ _ _ hf Z (lv_sub hl [1, 2, 3, 4, 5, 6, 7, 8, 0] rfl)
        · have hf := hf.2 c_5
          refine lv_iconst (v := 1) F.1 F.2.1 dX1_leastBetween_47 (by decide) ?_
          refine lv_goto (tgt := 52) F.1 F.2.1 dX1_leastBetween_48 (by decide) ?_
          exact wm_X1_leastBetween_52 F E hr hk (fun (z0 : Int32) (z1 : Int32) (z2 : Int32) (z3 : Int32) (z4 : Int32) (z5 : Int32) (z6 : Int32) => wp_X1_leastBetween_12 a la post n z0 z1 z2 z3 z4 z5 z6) post ih x1 x2 x3 x4 x5 x6 x7 (a 22 x7.toNatClampNeg) 1 _ _ _ hf Z (lv_sub hl [1, 2, 3, 4, 5, 6, 7, 8, 0] rfl)
set_option maxHeartbeats 4000000 in
set_option maxRecDepth 100000 in
theorem k_X1_leastBetween (l : Launch) {D : va_G} {kk : Nat → ClassId} {ad : Nat → Nat} {bs : Nat} {a : ig_M} {la : Int64} {b : ig_M} {lb lo : Int64} (x1 : Int32) (x2 : Int32) (x3 : Int32) {post : Int32 → Prop} (hf : wp_X1_leastBetween a la x1 x2 x3 post) : Met l yX1_leastBetween (ig_ws yX1_leastBetween cX1_leastBetween 11 (some .int)) (k2_rm 1 21) (va_Pc [.ref (ad 21), .int x1, .int x2, .int x3] (ig_Wd D kk ad bs a la b lb lo)) (va_Qi (fun (r : Int32) (_ : Unit) => post r) (fun _ t => ig_Wd D kk ad bs a la b lb lo t) (ig_A bs)) 0 0 (ig_A bs) := by
  refine Met.ofW (cc := cX1_leastBetween) (maxL := 11) (ret := (some .int)) (by decide) rfl ?_
  intro p e s m args below meth c s₁ B hml hv
  obtain ⟨rfl, E, hP⟩ := hv
  have hk := B.notSynchronized
  have hr := B.returns
  have F : CallFix p m c cX1_leastBetween 11 s _ ig_all RX1 := ⟨B.exec, B.bytes, hml, findClass_of_methodNamed B.named, fun w hw => atoms_spec B.pre w (List.mem_cons_of_mem _ hw)⟩
  have Z : ig_Z D kk ad bs s s.heap [] a la b lb lo := ig_Z.rf hP
  have hl := lv_entry ([.ref (ad 21), .int x1, .int x2, .int x3]) (n := 11) (Nat.le_of_ble_eq_true rfl)
  rw [lg_entry_eq]
  generalize (lg_sl ([.ref (ad 21), .int x1, .int x2, .int x3]) ++ List.replicate (11 - (lg_sl ([.ref (ad 21), .int x1, .int x2, .int x3])).length) Slot.unset).toArray = ls at hl ⊢
  have hl : lv_has ls 11 [(0, .ref (ad 21)), (1, .int x1), (2, .int x2), (3, .int x3)] := hl
  refine lv_iconst (v := (-1)) F.1 F.2.1 dX1_leastBetween_0 (by decide) ?_
  refine lv_istore (lv' := [(4, .int ((-1))), (0, .ref (ad 21)), (1, .int x1), (2, .int x2), (3, .int x3)]) F.1 F.2.1 dX1_leastBetween_1 hl (by decide) rfl (fun ls hl => ?_)
  refine lv_iconst (v := (-1)) F.1 F.2.1 dX1_leastBetween_3 (by decide) ?_
  refine lv_istore (lv' := [(5, .int ((-1))), (4, .int ((-1))), (0, .ref (ad 21)), (1, .int x1), (2, .int x2), (3, .int x3)]) F.1 F.2.1 dX1_leastBetween_4 hl (by decide) rfl (fun ls hl => ?_)
  refine lv_iconst (v := 0) F.1 F.2.1 dX1_leastBetween_6 (by decide) ?_
  refine lv_istore (lv' := [(6, .int 0), (5, .int ((-1))), (4, .int ((-1))), (0, .ref (ad 21)), (1, .int x1), (2, .int x2), (3, .int x3)]) F.1 F.2.1 dX1_leastBetween_7 hl (by decide) rfl (fun ls hl => ?_)
  refine lv_iconst (v := 0) F.1 F.2.1 dX1_leastBetween_9 (by decide) ?_
  refine lv_istore (lv' := [(7, .int 0), (6, .int 0), (5, .int ((-1))), (4, .int ((-1))), (0, .ref (ad 21)), (1, .int x1), (2, .int x2), (3, .int x3)]) F.1 F.2.1 dX1_leastBetween_10 hl (by decide) rfl (fun ls hl => ?_)
  obtain ⟨n1, hf⟩ := hf
  exact wm_X1_leastBetween_12 F E hr hk post n1 x1 x2 x3 ((-1)) ((-1)) 0 0 _ _ _ hf Z (lv_sub hl [4, 5, 6, 7, 3, 2, 1, 0] rfl)
set_option maxHeartbeats 4000000 in
set_option maxRecDepth 100000 in
theorem wm_X3_secondsToChange_35 (F : CallFix p m c cX3_secondsToChange 7 s args ig_all RX3) (E : ig_E D kk ad bs s) (hr : meth.sig.returnType = (some .int)) (hk : meth.locks = false) (post : Int32 → Prop) :
    ∀ (n : Nat) (x3 : Int32) (x4 : Int32) (x5 : Int32) (x6 : Int32) (H : Heap) (locs : List Loc) (ls : Array Slot), wp_X3_secondsToChange_35 a la post n x3 x4 x5 x6 → ig_Z D kk ad bs s H locs a la b lb lo → lv_has ls 7 [(0, .ref (ad 1)), (3, .int x3), (4, .int x4), (5, .int x5), (6, .int x6)] → W p l e (k2_rm 2 45) s m args below meth c H locs 0 0 (MQ below (va_Qi (fun (r : Int32) (_ : Unit) => post r) (fun _ t => ig_Wd D kk ad bs a la b lb lo t) (ig_A bs)) args s 0 0 (ig_A bs)) (F0 m 35 ls []) := by
  intro n
  induction n with
  | zero => intro x3 x4 x5 x6 H locs ls hf Z hl; exact False.elim hf
  | succ n ih =>
    intro x3 x4 x5 x6 H locs ls hf Z hl
    refine lv_iload F.1 F.2.1 dX3_secondsToChange_35 (lv_at hl 4 rfl) ?_
    refine lv_aload_n F.1 F.2.1 dX3_secondsToChange_37 rfl (lv_at hl 0 rfl) ?_
    refine gf_X3_27 F E Z dX3_secondsToChange_38 ?_
    refine lv_icmp_ge (tgt := 74) F.1 F.2.1 dX3_secondsToChange_41 (by decide) (fun c_5 => ?_) (fun c_5 => ?_)
    · have hf := hf.1 c_5
      refine lv_iload F.1 F.2.1 dX3_secondsToChange_74 (lv_at hl 3 rfl) ?_
      exact W.iret (v := x5) F.1 F.2.1 hr (fun t ht hW => ⟨⟨_, (), rfl, hf, Z.wd E ht hW⟩, Z.fr ht⟩) Z.2.2.2 dX3_secondsToChange_76
    · have hf := hf.2 c_5
      refine lv_iload_n F.1 F.2.1 dX3_secondsToChange_44 rfl (lv_at hl 1 rfl) ?_
      refine lv_iload F.1 F.2.1 dX3_secondsToChange_45 (lv_at hl 4 rfl) ?_
      have hM := k_X5_has l (D := D) (kk := kk) (ad := ad) (bs := bs) (a := a) (la := la) (b := b) (lb := lb) (lo := lo) x3 x6 hf
      refine ig_calli E Z (ig_runSN (As := [.int x3, .int x6]) (rest := []) F E Z hl (host := "Intergreen") (by decide +kernel) G_X3_51 G_X3_51_i G_X3_51_s hM md_X5_has rfl ⟨rfl, rfl⟩ ⟨Nat.le_of_ble_eq_true rfl, Nat.le_of_ble_eq_true rfl⟩ (Nat.le_of_ble_eq_true rfl) dX3_secondsToChange_47 ⟨Nat.le_of_ble_eq_true rfl, Nat.le_of_ble_eq_true rfl⟩) (fun r6 u H locs hf Z => ?_)
      refine lv_if_eq (tgt := 68) F.1 F.2.1 dX3_secondsToChange_50 (by decide) (fun c_7 => ?_) (fun c_7 => ?_)
      · have hf := hf.1 c_7
        refine lv_iinc (v := x6 + 1) (lv' := [(6, .int (x6 + 1)), (0, .ref (ad 1)), (3, .int x3), (4, .int x4), (5, .int x5)]) F.1 F.2.1 dX3_secondsToChange_68 hl (k := 4) rfl (by rfl) (by decide) rfl (fun ls hl => ?_)
        refine lv_goto (tgt := 35) F.1 F.2.1 dX3_secondsToChange_71 (by decide) ?_
        exact ih x3 x4 x5 (x6 + 1) _ _ _ hf Z (lv_sub hl [1, 2, 3, 4, 0] rfl)
      · have hf := hf.2 c_7
        refine lv_iload F.1 F.2.1 dX3_secondsToChange_53 (lv_at hl 3 rfl) ?_
        refine lv_aload_n F.1 F.2.1 dX3_secondsToChange_55 rfl (lv_at hl 0 rfl) ?_
        refine lv_iload F.1 F.2.1 dX3_secondsToChange_56 (lv_at hl 4 rfl) ?_
        refine lv_iload F.1 F.2.1 dX3_secondsToChange_58 (lv_at hl 2 rfl) ?_
        have hM := k_X3_mostBetween l (D := D) (kk := kk) (ad := ad) (bs := bs) (a := a) (la := la) (b := b) (lb := lb) (lo := lo) x6 x4 hf
        refine ig_calli E Z (ig_runV (As := [.int x6, .int x4]) (rest := [.int x5]) F E Z hl G_X3_55 hM (i := 1) (by decide) (ig_k_1 _ _ _ _ _ _) rfl rfl md_X3_mostBetween rfl ⟨rfl, rfl⟩ ⟨Nat.le_of_ble_eq_true rfl, Nat.le_of_ble_eq_true rfl⟩ (Nat.le_of_ble_eq_true rfl) dX3_secondsToChange_60 ⟨Nat.le_of_ble_eq_true rfl, Nat.le_of_ble_eq_true rfl⟩) (fun r8 u H locs hf Z => ?_)
        refine va_mmax F.1 F.2.1 (F.2.2.1.trans hl.1.symm) F.2.2.2.1 (F.2.2.2.2 _ mw_322) (F.2.2.2.2 _ mw_323) (F.2.2.2.2 _ mw_324) (F.2.2.2.2 _ mw_325) (Nat.le_of_ble_eq_true rfl) (Nat.le_of_ble_eq_true rfl) (Nat.le_of_ble_eq_true rfl) (Nat.le_of_ble_eq_true rfl) dX3_secondsToChange_63 ?_
        refine lv_istore (lv' := [(5, .int (if x5 < r8 then r8 else x5)), (0, .ref (ad 1)), (3, .int x3), (4, .int x4), (6, .int x6)]) F.1 F.2.1 dX3_secondsToChange_66 hl (by decide) rfl (fun ls hl => ?_)
        refine lv_iinc (v := x6 + 1) (lv' := [(6, .int (x6 + 1)), (5, .int (if x5 < r8 then r8 else x5)), (0, .ref (ad 1)), (3, .int x3), (4, .int x4)]) F.1 F.2.1 dX3_secondsToChange_68 hl (k := 4) rfl (by rfl) (by decide) rfl (fun ls hl => ?_)
        refine lv_goto (tgt := 35) F.1 F.2.1 dX3_secondsToChange_71 (by decide) ?_
        exact ih x3 x4 (if x5 < r8 then r8 else x5) (x6 + 1) _ _ _ hf Z (lv_sub hl [2, 3, 4, 1, 0] rfl)
set_option maxHeartbeats 4000000 in
set_option maxRecDepth 100000 in
theorem k_X3_secondsToChange (l : Launch) {D : va_G} {kk : Nat → ClassId} {ad : Nat → Nat} {bs : Nat} {a : ig_M} {la : Int64} {b : ig_M} {lb lo : Int64} (x1 : Int32) (x2 : Int32) {post : Int32 → Prop} (hf : wp_X3_secondsToChange a la x1 x2 post) : Met l yX3_secondsToChange (ig_ws yX3_secondsToChange cX3_secondsToChange 7 (some .int)) (k2_rm 2 45) (va_Pc [.ref (ad 1), .int x1, .int x2] (ig_Wd D kk ad bs a la b lb lo)) (va_Qi (fun (r : Int32) (_ : Unit) => post r) (fun _ t => ig_Wd D kk ad bs a la b lb lo t) (ig_A bs)) 0 0 (ig_A bs) := by
  refine Met.ofW (cc := cX3_secondsToChange) (maxL := 7) (ret := (some .int)) (by decide) rfl ?_
  intro p e s m args below meth c s₁ B hml hv
  obtain ⟨rfl, E, hP⟩ := hv
  have hk := B.notSynchronized
  have hr := B.returns
  have F : CallFix p m c cX3_secondsToChange 7 s _ ig_all RX3 := ⟨B.exec, B.bytes, hml, findClass_of_methodNamed B.named, fun w hw => atoms_spec B.pre w (List.mem_cons_of_mem _ hw)⟩
  have Z : ig_Z D kk ad bs s s.heap [] a la b lb lo := ig_Z.rf hP
  have hl := lv_entry ([.ref (ad 1), .int x1, .int x2]) (n := 7) (Nat.le_of_ble_eq_true rfl)
  rw [lg_entry_eq]
  generalize (lg_sl ([.ref (ad 1), .int x1, .int x2]) ++ List.replicate (7 - (lg_sl ([.ref (ad 1), .int x1, .int x2])).length) Slot.unset).toArray = ls at hl ⊢
  have hl : lv_has ls 7 [(0, .ref (ad 1)), (1, .int x1), (2, .int x2)] := hl
  refine lv_aload_n F.1 F.2.1 dX3_secondsToChange_0 rfl (lv_at hl 0 rfl) ?_
  refine lv_iload_n F.1 F.2.1 dX3_secondsToChange_1 rfl (lv_at hl 1 rfl) ?_
  have hM := k_X3_setOf l (D := D) (kk := kk) (ad := ad) (bs := bs) (a := a) (la := la) (b := b) (lb := lb) (lo := lo) x1 hf
  refine ig_calli E Z (ig_runV (As := [.int x1]) (rest := []) F E Z hl G_X3_47 hM (i := 1) (by decide) (ig_k_1 _ _ _ _ _ _) rfl rfl md_X3_setOf rfl ⟨rfl, rfl⟩ ⟨Nat.le_of_ble_eq_true rfl, Nat.le_of_ble_eq_true rfl⟩ (Nat.le_of_ble_eq_true rfl) dX3_secondsToChange_2 ⟨Nat.le_of_ble_eq_true rfl, Nat.le_of_ble_eq_true rfl⟩) (fun r1 u H locs hf Z => ?_)
  refine lv_aload_n F.1 F.2.1 dX3_secondsToChange_5 rfl (lv_at hl 0 rfl) ?_
  refine lv_iload_n F.1 F.2.1 dX3_secondsToChange_6 rfl (lv_at hl 2 rfl) ?_
  have hM := k_X3_setOf l (D := D) (kk := kk) (ad := ad) (bs := bs) (a := a) (la := la) (b := b) (lb := lb) (lo := lo) x2 hf
  refine ig_calli E Z (ig_runV (As := [.int x2]) (rest := [.int r1]) F E Z hl G_X3_47 hM (i := 1) (by decide) (ig_k_1 _ _ _ _ _ _) rfl rfl md_X3_setOf rfl ⟨rfl, rfl⟩ ⟨Nat.le_of_ble_eq_true rfl, Nat.le_of_ble_eq_true rfl⟩ (Nat.le_of_ble_eq_true rfl) dX3_secondsToChange_7 ⟨Nat.le_of_ble_eq_true rfl, Nat.le_of_ble_eq_true rfl⟩) (fun r2 u H locs hf Z => ?_)
  refine lv_iconst (v := (-1)) F.1 F.2.1 dX3_secondsToChange_10 (by decide) ?_
  refine lv_ixor F.1 F.2.1 dX3_secondsToChange_11 ?_
  refine lv_iand F.1 F.2.1 dX3_secondsToChange_12 ?_
  refine lv_istore_n (lv' := [(3, .int (r1 &&& (r2 ^^^ ((-1))))), (0, .ref (ad 1)), (1, .int x1), (2, .int x2)]) F.1 F.2.1 dX3_secondsToChange_13 rfl hl (by decide) rfl (fun ls hl => ?_)
  refine lv_aload_n F.1 F.2.1 dX3_secondsToChange_14 rfl (lv_at hl 1 rfl) ?_
  refine lv_iload_n F.1 F.2.1 dX3_secondsToChange_15 rfl (lv_at hl 3 rfl) ?_
  have hM := k_X3_setOf l (D := D) (kk := kk) (ad := ad) (bs := bs) (a := a) (la := la) (b := b) (lb := lb) (lo := lo) x2 hf
  refine ig_calli E Z (ig_runV (As := [.int x2]) (rest := []) F E Z hl G_X3_47 hM (i := 1) (by decide) (ig_k_1 _ _ _ _ _ _) rfl rfl md_X3_setOf rfl ⟨rfl, rfl⟩ ⟨Nat.le_of_ble_eq_true rfl, Nat.le_of_ble_eq_true rfl⟩ (Nat.le_of_ble_eq_true rfl) dX3_secondsToChange_16 ⟨Nat.le_of_ble_eq_true rfl, Nat.le_of_ble_eq_true rfl⟩) (fun r3 u H locs hf Z => ?_)
  refine lv_aload_n F.1 F.2.1 dX3_secondsToChange_19 rfl (lv_at hl 1 rfl) ?_
  refine lv_iload_n F.1 F.2.1 dX3_secondsToChange_20 rfl (lv_at hl 2 rfl) ?_
  have hM := k_X3_setOf l (D := D) (kk := kk) (ad := ad) (bs := bs) (a := a) (la := la) (b := b) (lb := lb) (lo := lo) x1 hf
  refine ig_calli E Z (ig_runV (As := [.int x1]) (rest := [.int r3]) F E Z hl G_X3_47 hM (i := 1) (by decide) (ig_k_1 _ _ _ _ _ _) rfl rfl md_X3_setOf rfl ⟨rfl, rfl⟩ ⟨Nat.le_of_ble_eq_true rfl, Nat.le_of_ble_eq_true rfl⟩ (Nat.le_of_ble_eq_true rfl) dX3_secondsToChange_21 ⟨Nat.le_of_ble_eq_true rfl, Nat.le_of_ble_eq_true rfl⟩) (fun r4 u H locs hf Z => ?_)
  refine lv_iconst (v := (-1)) F.1 F.2.1 dX3_secondsToChange_24 (by decide) ?_
  refine lv_ixor F.1 F.2.1 dX3_secondsToChange_25 ?_
  refine lv_iand F.1 F.2.1 dX3_secondsToChange_26 ?_
  refine lv_istore (lv' := [(4, .int (r3 &&& (r4 ^^^ ((-1))))), (3, .int (r1 &&& (r2 ^^^ ((-1))))), (0, .ref (ad 1)), (1, .int x1), (2, .int x2)]) F.1 F.2.1 dX3_secondsToChange_27 hl (by decide) rfl (fun ls hl => ?_)
  refine lv_iconst (v := 0) F.1 F.2.1 dX3_secondsToChange_29 (by decide) ?_
  refine lv_istore (lv' := [(5, .int 0), (4, .int (r3 &&& (r4 ^^^ ((-1))))), (3, .int (r1 &&& (r2 ^^^ ((-1))))), (0, .ref (ad 1)), (1, .int x1), (2, .int x2)]) F.1 F.2.1 dX3_secondsToChange_30 hl (by decide) rfl (fun ls hl => ?_)
  refine lv_iconst (v := 0) F.1 F.2.1 dX3_secondsToChange_32 (by decide) ?_
  refine lv_istore (lv' := [(6, .int 0), (5, .int 0), (4, .int (r3 &&& (r4 ^^^ ((-1))))), (3, .int (r1 &&& (r2 ^^^ ((-1))))), (0, .ref (ad 1)), (1, .int x1), (2, .int x2)]) F.1 F.2.1 dX3_secondsToChange_33 hl (by decide) rfl (fun ls hl => ?_)
  obtain ⟨n1, hf⟩ := hf
  exact wm_X3_secondsToChange_35 F E hr hk post n1 (r1 &&& (r2 ^^^ ((-1)))) (r3 &&& (r4 ^^^ ((-1)))) 0 0 _ _ _ hf Z (lv_sub hl [4, 3, 2, 1, 0] rfl)
set_option maxHeartbeats 4000000 in
set_option maxRecDepth 100000 in
theorem wm_X4_findChanges_15 (F : CallFix p m c cX4_findChanges 3 s args ig_all RX4) (E : ig_E D kk ad bs s) (hr : meth.sig.returnType = none) (hk : meth.locks = false) (k_2 : ig_M → Int64 → Int32 → Prop) (post : ig_M → Int64 → Prop) (h_2 : ∀ (a : ig_M) (la : Int64) (x1 : Int32) (H : Heap) (locs : List Loc) (ls : Array Slot), k_2 a la x1 → ig_Z D kk ad bs s H locs a la b lb lo → lv_has ls 3 [(0, .ref (ad 24)), (1, .int x1)] → W p l e (k2_rm 3 71) s m args below meth c H locs 0 0 (MQ below (va_Qv (fun u : ig_M × Int64 => post u.1 u.2) (fun u t => ig_Wd D kk ad bs u.1 u.2 b lb lo t) (ig_A bs)) args s 0 0 (ig_A bs)) (F0 m 2 ls [])) :
    ∀ (n : Nat) (a : ig_M) (la : Int64) (x1 : Int32) (x2 : Int32) (H : Heap) (locs : List Loc) (ls : Array Slot), wp_X4_findChanges_15 k_2 post n a la x1 x2 → ig_Z D kk ad bs s H locs a la b lb lo → lv_has ls 3 [(0, .ref (ad 24)), (1, .int x1), (2, .int x2)] → W p l e (k2_rm 3 71) s m args below meth c H locs 0 0 (MQ below (va_Qv (fun u : ig_M × Int64 => post u.1 u.2) (fun u t => ig_Wd D kk ad bs u.1 u.2 b lb lo t) (ig_A bs)) args s 0 0 (ig_A bs)) (F0 m 15 ls []) := by
  intro n
  induction n with
  | zero => intro a la x1 x2 H locs ls hf Z hl; exact False.elim hf
  | succ n ih =>
    intro a la x1 x2 H locs ls hf Z hl
    refine lv_iload_n F.1 F.2.1 dX4_findChanges_15 rfl (lv_at hl 2 rfl) ?_
    refine lv_aload_n F.1 F.2.1 dX4_findChanges_16 rfl (lv_at hl 0 rfl) ?_
    refine gf_X4_19 F E Z dX4_findChanges_17 ?_
    refine gf_X4_23 F E Z dX4_findChanges_20 ?_
    refine lv_icmp_ge (tgt := 49) F.1 F.2.1 dX4_findChanges_23 (by decide) (fun c_2 => ?_) (fun c_2 => ?_)
    · have hf := hf.1 c_2
      refine lv_iinc (v := x1 + 1) (lv' := [(1, .int (x1 + 1)), (0, .ref (ad 24)), (2, .int x2)]) F.1 F.2.1 dX4_findChanges_49 hl (k := 1) rfl (by rfl) (by decide) rfl (fun ls hl => ?_)
      refine lv_goto (tgt := 2) F.1 F.2.1 dX4_findChanges_52 (by decide) ?_
      exact h_2 a la (x1 + 1) _ _ _ hf Z (lv_sub hl [1, 0] rfl)
    · have hf := hf.2 c_2
      refine lv_aload_n F.1 F.2.1 dX4_findChanges_26 rfl (lv_at hl 0 rfl) ?_
      refine gf_X4_11 F E Z dX4_findChanges_27 ?_
      refine lv_iload_n F.1 F.2.1 dX4_findChanges_30 rfl (lv_at hl 1 rfl) ?_
      have hv3 := hf.1
      have hf := hf.2
      refine ig_aald (t0 := 4) (n := 6) (b0 := 26) F E Z rfl (Or.inr rfl) (by decide) (ig_k_25 _ _ _ _ _ _) hv3 dX4_findChanges_31 ?_
      refine lv_iload_n F.1 F.2.1 dX4_findChanges_32 rfl (lv_at hl 2 rfl) ?_
      refine lv_aload_n F.1 F.2.1 dX4_findChanges_33 rfl (lv_at hl 0 rfl) ?_
      refine gf_X4_19 F E Z dX4_findChanges_34 ?_
      refine lv_iload_n F.1 F.2.1 dX4_findChanges_37 rfl (lv_at hl 1 rfl) ?_
      refine lv_iload_n F.1 F.2.1 dX4_findChanges_38 rfl (lv_at hl 2 rfl) ?_
      have hM := k_X3_secondsToChange l (D := D) (kk := kk) (ad := ad) (bs := bs) (a := a) (la := la) (b := b) (lb := lb) (lo := lo) x1 x2 hf
      refine ig_calli E Z (ig_runV (As := [.int x1, .int x2]) (rest := [.int x2, .ref (ad (26 + x1.toNatClampNeg))]) F E Z hl G_X4_56 hM (i := 1) (by decide) (ig_k_1 _ _ _ _ _ _) rfl rfl md_X3_secondsToChange rfl ⟨rfl, rfl⟩ ⟨Nat.le_of_ble_eq_true rfl, Nat.le_of_ble_eq_true rfl⟩ (Nat.le_of_ble_eq_true rfl) dX4_findChanges_39 ⟨Nat.le_of_ble_eq_true rfl, Nat.le_of_ble_eq_true rfl⟩) (fun r4 u H locs hf Z => ?_)
      have hv5 := hf.1
      have hf := hf.2
      refine ig_iastA (n := 6) F E Z (by have := ig_lt hv3; omega) (fun r => ig_c_rc _ _ _ _ _ r (ig_lt hv3)) hv5 dX4_findChanges_42 (fun H locs a6 ha6 Z => ?_)
      have hf := hf a6 ha6
      refine lv_iinc (v := x2 + 1) (lv' := [(2, .int (x2 + 1)), (0, .ref (ad 24)), (1, .int x1)]) F.1 F.2.1 dX4_findChanges_43 hl (k := 2) rfl (by rfl) (by decide) rfl (fun ls hl => ?_)
      refine lv_goto (tgt := 15) F.1 F.2.1 dX4_findChanges_46 (by decide) ?_
      exact ih a6 la x1 (x2 + 1) _ _ _ hf Z (lv_sub hl [1, 2, 0] rfl)
set_option maxHeartbeats 4000000 in
set_option maxRecDepth 100000 in
theorem wm_X4_findChanges_2 (F : CallFix p m c cX4_findChanges 3 s args ig_all RX4) (E : ig_E D kk ad bs s) (hr : meth.sig.returnType = none) (hk : meth.locks = false) (post : ig_M → Int64 → Prop) :
    ∀ (n : Nat) (a : ig_M) (la : Int64) (x1 : Int32) (H : Heap) (locs : List Loc) (ls : Array Slot), wp_X4_findChanges_2 post n a la x1 → ig_Z D kk ad bs s H locs a la b lb lo → lv_has ls 3 [(0, .ref (ad 24)), (1, .int x1)] → W p l e (k2_rm 3 71) s m args below meth c H locs 0 0 (MQ below (va_Qv (fun u : ig_M × Int64 => post u.1 u.2) (fun u t => ig_Wd D kk ad bs u.1 u.2 b lb lo t) (ig_A bs)) args s 0 0 (ig_A bs)) (F0 m 2 ls []) := by
  intro n
  induction n with
  | zero => intro a la x1 H locs ls hf Z hl; exact False.elim hf
  | succ n ih =>
    intro a la x1 H locs ls hf Z hl
    refine lv_iload_n F.1 F.2.1 dX4_findChanges_2 rfl (lv_at hl 1 rfl) ?_
    refine lv_aload_n F.1 F.2.1 dX4_findChanges_3 rfl (lv_at hl 0 rfl) ?_
    refine gf_X4_19 F E Z dX4_findChanges_4 ?_
    refine gf_X4_23 F E Z dX4_findChanges_7 ?_
    refine lv_icmp_ge (tgt := 55) F.1 F.2.1 dX4_findChanges_10 (by decide) (fun c_1 => ?_) (fun c_1 => ?_)
    · have hf := hf.1 c_1
      exact W.vret F.1 F.2.1 hr (fun t ht hW => ⟨⟨(a, la), rfl, hf, Z.wd E ht hW⟩, Z.fr ht⟩) Z.2.2.2 dX4_findChanges_55
    · have hf := hf.2 c_1
      refine lv_iconst (v := 0) F.1 F.2.1 dX4_findChanges_13 (by decide) ?_
      refine lv_istore_n (lv' := [(2, .int 0), (0, .ref (ad 24)), (1, .int x1)]) F.1 F.2.1 dX4_findChanges_14 rfl hl (by decide) rfl (fun ls hl => ?_)
      obtain ⟨n1, hf⟩ := hf
      exact wm_X4_findChanges_15 F E hr hk (fun (z0 : ig_M) (z1 : Int64) (z2 : Int32) => wp_X4_findChanges_2 post n z0 z1 z2) post ih n1 a la x1 0 _ _ _ hf Z (lv_sub hl [1, 2, 0] rfl)
set_option maxHeartbeats 4000000 in
set_option maxRecDepth 100000 in
theorem k_X4_findChanges (l : Launch) {D : va_G} {kk : Nat → ClassId} {ad : Nat → Nat} {bs : Nat} {a : ig_M} {la : Int64} {b : ig_M} {lb lo : Int64} {post : ig_M → Int64 → Prop} (hf : wp_X4_findChanges a la post) : Met l yX4_findChanges (ig_ws yX4_findChanges cX4_findChanges 3 none) (k2_rm 3 71) (va_Pc [.ref (ad 24)] (ig_Wd D kk ad bs a la b lb lo)) (va_Qv (fun u : ig_M × Int64 => post u.1 u.2) (fun u t => ig_Wd D kk ad bs u.1 u.2 b lb lo t) (ig_A bs)) 0 0 (ig_A bs) := by
  refine Met.ofW (cc := cX4_findChanges) (maxL := 3) (ret := none) (by decide) rfl ?_
  intro p e s m args below meth c s₁ B hml hv
  obtain ⟨rfl, E, hP⟩ := hv
  have hk := B.notSynchronized
  have hr := B.returns
  have F : CallFix p m c cX4_findChanges 3 s _ ig_all RX4 := ⟨B.exec, B.bytes, hml, findClass_of_methodNamed B.named, fun w hw => atoms_spec B.pre w (List.mem_cons_of_mem _ hw)⟩
  have Z : ig_Z D kk ad bs s s.heap [] a la b lb lo := ig_Z.rf hP
  have hl := lv_entry ([.ref (ad 24)]) (n := 3) (Nat.le_of_ble_eq_true rfl)
  rw [lg_entry_eq]
  generalize (lg_sl ([.ref (ad 24)]) ++ List.replicate (3 - (lg_sl ([.ref (ad 24)])).length) Slot.unset).toArray = ls at hl ⊢
  have hl : lv_has ls 3 [(0, .ref (ad 24))] := hl
  refine lv_iconst (v := 0) F.1 F.2.1 dX4_findChanges_0 (by decide) ?_
  refine lv_istore_n (lv' := [(1, .int 0), (0, .ref (ad 24))]) F.1 F.2.1 dX4_findChanges_1 rfl hl (by decide) rfl (fun ls hl => ?_)
  obtain ⟨n1, hf⟩ := hf
  exact wm_X4_findChanges_2 F E hr hk post n1 a la 0 _ _ _ hf Z (lv_sub hl [1, 0] rfl)
set_option maxHeartbeats 4000000 in
set_option maxRecDepth 100000 in
theorem k_X4_homeBy (l : Launch) {D : va_G} {kk : Nat → ClassId} {ad : Nat → Nat} {bs : Nat} {a : ig_M} {la : Int64} {b : ig_M} {lb lo : Int64} (x1 : Int32) (x2 : Int32) (x3 : Int32) {post : Int32 → Prop} (hf : wp_X4_homeBy a la x1 x2 x3 post) : Met l yX4_homeBy (ig_ws yX4_homeBy cX4_homeBy 4 (some .int)) (k2_rm 0 0) (va_Pc [.ref (ad 24), .int x1, .int x2, .int x3] (ig_Wd D kk ad bs a la b lb lo)) (va_Qi (fun (r : Int32) (_ : Unit) => post r) (fun _ t => ig_Wd D kk ad bs a la b lb lo t) (ig_A bs)) 0 0 (ig_A bs) := by
  refine Met.ofW (cc := cX4_homeBy) (maxL := 4) (ret := (some .int)) (by decide) rfl ?_
  intro p e s m args below meth c s₁ B hml hv
  obtain ⟨rfl, E, hP⟩ := hv
  have hk := B.notSynchronized
  have hr := B.returns
  have F : CallFix p m c cX4_homeBy 4 s _ ig_all RX4 := ⟨B.exec, B.bytes, hml, findClass_of_methodNamed B.named, fun w hw => atoms_spec B.pre w (List.mem_cons_of_mem _ hw)⟩
  have Z : ig_Z D kk ad bs s s.heap [] a la b lb lo := ig_Z.rf hP
  have hl := lv_entry ([.ref (ad 24), .int x1, .int x2, .int x3]) (n := 4) (Nat.le_of_ble_eq_true rfl)
  rw [lg_entry_eq]
  generalize (lg_sl ([.ref (ad 24), .int x1, .int x2, .int x3]) ++ List.replicate (4 - (lg_sl ([.ref (ad 24), .int x1, .int x2, .int x3])).length) Slot.unset).toArray = ls at hl ⊢
  have hl : lv_has ls 4 [(0, .ref (ad 24)), (1, .int x1), (2, .int x2), (3, .int x3)] := hl
  refine lv_aload_n F.1 F.2.1 dX4_homeBy_0 rfl (lv_at hl 0 rfl) ?_
  refine gf_X4_11 F E Z dX4_homeBy_1 ?_
  refine lv_iload_n F.1 F.2.1 dX4_homeBy_4 rfl (lv_at hl 1 rfl) ?_
  have hv1 := hf.1
  have hf := hf.2
  refine ig_aald (t0 := 4) (n := 6) (b0 := 26) F E Z rfl (Or.inr rfl) (by decide) (ig_k_25 _ _ _ _ _ _) hv1 dX4_homeBy_5 ?_
  refine lv_iload_n F.1 F.2.1 dX4_homeBy_6 rfl (lv_at hl 2 rfl) ?_
  have hv2 := hf.1
  have hf := hf.2
  refine ig_iald (f := a (26 + x1.toNatClampNeg)) F E Z (by have := ig_lt hv1; omega) (by rw [ig_mm_a _ _ (by have := ig_lt hv1; omega)]; exact (ig_c_rc _ _ _ _ _ _ (ig_lt hv1))) hv2 dX4_homeBy_7 ?_
  refine lv_aload_n F.1 F.2.1 dX4_homeBy_8 rfl (lv_at hl 0 rfl) ?_
  refine gf_X4_16 F E Z dX4_homeBy_9 ?_
  refine lv_iload_n F.1 F.2.1 dX4_homeBy_12 rfl (lv_at hl 3 rfl) ?_
  refine lv_iconst (v := 1) F.1 F.2.1 dX4_homeBy_13 (by decide) ?_
  refine lv_iload_n F.1 F.2.1 dX4_homeBy_14 rfl (lv_at hl 2 rfl) ?_
  refine lv_ishl F.1 F.2.1 dX4_homeBy_15 ?_
  refine lv_ior F.1 F.2.1 dX4_homeBy_16 ?_
  have hv3 := hf.1
  have hf := hf.2
  refine ig_aald (t0 := 4) (n := 64) (b0 := 33) F E Z rfl (Or.inr rfl) (by decide) (ig_k_32 _ _ _ _ _ _) hv3 dX4_homeBy_17 ?_
  refine lv_iload_n F.1 F.2.1 dX4_homeBy_18 rfl (lv_at hl 2 rfl) ?_
  have hv4 := hf.1
  have hf := hf.2
  refine ig_iald (f := a (33 + ((x3 ||| (1 <<< (x2 &&& 31))).toNatClampNeg))) F E Z (by have := ig_lt hv3; omega) (by rw [ig_mm_a _ _ (by have := ig_lt hv3; omega)]; exact (ig_c_rh _ _ _ _ _ _ (ig_lt hv3))) hv4 dX4_homeBy_19 ?_
  refine lv_iadd F.1 F.2.1 dX4_homeBy_20 ?_
  exact W.iret (v := (a (26 + x1.toNatClampNeg) x2.toNatClampNeg) + (a (33 + ((x3 ||| (1 <<< (x2 &&& 31))).toNatClampNeg)) x2.toNatClampNeg)) F.1 F.2.1 hr (fun t ht hW => ⟨⟨_, (), rfl, hf, Z.wd E ht hW⟩, Z.fr ht⟩) Z.2.2.2 dX4_homeBy_21
set_option maxHeartbeats 4000000 in
set_option maxRecDepth 100000 in
theorem wm_X4_leastHome_6 (F : CallFix p m c cX4_leastHome 5 s args ig_all RX4) (E : ig_E D kk ad bs s) (hr : meth.sig.returnType = (some .int)) (hk : meth.locks = false) (post : Int32 → Prop) :
    ∀ (n : Nat) (x1 : Int32) (x2 : Int32) (x3 : Int32) (x4 : Int32) (H : Heap) (locs : List Loc) (ls : Array Slot), wp_X4_leastHome_6 a la post n x1 x2 x3 x4 → ig_Z D kk ad bs s H locs a la b lb lo → lv_has ls 5 [(0, .ref (ad 24)), (1, .int x1), (2, .int x2), (3, .int x3), (4, .int x4)] → W p l e (k2_rm 1 23) s m args below meth c H locs 0 0 (MQ below (va_Qi (fun (r : Int32) (_ : Unit) => post r) (fun _ t => ig_Wd D kk ad bs a la b lb lo t) (ig_A bs)) args s 0 0 (ig_A bs)) (F0 m 6 ls []) := by
  intro n
  induction n with
  | zero => intro x1 x2 x3 x4 H locs ls hf Z hl; exact False.elim hf
  | succ n ih =>
    intro x1 x2 x3 x4 H locs ls hf Z hl
    refine lv_iload F.1 F.2.1 dX4_leastHome_6 (lv_at hl 4 rfl) ?_
    refine lv_aload_n F.1 F.2.1 dX4_leastHome_8 rfl (lv_at hl 0 rfl) ?_
    refine gf_X4_19 F E Z dX4_leastHome_9 ?_
    refine gf_X4_23 F E Z dX4_leastHome_12 ?_
    refine lv_icmp_ge (tgt := 46) F.1 F.2.1 dX4_leastHome_15 (by decide) (fun c_1 => ?_) (fun c_1 => ?_)
    · have hf := hf.1 c_1
      refine lv_iload_n F.1 F.2.1 dX4_leastHome_46 rfl (lv_at hl 3 rfl) ?_
      exact W.iret (v := x3) F.1 F.2.1 hr (fun t ht hW => ⟨⟨_, (), rfl, hf, Z.wd E ht hW⟩, Z.fr ht⟩) Z.2.2.2 dX4_leastHome_47
    · have hf := hf.2 c_1
      refine lv_iload_n F.1 F.2.1 dX4_leastHome_18 rfl (lv_at hl 2 rfl) ?_
      refine lv_iload F.1 F.2.1 dX4_leastHome_19 (lv_at hl 4 rfl) ?_
      have hM := k_X5_has l (D := D) (kk := kk) (ad := ad) (bs := bs) (a := a) (la := la) (b := b) (lb := lb) (lo := lo) x2 x4 hf
      refine ig_calli E Z (ig_runSN (As := [.int x2, .int x4]) (rest := []) F E Z hl (host := "Intergreen") (by decide +kernel) G_X4_59 G_X4_59_i G_X4_59_s hM md_X5_has rfl ⟨rfl, rfl⟩ ⟨Nat.le_of_ble_eq_true rfl, Nat.le_of_ble_eq_true rfl⟩ (Nat.le_of_ble_eq_true rfl) dX4_leastHome_21 ⟨Nat.le_of_ble_eq_true rfl, Nat.le_of_ble_eq_true rfl⟩) (fun r2 u H locs hf Z => ?_)
      refine lv_if_ne (tgt := 40) F.1 F.2.1 dX4_leastHome_24 (by decide) (fun c_3 => ?_) (fun c_3 => ?_)
      · have hf := hf.1 c_3
        refine lv_iinc (v := x4 + 1) (lv' := [(4, .int (x4 + 1)), (0, .ref (ad 24)), (1, .int x1), (2, .int x2), (3, .int x3)]) F.1 F.2.1 dX4_leastHome_40 hl (k := 4) rfl (by rfl) (by decide) rfl (fun ls hl => ?_)
        refine lv_goto (tgt := 6) F.1 F.2.1 dX4_leastHome_43 (by decide) ?_
        exact ih x1 x2 x3 (x4 + 1) _ _ _ hf Z (lv_sub hl [1, 2, 3, 4, 0] rfl)
      · have hf := hf.2 c_3
        refine lv_iload_n F.1 F.2.1 dX4_leastHome_27 rfl (lv_at hl 3 rfl) ?_
        refine lv_aload_n F.1 F.2.1 dX4_leastHome_28 rfl (lv_at hl 0 rfl) ?_
        refine lv_iload_n F.1 F.2.1 dX4_leastHome_29 rfl (lv_at hl 1 rfl) ?_
        refine lv_iload F.1 F.2.1 dX4_leastHome_30 (lv_at hl 4 rfl) ?_
        refine lv_iload_n F.1 F.2.1 dX4_leastHome_32 rfl (lv_at hl 2 rfl) ?_
        have hM := k_X4_homeBy l (D := D) (kk := kk) (ad := ad) (bs := bs) (a := a) (la := la) (b := b) (lb := lb) (lo := lo) x1 x4 x2 hf
        refine ig_calli E Z (ig_runV (As := [.int x1, .int x4, .int x2]) (rest := [.int x3]) F E Z hl G_X4_66 hM (i := 24) (by decide) (ig_k_24 _ _ _ _ _ _) rfl rfl md_X4_homeBy rfl ⟨rfl, rfl⟩ ⟨Nat.le_of_ble_eq_true rfl, Nat.le_of_ble_eq_true rfl⟩ (Nat.le_of_ble_eq_true rfl) dX4_leastHome_33 ⟨Nat.le_of_ble_eq_true rfl, Nat.le_of_ble_eq_true rfl⟩) (fun r4 u H locs hf Z => ?_)
        refine va_mmin F.1 F.2.1 (F.2.2.1.trans hl.1.symm) F.2.2.2.1 (F.2.2.2.2 _ mw_332) (F.2.2.2.2 _ mw_329) (F.2.2.2.2 _ mw_324) (F.2.2.2.2 _ mw_330) (Nat.le_of_ble_eq_true rfl) (Nat.le_of_ble_eq_true rfl) (Nat.le_of_ble_eq_true rfl) (Nat.le_of_ble_eq_true rfl) dX4_leastHome_36 ?_
        refine lv_istore_n (lv' := [(3, .int (if r4 < x3 then r4 else x3)), (0, .ref (ad 24)), (1, .int x1), (2, .int x2), (4, .int x4)]) F.1 F.2.1 dX4_leastHome_39 rfl hl (by decide) rfl (fun ls hl => ?_)
        refine lv_iinc (v := x4 + 1) (lv' := [(4, .int (x4 + 1)), (3, .int (if r4 < x3 then r4 else x3)), (0, .ref (ad 24)), (1, .int x1), (2, .int x2)]) F.1 F.2.1 dX4_leastHome_40 hl (k := 4) rfl (by rfl) (by decide) rfl (fun ls hl => ?_)
        refine lv_goto (tgt := 6) F.1 F.2.1 dX4_leastHome_43 (by decide) ?_
        exact ih x1 x2 (if r4 < x3 then r4 else x3) (x4 + 1) _ _ _ hf Z (lv_sub hl [2, 3, 4, 1, 0] rfl)
set_option maxHeartbeats 4000000 in
set_option maxRecDepth 100000 in
theorem k_X4_leastHome (l : Launch) {D : va_G} {kk : Nat → ClassId} {ad : Nat → Nat} {bs : Nat} {a : ig_M} {la : Int64} {b : ig_M} {lb lo : Int64} (x1 : Int32) (x2 : Int32) {post : Int32 → Prop} (hf : wp_X4_leastHome a la x1 x2 post) : Met l yX4_leastHome (ig_ws yX4_leastHome cX4_leastHome 5 (some .int)) (k2_rm 1 23) (va_Pc [.ref (ad 24), .int x1, .int x2] (ig_Wd D kk ad bs a la b lb lo)) (va_Qi (fun (r : Int32) (_ : Unit) => post r) (fun _ t => ig_Wd D kk ad bs a la b lb lo t) (ig_A bs)) 0 0 (ig_A bs) := by
  refine Met.ofW (cc := cX4_leastHome) (maxL := 5) (ret := (some .int)) (by decide) rfl ?_
  intro p e s m args below meth c s₁ B hml hv
  obtain ⟨rfl, E, hP⟩ := hv
  have hk := B.notSynchronized
  have hr := B.returns
  have F : CallFix p m c cX4_leastHome 5 s _ ig_all RX4 := ⟨B.exec, B.bytes, hml, findClass_of_methodNamed B.named, fun w hw => atoms_spec B.pre w (List.mem_cons_of_mem _ hw)⟩
  have Z : ig_Z D kk ad bs s s.heap [] a la b lb lo := ig_Z.rf hP
  have hl := lv_entry ([.ref (ad 24), .int x1, .int x2]) (n := 5) (Nat.le_of_ble_eq_true rfl)
  rw [lg_entry_eq]
  generalize (lg_sl ([.ref (ad 24), .int x1, .int x2]) ++ List.replicate (5 - (lg_sl ([.ref (ad 24), .int x1, .int x2])).length) Slot.unset).toArray = ls at hl ⊢
  have hl : lv_has ls 5 [(0, .ref (ad 24)), (1, .int x1), (2, .int x2)] := hl
  refine lv_ldc (v := 1000000) F.1 F.2.1 F.2.2.2.1 (F.2.2.2.2 _ mw_331) dX4_leastHome_0 ?_
  refine lv_istore_n (lv' := [(3, .int 1000000), (0, .ref (ad 24)), (1, .int x1), (2, .int x2)]) F.1 F.2.1 dX4_leastHome_2 rfl hl (by decide) rfl (fun ls hl => ?_)
  refine lv_iconst (v := 0) F.1 F.2.1 dX4_leastHome_3 (by decide) ?_
  refine lv_istore (lv' := [(4, .int 0), (3, .int 1000000), (0, .ref (ad 24)), (1, .int x1), (2, .int x2)]) F.1 F.2.1 dX4_leastHome_4 hl (by decide) rfl (fun ls hl => ?_)
  obtain ⟨n1, hf⟩ := hf
  exact wm_X4_leastHome_6 F E hr hk post n1 x1 x2 1000000 0 _ _ _ hf Z (lv_sub hl [2, 3, 4, 1, 0] rfl)
set_option maxHeartbeats 4000000 in
set_option maxRecDepth 100000 in
theorem wm_X4_findWaysHome_72 (F : CallFix p m c cX4_findWaysHome 4 s args ig_all RX4) (E : ig_E D kk ad bs s) (hr : meth.sig.returnType = none) (hk : meth.locks = false) (k_24 : ig_M → Int64 → Int32 → Int32 → Int32 → Prop) (post : ig_M → Int64 → Prop) (h_24 : ∀ (a : ig_M) (la : Int64) (x1 : Int32) (x2 : Int32) (x3 : Int32) (H : Heap) (locs : List Loc) (ls : Array Slot), k_24 a la x1 x2 x3 → ig_Z D kk ad bs s H locs a la b lb lo → lv_has ls 4 [(0, .ref (ad 24)), (1, .int x1), (2, .int x2), (3, .int x3)] → W p l e (k2_rm 4 93) s m args below meth c H locs 0 0 (MQ below (va_Qv (fun u : ig_M × Int64 => post u.1 u.2) (fun u t => ig_Wd D kk ad bs u.1 u.2 b lb lo t) (ig_A bs)) args s 0 0 (ig_A bs)) (F0 m 24 ls [])) :
    ∀ (a : ig_M) (la : Int64) (x1 : Int32) (x2 : Int32) (x3 : Int32) (t0 : Int32) (t1 : Int32) (q2 : Nat) (H : Heap) (locs : List Loc) (ls : Array Slot) (hq2 : q2 < 64), wp_X4_findWaysHome_72 k_24 post a la x1 x2 x3 t0 t1 q2 → ig_Z D kk ad bs s H locs a la b lb lo → lv_has ls 4 [(0, .ref (ad 24)), (1, .int x1), (2, .int x2), (3, .int x3)] → W p l e (k2_rm 4 93) s m args below meth c H locs 0 0 (MQ below (va_Qv (fun u : ig_M × Int64 => post u.1 u.2) (fun u t => ig_Wd D kk ad bs u.1 u.2 b lb lo t) (ig_A bs)) args s 0 0 (ig_A bs)) (F0 m 72 ls [.int t0, .int t1, .ref (ad (33 + q2))]) := by
  intro a la x1 x2 x3 t0 t1 q2 H locs ls hq2 hf Z hl
  have hv12 := hf.1
  have hf := hf.2
  refine ig_iastA (n := 6) F E Z (by have := hq2; omega) (fun r => ig_c_rh _ _ _ _ _ r hq2) hv12 dX4_findWaysHome_72 (fun H locs a13 ha13 Z => ?_)
  have hf := hf a13 ha13
  refine lv_iinc (v := x3 + 1) (lv' := [(3, .int (x3 + 1)), (0, .ref (ad 24)), (1, .int x1), (2, .int x2)]) F.1 F.2.1 dX4_findWaysHome_73 hl (k := 3) rfl (by rfl) (by decide) rfl (fun ls hl => ?_)
  refine lv_goto (tgt := 24) F.1 F.2.1 dX4_findWaysHome_76 (by decide) ?_
  exact h_24 a13 la x1 x2 (x3 + 1) _ _ _ hf Z (lv_sub hl [1, 2, 3, 0] rfl)
set_option maxHeartbeats 4000000 in
set_option maxRecDepth 100000 in
theorem wm_X4_findWaysHome_24 (F : CallFix p m c cX4_findWaysHome 4 s args ig_all RX4) (E : ig_E D kk ad bs s) (hr : meth.sig.returnType = none) (hk : meth.locks = false) (k_18 : ig_M → Int64 → Int32 → Int32 → Prop) (post : ig_M → Int64 → Prop) (h_18 : ∀ (a : ig_M) (la : Int64) (x1 : Int32) (x2 : Int32) (H : Heap) (locs : List Loc) (ls : Array Slot), k_18 a la x1 x2 → ig_Z D kk ad bs s H locs a la b lb lo → lv_has ls 4 [(0, .ref (ad 24)), (1, .int x1), (2, .int x2)] → W p l e (k2_rm 4 93) s m args below meth c H locs 0 0 (MQ below (va_Qv (fun u : ig_M × Int64 => post u.1 u.2) (fun u t => ig_Wd D kk ad bs u.1 u.2 b lb lo t) (ig_A bs)) args s 0 0 (ig_A bs)) (F0 m 18 ls [])) :
    ∀ (n : Nat) (a : ig_M) (la : Int64) (x1 : Int32) (x2 : Int32) (x3 : Int32) (H : Heap) (locs : List Loc) (ls : Array Slot), wp_X4_findWaysHome_24 k_18 post n a la x1 x2 x3 → ig_Z D kk ad bs s H locs a la b lb lo → lv_has ls 4 [(0, .ref (ad 24)), (1, .int x1), (2, .int x2), (3, .int x3)] → W p l e (k2_rm 4 93) s m args below meth c H locs 0 0 (MQ below (va_Qv (fun u : ig_M × Int64 => post u.1 u.2) (fun u t => ig_Wd D kk ad bs u.1 u.2 b lb lo t) (ig_A bs)) args s 0 0 (ig_A bs)) (F0 m 24 ls []) := by
  intro n
  induction n with
  | zero => intro a la x1 x2 x3 H locs ls hf Z hl; exact False.elim hf
  | succ n ih =>
    intro a la x1 x2 x3 H locs ls hf Z hl
    refine lv_iload_n F.1 F.2.1 dX4_findWaysHome_24 rfl (lv_at hl 3 rfl) ?_
    refine lv_aload_n F.1 F.2.1 dX4_findWaysHome_25 rfl (lv_at hl 0 rfl) ?_
    refine gf_X4_19 F E Z dX4_findWaysHome_26 ?_
    refine gf_X4_23 F E Z dX4_findWaysHome_29 ?_
    refine lv_icmp_ge (tgt := 79) F.1 F.2.1 dX4_findWaysHome_32 (by decide) (fun c_4 => ?_) (fun c_4 => ?_)
    · have hf := hf.1 c_4
      refine lv_iinc (v := x2 + (-2)) (lv' := [(2, .int (x2 + (-2))), (0, .ref (ad 24)), (1, .int x1), (3, .int x3)]) F.1 F.2.1 dX4_findWaysHome_79 hl (k := 2) rfl (by rfl) (by decide) rfl (fun ls hl => ?_)
      refine lv_goto (tgt := 18) F.1 F.2.1 dX4_findWaysHome_82 (by decide) ?_
      exact h_18 a la x1 (x2 + (-2)) _ _ _ hf Z (lv_sub hl [1, 2, 0] rfl)
    · have hf := hf.2 c_4
      refine lv_iload_n F.1 F.2.1 dX4_findWaysHome_35 rfl (lv_at hl 2 rfl) ?_
      refine lv_iload_n F.1 F.2.1 dX4_findWaysHome_36 rfl (lv_at hl 3 rfl) ?_
      have hM := k_X5_has l (D := D) (kk := kk) (ad := ad) (bs := bs) (a := a) (la := la) (b := b) (lb := lb) (lo := lo) x2 x3 hf
      refine ig_calli E Z (ig_runSN (As := [.int x2, .int x3]) (rest := []) F E Z hl (host := "Intergreen") (by decide +kernel) G_X4_59 G_X4_59_i G_X4_59_s hM md_X5_has rfl ⟨rfl, rfl⟩ ⟨Nat.le_of_ble_eq_true rfl, Nat.le_of_ble_eq_true rfl⟩ (Nat.le_of_ble_eq_true rfl) dX4_findWaysHome_37 ⟨Nat.le_of_ble_eq_true rfl, Nat.le_of_ble_eq_true rfl⟩) (fun r5 u H locs hf Z => ?_)
      refine lv_if_eq (tgt := 73) F.1 F.2.1 dX4_findWaysHome_40 (by decide) (fun c_6 => ?_) (fun c_6 => ?_)
      · have hf := hf.1 c_6
        refine lv_iinc (v := x3 + 1) (lv' := [(3, .int (x3 + 1)), (0, .ref (ad 24)), (1, .int x1), (2, .int x2)]) F.1 F.2.1 dX4_findWaysHome_73 hl (k := 3) rfl (by rfl) (by decide) rfl (fun ls hl => ?_)
        refine lv_goto (tgt := 24) F.1 F.2.1 dX4_findWaysHome_76 (by decide) ?_
        exact ih a la x1 x2 (x3 + 1) _ _ _ hf Z (lv_sub hl [1, 2, 3, 0] rfl)
      · have hf := hf.2 c_6
        refine lv_aload_n F.1 F.2.1 dX4_findWaysHome_43 rfl (lv_at hl 0 rfl) ?_
        refine gf_X4_16 F E Z dX4_findWaysHome_44 ?_
        refine lv_iload_n F.1 F.2.1 dX4_findWaysHome_47 rfl (lv_at hl 2 rfl) ?_
        have hv7 := hf.1
        have hf := hf.2
        refine ig_aald (t0 := 4) (n := 64) (b0 := 33) F E Z rfl (Or.inr rfl) (by decide) (ig_k_32 _ _ _ _ _ _) hv7 dX4_findWaysHome_48 ?_
        refine lv_iload_n F.1 F.2.1 dX4_findWaysHome_49 rfl (lv_at hl 3 rfl) ?_
        refine lv_iload_n F.1 F.2.1 dX4_findWaysHome_50 rfl (lv_at hl 2 rfl) ?_
        refine lv_iload_n F.1 F.2.1 dX4_findWaysHome_51 rfl (lv_at hl 1 rfl) ?_
        refine lv_icmp_ne (tgt := 66) F.1 F.2.1 dX4_findWaysHome_52 (by decide) (fun c_8 => ?_) (fun c_8 => ?_)
        · have hf := hf.1 c_8
          refine lv_aload_n F.1 F.2.1 dX4_findWaysHome_66 rfl (lv_at hl 0 rfl) ?_
          refine lv_iload_n F.1 F.2.1 dX4_findWaysHome_67 rfl (lv_at hl 3 rfl) ?_
          refine lv_iload_n F.1 F.2.1 dX4_findWaysHome_68 rfl (lv_at hl 2 rfl) ?_
          have hM := k_X4_leastHome l (D := D) (kk := kk) (ad := ad) (bs := bs) (a := a) (la := la) (b := b) (lb := lb) (lo := lo) x3 x2 hf
          refine ig_calli E Z (ig_runV (As := [.int x3, .int x2]) (rest := [.int x3, .ref (ad (33 + x2.toNatClampNeg))]) F E Z hl G_X4_63 hM (i := 24) (by decide) (ig_k_24 _ _ _ _ _ _) rfl rfl md_X4_leastHome rfl ⟨rfl, rfl⟩ ⟨Nat.le_of_ble_eq_true rfl, Nat.le_of_ble_eq_true rfl⟩ (Nat.le_of_ble_eq_true rfl) dX4_findWaysHome_69 ⟨Nat.le_of_ble_eq_true rfl, Nat.le_of_ble_eq_true rfl⟩) (fun r9 u H locs hf Z => ?_)
          exact wm_X4_findWaysHome_72 F E hr hk (fun (z0 : ig_M) (z1 : Int64) (z2 : Int32) (z3 : Int32) (z4 : Int32) => wp_X4_findWaysHome_24 k_18 post n z0 z1 z2 z3 z4) post ih a la x1 x2 x3 r9 x3 x2.toNatClampNeg _ _ _ (ig_lt hv7) hf Z (lv_sub hl [0, 1, 2, 3] rfl)
        · have hf := hf.2 c_8
          refine lv_aload_n F.1 F.2.1 dX4_findWaysHome_55 rfl (lv_at hl 0 rfl) ?_
          refine gf_X4_11 F E Z dX4_findWaysHome_56 ?_
          refine lv_iload_n F.1 F.2.1 dX4_findWaysHome_59 rfl (lv_at hl 3 rfl) ?_
          have hv10 := hf.1
          have hf := hf.2
          refine ig_aald (t0 := 4) (n := 6) (b0 := 26) F E Z rfl (Or.inr rfl) (by decide) (ig_k_25 _ _ _ _ _ _) hv10 dX4_findWaysHome_60 ?_
          refine lv_iconst (v := 0) F.1 F.2.1 dX4_findWaysHome_61 (by decide) ?_
          have hv11 := hf.1
          have hf := hf.2
          refine ig_iald (f := a (26 + x3.toNatClampNeg)) F E Z (by have := ig_lt hv10; omega) (by rw [ig_mm_a _ _ (by have := ig_lt hv10; omega)]; exact (ig_c_rc _ _ _ _ _ _ (ig_lt hv10))) hv11 dX4_findWaysHome_62 ?_
          refine lv_goto (tgt := 72) F.1 F.2.1 dX4_findWaysHome_63 (by decide) ?_
          exact wm_X4_findWaysHome_72 F E hr hk (fun (z0 : ig_M) (z1 : Int64) (z2 : Int32) (z3 : Int32) (z4 : Int32) => wp_X4_findWaysHome_24 k_18 post n z0 z1 z2 z3 z4) post ih a la x1 x2 x3 (a (26 + x3.toNatClampNeg) (0 : Int32).toNatClampNeg) x3 x2.toNatClampNeg _ _ _ (ig_lt hv7) hf Z (lv_sub hl [0, 1, 2, 3] rfl)
set_option maxHeartbeats 4000000 in
set_option maxRecDepth 100000 in
theorem wm_X4_findWaysHome_18 (F : CallFix p m c cX4_findWaysHome 4 s args ig_all RX4) (E : ig_E D kk ad bs s) (hr : meth.sig.returnType = none) (hk : meth.locks = false) (post : ig_M → Int64 → Prop) :
    ∀ (n : Nat) (a : ig_M) (la : Int64) (x1 : Int32) (x2 : Int32) (H : Heap) (locs : List Loc) (ls : Array Slot), wp_X4_findWaysHome_18 post n a la x1 x2 → ig_Z D kk ad bs s H locs a la b lb lo → lv_has ls 4 [(0, .ref (ad 24)), (1, .int x1), (2, .int x2)] → W p l e (k2_rm 4 93) s m args below meth c H locs 0 0 (MQ below (va_Qv (fun u : ig_M × Int64 => post u.1 u.2) (fun u t => ig_Wd D kk ad bs u.1 u.2 b lb lo t) (ig_A bs)) args s 0 0 (ig_A bs)) (F0 m 18 ls []) := by
  intro n
  induction n with
  | zero => intro a la x1 x2 H locs ls hf Z hl; exact False.elim hf
  | succ n ih =>
    intro a la x1 x2 H locs ls hf Z hl
    refine lv_iload_n F.1 F.2.1 dX4_findWaysHome_18 rfl (lv_at hl 2 rfl) ?_
    refine lv_if_le (tgt := 85) F.1 F.2.1 dX4_findWaysHome_19 (by decide) (fun c_3 => ?_) (fun c_3 => ?_)
    · have hf := hf.1 c_3
      exact W.vret F.1 F.2.1 hr (fun t ht hW => ⟨⟨(a, la), rfl, hf, Z.wd E ht hW⟩, Z.fr ht⟩) Z.2.2.2 dX4_findWaysHome_85
    · have hf := hf.2 c_3
      refine lv_iconst (v := 0) F.1 F.2.1 dX4_findWaysHome_22 (by decide) ?_
      refine lv_istore_n (lv' := [(3, .int 0), (0, .ref (ad 24)), (1, .int x1), (2, .int x2)]) F.1 F.2.1 dX4_findWaysHome_23 rfl hl (by decide) rfl (fun ls hl => ?_)
      obtain ⟨n1, hf⟩ := hf
      exact wm_X4_findWaysHome_24 F E hr hk (fun (z0 : ig_M) (z1 : Int64) (z2 : Int32) (z3 : Int32) => wp_X4_findWaysHome_18 post n z0 z1 z2 z3) post ih n1 a la x1 x2 0 _ _ _ hf Z (lv_sub hl [1, 2, 3, 0] rfl)
set_option maxHeartbeats 4000000 in
set_option maxRecDepth 100000 in
theorem k_X4_findWaysHome (l : Launch) {D : va_G} {kk : Nat → ClassId} {ad : Nat → Nat} {bs : Nat} {a : ig_M} {la : Int64} {b : ig_M} {lb lo : Int64} {post : ig_M → Int64 → Prop} (hf : wp_X4_findWaysHome a la post) : Met l yX4_findWaysHome (ig_ws yX4_findWaysHome cX4_findWaysHome 4 none) (k2_rm 4 93) (va_Pc [.ref (ad 24)] (ig_Wd D kk ad bs a la b lb lo)) (va_Qv (fun u : ig_M × Int64 => post u.1 u.2) (fun u t => ig_Wd D kk ad bs u.1 u.2 b lb lo t) (ig_A bs)) 0 0 (ig_A bs) := by
  refine Met.ofW (cc := cX4_findWaysHome) (maxL := 4) (ret := none) (by decide) rfl ?_
  intro p e s m args below meth c s₁ B hml hv
  obtain ⟨rfl, E, hP⟩ := hv
  have hk := B.notSynchronized
  have hr := B.returns
  have F : CallFix p m c cX4_findWaysHome 4 s _ ig_all RX4 := ⟨B.exec, B.bytes, hml, findClass_of_methodNamed B.named, fun w hw => atoms_spec B.pre w (List.mem_cons_of_mem _ hw)⟩
  have Z : ig_Z D kk ad bs s s.heap [] a la b lb lo := ig_Z.rf hP
  have hl := lv_entry ([.ref (ad 24)]) (n := 4) (Nat.le_of_ble_eq_true rfl)
  rw [lg_entry_eq]
  generalize (lg_sl ([.ref (ad 24)]) ++ List.replicate (4 - (lg_sl ([.ref (ad 24)])).length) Slot.unset).toArray = ls at hl ⊢
  have hl : lv_has ls 4 [(0, .ref (ad 24))] := hl
  refine lv_aload_n F.1 F.2.1 dX4_findWaysHome_0 rfl (lv_at hl 0 rfl) ?_
  have hM := k_X4_findChanges l (D := D) (kk := kk) (ad := ad) (bs := bs) (a := a) (la := la) (b := b) (lb := lb) (lo := lo) hf
  refine ig_callv E Z (ig_runV (As := []) (rest := []) F E Z hl G_X4_40 hM (i := 24) (by decide) (ig_k_24 _ _ _ _ _ _) rfl rfl md_X4_findChanges rfl ⟨rfl, rfl⟩ ⟨Nat.le_of_ble_eq_true rfl, Nat.le_of_ble_eq_true rfl⟩ (Nat.le_of_ble_eq_true rfl) dX4_findWaysHome_1 ⟨Nat.le_of_ble_eq_true rfl, Nat.le_of_ble_eq_true rfl⟩) (fun u H locs hf Z => ?_)
  obtain ⟨a1, la2⟩ := u
  have Z : ig_Z D kk ad bs s H locs a1 la2 b lb lo := Z
  refine lv_iconst (v := 1) F.1 F.2.1 dX4_findWaysHome_4 (by decide) ?_
  refine lv_aload_n F.1 F.2.1 dX4_findWaysHome_5 rfl (lv_at hl 0 rfl) ?_
  refine gf_X4_19 F E Z dX4_findWaysHome_6 ?_
  refine gf_X4_23 F E Z dX4_findWaysHome_9 ?_
  refine lv_ishl F.1 F.2.1 dX4_findWaysHome_12 ?_
  refine lv_iconst (v := 1) F.1 F.2.1 dX4_findWaysHome_13 (by decide) ?_
  refine lv_isub F.1 F.2.1 dX4_findWaysHome_14 ?_
  refine lv_istore_n (lv' := [(1, .int ((1 <<< ((a1 1 4) &&& 31)) - 1)), (0, .ref (ad 24))]) F.1 F.2.1 dX4_findWaysHome_15 rfl hl (by decide) rfl (fun ls hl => ?_)
  refine lv_iload_n F.1 F.2.1 dX4_findWaysHome_16 rfl (lv_at hl 0 rfl) ?_
  refine lv_istore_n (lv' := [(2, .int ((1 <<< ((a1 1 4) &&& 31)) - 1)), (1, .int ((1 <<< ((a1 1 4) &&& 31)) - 1)), (0, .ref (ad 24))]) F.1 F.2.1 dX4_findWaysHome_17 rfl hl (by decide) rfl (fun ls hl => ?_)
  obtain ⟨n1, hf⟩ := hf
  exact wm_X4_findWaysHome_18 F E hr hk post n1 a1 la2 ((1 <<< ((a1 1 4) &&& 31)) - 1) ((1 <<< ((a1 1 4) &&& 31)) - 1) _ _ _ hf Z (lv_sub hl [2, 1, 0] rfl)
set_option maxHeartbeats 4000000 in
set_option maxRecDepth 100000 in
theorem wm_X3_greatestLeast_4 (F : CallFix p m c cX3_greatestLeast 4 s args ig_all RX3) (E : ig_E D kk ad bs s) (hr : meth.sig.returnType = (some .int)) (hk : meth.locks = false) (post : Int32 → Prop) :
    ∀ (n : Nat) (x1 : Int32) (x2 : Int32) (x3 : Int32) (H : Heap) (locs : List Loc) (ls : Array Slot), wp_X3_greatestLeast_4 a la post n x1 x2 x3 → ig_Z D kk ad bs s H locs a la b lb lo → lv_has ls 4 [(0, .ref (ad 1)), (1, .int x1), (2, .int x2), (3, .int x3)] → W p l e (k2_rm 2 43) s m args below meth c H locs 0 0 (MQ below (va_Qi (fun (r : Int32) (_ : Unit) => post r) (fun _ t => ig_Wd D kk ad bs a la b lb lo t) (ig_A bs)) args s 0 0 (ig_A bs)) (F0 m 4 ls []) := by
  intro n
  induction n with
  | zero => intro x1 x2 x3 H locs ls hf Z hl; exact False.elim hf
  | succ n ih =>
    intro x1 x2 x3 H locs ls hf Z hl
    refine lv_iload_n F.1 F.2.1 dX3_greatestLeast_4 rfl (lv_at hl 3 rfl) ?_
    refine lv_aload_n F.1 F.2.1 dX3_greatestLeast_5 rfl (lv_at hl 0 rfl) ?_
    refine gf_X3_27 F E Z dX3_greatestLeast_6 ?_
    refine lv_icmp_ge (tgt := 44) F.1 F.2.1 dX3_greatestLeast_9 (by decide) (fun c_1 => ?_) (fun c_1 => ?_)
    · have hf := hf.1 c_1
      refine lv_iload_n F.1 F.2.1 dX3_greatestLeast_44 rfl (lv_at hl 2 rfl) ?_
      exact W.iret (v := x2) F.1 F.2.1 hr (fun t ht hW => ⟨⟨_, (), rfl, hf, Z.wd E ht hW⟩, Z.fr ht⟩) Z.2.2.2 dX3_greatestLeast_45
    · have hf := hf.2 c_1
      refine lv_aload_n F.1 F.2.1 dX3_greatestLeast_12 rfl (lv_at hl 0 rfl) ?_
      refine lv_iload_n F.1 F.2.1 dX3_greatestLeast_13 rfl (lv_at hl 1 rfl) ?_
      have hM := k_X3_setOf l (D := D) (kk := kk) (ad := ad) (bs := bs) (a := a) (la := la) (b := b) (lb := lb) (lo := lo) x1 hf
      refine ig_calli E Z (ig_runV (As := [.int x1]) (rest := []) F E Z hl G_X3_47 hM (i := 1) (by decide) (ig_k_1 _ _ _ _ _ _) rfl rfl md_X3_setOf rfl ⟨rfl, rfl⟩ ⟨Nat.le_of_ble_eq_true rfl, Nat.le_of_ble_eq_true rfl⟩ (Nat.le_of_ble_eq_true rfl) dX3_greatestLeast_14 ⟨Nat.le_of_ble_eq_true rfl, Nat.le_of_ble_eq_true rfl⟩) (fun r2 u H locs hf Z => ?_)
      refine lv_iload_n F.1 F.2.1 dX3_greatestLeast_17 rfl (lv_at hl 3 rfl) ?_
      have hM := k_X5_has l (D := D) (kk := kk) (ad := ad) (bs := bs) (a := a) (la := la) (b := b) (lb := lb) (lo := lo) r2 x3 hf
      refine ig_calli E Z (ig_runSN (As := [.int r2, .int x3]) (rest := []) F E Z hl (host := "Intergreen") (by decide +kernel) G_X3_51 G_X3_51_i G_X3_51_s hM md_X5_has rfl ⟨rfl, rfl⟩ ⟨Nat.le_of_ble_eq_true rfl, Nat.le_of_ble_eq_true rfl⟩ (Nat.le_of_ble_eq_true rfl) dX3_greatestLeast_18 ⟨Nat.le_of_ble_eq_true rfl, Nat.le_of_ble_eq_true rfl⟩) (fun r3 u H locs hf Z => ?_)
      refine lv_if_eq (tgt := 38) F.1 F.2.1 dX3_greatestLeast_21 (by decide) (fun c_4 => ?_) (fun c_4 => ?_)
      · have hf := hf.1 c_4
        refine lv_iinc (v := x3 + 1) (lv' := [(3, .int (x3 + 1)), (0, .ref (ad 1)), (1, .int x1), (2, .int x2)]) F.1 F.2.1 dX3_greatestLeast_38 hl (k := 3) rfl (by rfl) (by decide) rfl (fun ls hl => ?_)
        refine lv_goto (tgt := 4) F.1 F.2.1 dX3_greatestLeast_41 (by decide) ?_
        exact ih x1 x2 (x3 + 1) _ _ _ hf Z (lv_sub hl [1, 2, 3, 0] rfl)
      · have hf := hf.2 c_4
        refine lv_iload_n F.1 F.2.1 dX3_greatestLeast_24 rfl (lv_at hl 2 rfl) ?_
        refine lv_aload_n F.1 F.2.1 dX3_greatestLeast_25 rfl (lv_at hl 0 rfl) ?_
        refine gf_X3_11 F E Z dX3_greatestLeast_26 ?_
        refine lv_iload_n F.1 F.2.1 dX3_greatestLeast_29 rfl (lv_at hl 3 rfl) ?_
        have hv5 := hf.1
        have hf := hf.2
        refine ig_aald (t0 := 3) (n := 8) (b0 := 3) F E Z rfl (Or.inl rfl) (by decide) (ig_k_2 _ _ _ _ _ _) hv5 dX3_greatestLeast_30 ?_
        refine gf_X3_31 F E Z (ig_lt hv5) dX3_greatestLeast_31 ?_
        refine va_mmax F.1 F.2.1 (F.2.2.1.trans hl.1.symm) F.2.2.2.1 (F.2.2.2.2 _ mw_322) (F.2.2.2.2 _ mw_323) (F.2.2.2.2 _ mw_324) (F.2.2.2.2 _ mw_325) (Nat.le_of_ble_eq_true rfl) (Nat.le_of_ble_eq_true rfl) (Nat.le_of_ble_eq_true rfl) (Nat.le_of_ble_eq_true rfl) dX3_greatestLeast_34 ?_
        refine lv_istore_n (lv' := [(2, .int (if x2 < (a (3 + x3.toNatClampNeg) 0) then (a (3 + x3.toNatClampNeg) 0) else x2)), (0, .ref (ad 1)), (1, .int x1), (3, .int x3)]) F.1 F.2.1 dX3_greatestLeast_37 rfl hl (by decide) rfl (fun ls hl => ?_)
        refine lv_iinc (v := x3 + 1) (lv' := [(3, .int (x3 + 1)), (2, .int (if x2 < (a (3 + x3.toNatClampNeg) 0) then (a (3 + x3.toNatClampNeg) 0) else x2)), (0, .ref (ad 1)), (1, .int x1)]) F.1 F.2.1 dX3_greatestLeast_38 hl (k := 3) rfl (by rfl) (by decide) rfl (fun ls hl => ?_)
        refine lv_goto (tgt := 4) F.1 F.2.1 dX3_greatestLeast_41 (by decide) ?_
        exact ih x1 (if x2 < (a (3 + x3.toNatClampNeg) 0) then (a (3 + x3.toNatClampNeg) 0) else x2) (x3 + 1) _ _ _ hf Z (lv_sub hl [2, 3, 1, 0] rfl)
set_option maxHeartbeats 4000000 in
set_option maxRecDepth 100000 in
theorem k_X3_greatestLeast (l : Launch) {D : va_G} {kk : Nat → ClassId} {ad : Nat → Nat} {bs : Nat} {a : ig_M} {la : Int64} {b : ig_M} {lb lo : Int64} (x1 : Int32) {post : Int32 → Prop} (hf : wp_X3_greatestLeast a la x1 post) : Met l yX3_greatestLeast (ig_ws yX3_greatestLeast cX3_greatestLeast 4 (some .int)) (k2_rm 2 43) (va_Pc [.ref (ad 1), .int x1] (ig_Wd D kk ad bs a la b lb lo)) (va_Qi (fun (r : Int32) (_ : Unit) => post r) (fun _ t => ig_Wd D kk ad bs a la b lb lo t) (ig_A bs)) 0 0 (ig_A bs) := by
  refine Met.ofW (cc := cX3_greatestLeast) (maxL := 4) (ret := (some .int)) (by decide) rfl ?_
  intro p e s m args below meth c s₁ B hml hv
  obtain ⟨rfl, E, hP⟩ := hv
  have hk := B.notSynchronized
  have hr := B.returns
  have F : CallFix p m c cX3_greatestLeast 4 s _ ig_all RX3 := ⟨B.exec, B.bytes, hml, findClass_of_methodNamed B.named, fun w hw => atoms_spec B.pre w (List.mem_cons_of_mem _ hw)⟩
  have Z : ig_Z D kk ad bs s s.heap [] a la b lb lo := ig_Z.rf hP
  have hl := lv_entry ([.ref (ad 1), .int x1]) (n := 4) (Nat.le_of_ble_eq_true rfl)
  rw [lg_entry_eq]
  generalize (lg_sl ([.ref (ad 1), .int x1]) ++ List.replicate (4 - (lg_sl ([.ref (ad 1), .int x1])).length) Slot.unset).toArray = ls at hl ⊢
  have hl : lv_has ls 4 [(0, .ref (ad 1)), (1, .int x1)] := hl
  refine lv_iconst (v := 0) F.1 F.2.1 dX3_greatestLeast_0 (by decide) ?_
  refine lv_istore_n (lv' := [(2, .int 0), (0, .ref (ad 1)), (1, .int x1)]) F.1 F.2.1 dX3_greatestLeast_1 rfl hl (by decide) rfl (fun ls hl => ?_)
  refine lv_iconst (v := 0) F.1 F.2.1 dX3_greatestLeast_2 (by decide) ?_
  refine lv_istore_n (lv' := [(3, .int 0), (2, .int 0), (0, .ref (ad 1)), (1, .int x1)]) F.1 F.2.1 dX3_greatestLeast_3 rfl hl (by decide) rfl (fun ls hl => ?_)
  obtain ⟨n1, hf⟩ := hf
  exact wm_X3_greatestLeast_4 F E hr hk post n1 x1 0 0 _ _ _ hf Z (lv_sub hl [2, 3, 1, 0] rfl)
set_option maxHeartbeats 4000000 in
set_option maxRecDepth 100000 in
theorem wm_X4_secondsOfGreens_4 (F : CallFix p m c cX4_secondsOfGreens 3 s args ig_all RX4) (E : ig_E D kk ad bs s) (hr : meth.sig.returnType = (some .int)) (hk : meth.locks = false) (post : Int32 → Prop) :
    ∀ (n : Nat) (x1 : Int32) (x2 : Int32) (H : Heap) (locs : List Loc) (ls : Array Slot), wp_X4_secondsOfGreens_4 a la post n x1 x2 → ig_Z D kk ad bs s H locs a la b lb lo → lv_has ls 3 [(0, .ref (ad 24)), (1, .int x1), (2, .int x2)] → W p l e (k2_rm 3 66) s m args below meth c H locs 0 0 (MQ below (va_Qi (fun (r : Int32) (_ : Unit) => post r) (fun _ t => ig_Wd D kk ad bs a la b lb lo t) (ig_A bs)) args s 0 0 (ig_A bs)) (F0 m 4 ls []) := by
  intro n
  induction n with
  | zero => intro x1 x2 H locs ls hf Z hl; exact False.elim hf
  | succ n ih =>
    intro x1 x2 H locs ls hf Z hl
    refine lv_iload_n F.1 F.2.1 dX4_secondsOfGreens_4 rfl (lv_at hl 2 rfl) ?_
    refine lv_aload_n F.1 F.2.1 dX4_secondsOfGreens_5 rfl (lv_at hl 0 rfl) ?_
    refine gf_X4_19 F E Z dX4_secondsOfGreens_6 ?_
    refine gf_X4_23 F E Z dX4_secondsOfGreens_9 ?_
    refine lv_icmp_ge (tgt := 32) F.1 F.2.1 dX4_secondsOfGreens_12 (by decide) (fun c_1 => ?_) (fun c_1 => ?_)
    · have hf := hf.1 c_1
      refine lv_iload_n F.1 F.2.1 dX4_secondsOfGreens_32 rfl (lv_at hl 1 rfl) ?_
      exact W.iret (v := x1) F.1 F.2.1 hr (fun t ht hW => ⟨⟨_, (), rfl, hf, Z.wd E ht hW⟩, Z.fr ht⟩) Z.2.2.2 dX4_secondsOfGreens_33
    · have hf := hf.2 c_1
      refine lv_iload_n F.1 F.2.1 dX4_secondsOfGreens_15 rfl (lv_at hl 1 rfl) ?_
      refine lv_aload_n F.1 F.2.1 dX4_secondsOfGreens_16 rfl (lv_at hl 0 rfl) ?_
      refine gf_X4_19 F E Z dX4_secondsOfGreens_17 ?_
      refine lv_iload_n F.1 F.2.1 dX4_secondsOfGreens_20 rfl (lv_at hl 2 rfl) ?_
      have hM := k_X3_greatestLeast l (D := D) (kk := kk) (ad := ad) (bs := bs) (a := a) (la := la) (b := b) (lb := lb) (lo := lo) x2 hf
      refine ig_calli E Z (ig_runV (As := [.int x2]) (rest := [.int x1]) F E Z hl G_X4_53 hM (i := 1) (by decide) (ig_k_1 _ _ _ _ _ _) rfl rfl md_X3_greatestLeast rfl ⟨rfl, rfl⟩ ⟨Nat.le_of_ble_eq_true rfl, Nat.le_of_ble_eq_true rfl⟩ (Nat.le_of_ble_eq_true rfl) dX4_secondsOfGreens_21 ⟨Nat.le_of_ble_eq_true rfl, Nat.le_of_ble_eq_true rfl⟩) (fun r2 u H locs hf Z => ?_)
      refine lv_iadd F.1 F.2.1 dX4_secondsOfGreens_24 ?_
      refine lv_istore_n (lv' := [(1, .int (x1 + r2)), (0, .ref (ad 24)), (2, .int x2)]) F.1 F.2.1 dX4_secondsOfGreens_25 rfl hl (by decide) rfl (fun ls hl => ?_)
      refine lv_iinc (v := x2 + 1) (lv' := [(2, .int (x2 + 1)), (1, .int (x1 + r2)), (0, .ref (ad 24))]) F.1 F.2.1 dX4_secondsOfGreens_26 hl (k := 2) rfl (by rfl) (by decide) rfl (fun ls hl => ?_)
      refine lv_goto (tgt := 4) F.1 F.2.1 dX4_secondsOfGreens_29 (by decide) ?_
      exact ih (x1 + r2) (x2 + 1) _ _ _ hf Z (lv_sub hl [2, 1, 0] rfl)
set_option maxHeartbeats 4000000 in
set_option maxRecDepth 100000 in
theorem k_X4_secondsOfGreens (l : Launch) {D : va_G} {kk : Nat → ClassId} {ad : Nat → Nat} {bs : Nat} {a : ig_M} {la : Int64} {b : ig_M} {lb lo : Int64} {post : Int32 → Prop} (hf : wp_X4_secondsOfGreens a la post) : Met l yX4_secondsOfGreens (ig_ws yX4_secondsOfGreens cX4_secondsOfGreens 3 (some .int)) (k2_rm 3 66) (va_Pc [.ref (ad 24)] (ig_Wd D kk ad bs a la b lb lo)) (va_Qi (fun (r : Int32) (_ : Unit) => post r) (fun _ t => ig_Wd D kk ad bs a la b lb lo t) (ig_A bs)) 0 0 (ig_A bs) := by
  refine Met.ofW (cc := cX4_secondsOfGreens) (maxL := 3) (ret := (some .int)) (by decide) rfl ?_
  intro p e s m args below meth c s₁ B hml hv
  obtain ⟨rfl, E, hP⟩ := hv
  have hk := B.notSynchronized
  have hr := B.returns
  have F : CallFix p m c cX4_secondsOfGreens 3 s _ ig_all RX4 := ⟨B.exec, B.bytes, hml, findClass_of_methodNamed B.named, fun w hw => atoms_spec B.pre w (List.mem_cons_of_mem _ hw)⟩
  have Z : ig_Z D kk ad bs s s.heap [] a la b lb lo := ig_Z.rf hP
  have hl := lv_entry ([.ref (ad 24)]) (n := 3) (Nat.le_of_ble_eq_true rfl)
  rw [lg_entry_eq]
  generalize (lg_sl ([.ref (ad 24)]) ++ List.replicate (3 - (lg_sl ([.ref (ad 24)])).length) Slot.unset).toArray = ls at hl ⊢
  have hl : lv_has ls 3 [(0, .ref (ad 24))] := hl
  refine lv_iconst (v := 0) F.1 F.2.1 dX4_secondsOfGreens_0 (by decide) ?_
  refine lv_istore_n (lv' := [(1, .int 0), (0, .ref (ad 24))]) F.1 F.2.1 dX4_secondsOfGreens_1 rfl hl (by decide) rfl (fun ls hl => ?_)
  refine lv_iconst (v := 0) F.1 F.2.1 dX4_secondsOfGreens_2 (by decide) ?_
  refine lv_istore_n (lv' := [(2, .int 0), (1, .int 0), (0, .ref (ad 24))]) F.1 F.2.1 dX4_secondsOfGreens_3 rfl hl (by decide) rfl (fun ls hl => ?_)
  obtain ⟨n1, hf⟩ := hf
  exact wm_X4_secondsOfGreens_4 F E hr hk post n1 0 0 _ _ _ hf Z (lv_sub hl [2, 1, 0] rfl)
set_option maxHeartbeats 4000000 in
set_option maxRecDepth 100000 in
theorem k_X4_shortest (l : Launch) {D : va_G} {kk : Nat → ClassId} {ad : Nat → Nat} {bs : Nat} {a : ig_M} {la : Int64} {b : ig_M} {lb lo : Int64} {post : Int32 → ig_M → Int64 → Prop} (hf : wp_X4_shortest a la post) : Met l yX4_shortest (ig_ws yX4_shortest cX4_shortest 1 (some .int)) (k2_rm 5 116) (va_Pc [.ref (ad 24)] (ig_Wd D kk ad bs a la b lb lo)) (va_Qi (fun (r : Int32) (u : ig_M × Int64) => post r u.1 u.2) (fun u t => ig_Wd D kk ad bs u.1 u.2 b lb lo t) (ig_A bs)) 0 0 (ig_A bs) := by
  refine Met.ofW (cc := cX4_shortest) (maxL := 1) (ret := (some .int)) (by decide) rfl ?_
  intro p e s m args below meth c s₁ B hml hv
  obtain ⟨rfl, E, hP⟩ := hv
  have hk := B.notSynchronized
  have hr := B.returns
  have F : CallFix p m c cX4_shortest 1 s _ ig_all RX4 := ⟨B.exec, B.bytes, hml, findClass_of_methodNamed B.named, fun w hw => atoms_spec B.pre w (List.mem_cons_of_mem _ hw)⟩
  have Z : ig_Z D kk ad bs s s.heap [] a la b lb lo := ig_Z.rf hP
  have hl := lv_entry ([.ref (ad 24)]) (n := 1) (Nat.le_of_ble_eq_true rfl)
  rw [lg_entry_eq]
  generalize (lg_sl ([.ref (ad 24)]) ++ List.replicate (1 - (lg_sl ([.ref (ad 24)])).length) Slot.unset).toArray = ls at hl ⊢
  have hl : lv_has ls 1 [(0, .ref (ad 24))] := hl
  refine lv_aload_n F.1 F.2.1 dX4_shortest_0 rfl (lv_at hl 0 rfl) ?_
  refine gf_X4_19 F E Z dX4_shortest_1 ?_
  refine gf_X4_23 F E Z dX4_shortest_4 ?_
  refine lv_if_ne (tgt := 12) F.1 F.2.1 dX4_shortest_7 (by decide) (fun c_1 => ?_) (fun c_1 => ?_)
  · have hf := hf.1 c_1
    refine lv_aload_n F.1 F.2.1 dX4_shortest_12 rfl (lv_at hl 0 rfl) ?_
    have hM := k_X4_findWaysHome l (D := D) (kk := kk) (ad := ad) (bs := bs) (a := a) (la := la) (b := b) (lb := lb) (lo := lo) hf
    refine ig_callv E Z (ig_runV (As := []) (rest := []) F E Z hl G_X4_29 hM (i := 24) (by decide) (ig_k_24 _ _ _ _ _ _) rfl rfl md_X4_findWaysHome rfl ⟨rfl, rfl⟩ ⟨Nat.le_of_ble_eq_true rfl, Nat.le_of_ble_eq_true rfl⟩ (Nat.le_of_ble_eq_true rfl) dX4_shortest_13 ⟨Nat.le_of_ble_eq_true rfl, Nat.le_of_ble_eq_true rfl⟩) (fun u H locs hf Z => ?_)
    obtain ⟨a2, la3⟩ := u
    have Z : ig_Z D kk ad bs s H locs a2 la3 b lb lo := Z
    refine lv_aload_n F.1 F.2.1 dX4_shortest_16 rfl (lv_at hl 0 rfl) ?_
    have hM := k_X4_secondsOfGreens l (D := D) (kk := kk) (ad := ad) (bs := bs) (a := a2) (la := la3) (b := b) (lb := lb) (lo := lo) hf
    refine ig_calli E Z (ig_runV (As := []) (rest := []) F E Z hl G_X4_32 hM (i := 24) (by decide) (ig_k_24 _ _ _ _ _ _) rfl rfl md_X4_secondsOfGreens rfl ⟨rfl, rfl⟩ ⟨Nat.le_of_ble_eq_true rfl, Nat.le_of_ble_eq_true rfl⟩ (Nat.le_of_ble_eq_true rfl) dX4_shortest_17 ⟨Nat.le_of_ble_eq_true rfl, Nat.le_of_ble_eq_true rfl⟩) (fun r4 u H locs hf Z => ?_)
    refine lv_aload_n F.1 F.2.1 dX4_shortest_20 rfl (lv_at hl 0 rfl) ?_
    refine gf_X4_16 F E Z dX4_shortest_21 ?_
    refine lv_iconst (v := 1) F.1 F.2.1 dX4_shortest_24 (by decide) ?_
    have hv5 := hf.1
    have hf := hf.2
    refine ig_aald (t0 := 4) (n := 64) (b0 := 33) F E Z rfl (Or.inr rfl) (by decide) (ig_k_32 _ _ _ _ _ _) hv5 dX4_shortest_25 ?_
    refine lv_iconst (v := 0) F.1 F.2.1 dX4_shortest_26 (by decide) ?_
    have hv6 := hf.1
    have hf := hf.2
    refine ig_iald (f := a2 (33 + ((1 : Int32).toNatClampNeg))) F E Z (by have := ig_lt hv5; omega) (by rw [ig_mm_a _ _ (by have := ig_lt hv5; omega)]; exact (ig_c_rh _ _ _ _ _ _ (ig_lt hv5))) hv6 dX4_shortest_27 ?_
    refine lv_iadd F.1 F.2.1 dX4_shortest_28 ?_
    exact W.iret (v := r4 + (a2 (33 + ((1 : Int32).toNatClampNeg)) (0 : Int32).toNatClampNeg)) F.1 F.2.1 hr (fun t ht hW => ⟨⟨_, (a2, la3), rfl, hf, Z.wd E ht hW⟩, Z.fr ht⟩) Z.2.2.2 dX4_shortest_29
  · have hf := hf.2 c_1
    refine lv_iconst (v := (-1)) F.1 F.2.1 dX4_shortest_10 (by decide) ?_
    exact W.iret (v := (-1)) F.1 F.2.1 hr (fun t ht hW => ⟨⟨_, (a, la), rfl, hf, Z.wd E ht hW⟩, Z.fr ht⟩) Z.2.2.2 dX4_shortest_11
set_option maxHeartbeats 4000000 in
set_option maxRecDepth 100000 in
theorem k_X5_round (l : Launch) {D : va_G} {kk : Nat → ClassId} {ad : Nat → Nat} {bs : Nat} {a : ig_M} {la : Int64} {b : ig_M} {lb lo : Int64} {post : Int32 → ig_M → Int64 → Prop} (hf : wp_X5_round a la post) : Met l yX5_round (ig_ws yX5_round cX5_round 1 (some .int)) (k2_rm 6 136) (va_Pc [.ref (ad 0)] (ig_Wd D kk ad bs a la b lb lo)) (va_Qi (fun (r : Int32) (u : ig_M × Int64) => post r u.1 u.2) (fun u t => ig_Wd D kk ad bs u.1 u.2 b lb lo t) (ig_A bs)) 0 0 (ig_A bs) := by
  refine Met.ofW (cc := cX5_round) (maxL := 1) (ret := (some .int)) (by decide) rfl ?_
  intro p e s m args below meth c s₁ B hml hv
  obtain ⟨rfl, E, hP⟩ := hv
  have hk := B.notSynchronized
  have hr := B.returns
  have F : CallFix p m c cX5_round 1 s _ ig_all RX5 := ⟨B.exec, B.bytes, hml, findClass_of_methodNamed B.named, fun w hw => atoms_spec B.pre w (List.mem_cons_of_mem _ hw)⟩
  have Z : ig_Z D kk ad bs s s.heap [] a la b lb lo := ig_Z.rf hP
  have hl := lv_entry ([.ref (ad 0)]) (n := 1) (Nat.le_of_ble_eq_true rfl)
  rw [lg_entry_eq]
  generalize (lg_sl ([.ref (ad 0)]) ++ List.replicate (1 - (lg_sl ([.ref (ad 0)])).length) Slot.unset).toArray = ls at hl ⊢
  have hl : lv_has ls 1 [(0, .ref (ad 0))] := hl
  refine lv_aload_n F.1 F.2.1 dX5_round_0 rfl (lv_at hl 0 rfl) ?_
  refine gf_X5_37 F E Z dX5_round_1 ?_
  have hM := k_X4_shortest l (D := D) (kk := kk) (ad := ad) (bs := bs) (a := a) (la := la) (b := b) (lb := lb) (lo := lo) hf
  refine ig_calli E Z (ig_runV (As := []) (rest := []) F E Z hl G_X5_195 hM (i := 24) (by decide) (ig_k_24 _ _ _ _ _ _) rfl rfl md_X4_shortest rfl ⟨rfl, rfl⟩ ⟨Nat.le_of_ble_eq_true rfl, Nat.le_of_ble_eq_true rfl⟩ (Nat.le_of_ble_eq_true rfl) dX5_round_4 ⟨Nat.le_of_ble_eq_true rfl, Nat.le_of_ble_eq_true rfl⟩) (fun r1 u H locs hf Z => ?_)
  obtain ⟨a2, la3⟩ := u
  have Z : ig_Z D kk ad bs s H locs a2 la3 b lb lo := Z
  exact W.iret (v := r1) F.1 F.2.1 hr (fun t ht hW => ⟨⟨_, (a2, la3), rfl, hf, Z.wd E ht hW⟩, Z.fr ht⟩) Z.2.2.2 dX5_round_7
set_option maxHeartbeats 4000000 in
set_option maxRecDepth 100000 in
theorem wm_X4_stageLeft_5 (F : CallFix p m c cX4_stageLeft 5 s args ig_all RX4) (E : ig_E D kk ad bs s) (hr : meth.sig.returnType = (some .int)) (hk : meth.locks = false) (post : Int32 → Prop) :
    ∀ (n : Nat) (x2 : Int32) (x3 : Int32) (x4 : Int32) (H : Heap) (locs : List Loc) (ls : Array Slot), wp_X4_stageLeft_5 a la post n x2 x3 x4 → ig_Z D kk ad bs s H locs a la b lb lo → lv_has ls 5 [(0, .ref (ad 24)), (2, .int x2), (3, .int x3), (4, .int x4)] → W p l e (k2_rm 1 21) s m args below meth c H locs 0 0 (MQ below (va_Qi (fun (r : Int32) (_ : Unit) => post r) (fun _ t => ig_Wd D kk ad bs a la b lb lo t) (ig_A bs)) args s 0 0 (ig_A bs)) (F0 m 5 ls []) := by
  intro n
  induction n with
  | zero => intro x2 x3 x4 H locs ls hf Z hl; exact False.elim hf
  | succ n ih =>
    intro x2 x3 x4 H locs ls hf Z hl
    refine lv_iload F.1 F.2.1 dX4_stageLeft_5 (lv_at hl 3 rfl) ?_
    refine lv_aload_n F.1 F.2.1 dX4_stageLeft_7 rfl (lv_at hl 0 rfl) ?_
    refine gf_X4_19 F E Z dX4_stageLeft_8 ?_
    refine gf_X4_23 F E Z dX4_stageLeft_11 ?_
    refine lv_icmp_ge (tgt := 42) F.1 F.2.1 dX4_stageLeft_14 (by decide) (fun c_1 => ?_) (fun c_1 => ?_)
    · have hf := hf.1 c_1
      refine lv_iconst (v := 0) F.1 F.2.1 dX4_stageLeft_42 (by decide) ?_
      exact W.iret (v := 0) F.1 F.2.1 hr (fun t ht hW => ⟨⟨_, (), rfl, hf, Z.wd E ht hW⟩, Z.fr ht⟩) Z.2.2.2 dX4_stageLeft_43
    · have hf := hf.2 c_1
      refine lv_iload_n F.1 F.2.1 dX4_stageLeft_17 rfl (lv_at hl 1 rfl) ?_
      refine lv_iload F.1 F.2.1 dX4_stageLeft_18 (lv_at hl 3 rfl) ?_
      have hM := k_X5_has l (D := D) (kk := kk) (ad := ad) (bs := bs) (a := a) (la := la) (b := b) (lb := lb) (lo := lo) x2 x4 hf
      refine ig_calli E Z (ig_runSN (As := [.int x2, .int x4]) (rest := []) F E Z hl (host := "Intergreen") (by decide +kernel) G_X4_59 G_X4_59_i G_X4_59_s hM md_X5_has rfl ⟨rfl, rfl⟩ ⟨Nat.le_of_ble_eq_true rfl, Nat.le_of_ble_eq_true rfl⟩ (Nat.le_of_ble_eq_true rfl) dX4_stageLeft_20 ⟨Nat.le_of_ble_eq_true rfl, Nat.le_of_ble_eq_true rfl⟩) (fun r2 u H locs hf Z => ?_)
      refine lv_if_ne (tgt := 36) F.1 F.2.1 dX4_stageLeft_23 (by decide) (fun c_3 => ?_) (fun c_3 => ?_)
      · have hf := hf.1 c_3
        refine lv_iinc (v := x4 + 1) (lv' := [(4, .int (x4 + 1)), (0, .ref (ad 24)), (2, .int x2), (3, .int x3)]) F.1 F.2.1 dX4_stageLeft_36 hl (k := 3) rfl (by rfl) (by decide) rfl (fun ls hl => ?_)
        refine lv_goto (tgt := 5) F.1 F.2.1 dX4_stageLeft_39 (by decide) ?_
        exact ih x2 x3 (x4 + 1) _ _ _ hf Z (lv_sub hl [1, 2, 3, 0] rfl)
      · have hf := hf.2 c_3
        refine lv_iload_n F.1 F.2.1 dX4_stageLeft_26 rfl (lv_at hl 2 rfl) ?_
        refine lv_if_ne (tgt := 33) F.1 F.2.1 dX4_stageLeft_27 (by decide) (fun c_4 => ?_) (fun c_4 => ?_)
        · have hf := hf.1 c_4
          refine lv_iinc (v := x3 + (-1)) (lv' := [(3, .int (x3 + (-1))), (0, .ref (ad 24)), (2, .int x2), (4, .int x4)]) F.1 F.2.1 dX4_stageLeft_33 hl (k := 2) rfl (by rfl) (by decide) rfl (fun ls hl => ?_)
          refine lv_iinc (v := x4 + 1) (lv' := [(4, .int (x4 + 1)), (3, .int (x3 + (-1))), (0, .ref (ad 24)), (2, .int x2)]) F.1 F.2.1 dX4_stageLeft_36 hl (k := 3) rfl (by rfl) (by decide) rfl (fun ls hl => ?_)
          refine lv_goto (tgt := 5) F.1 F.2.1 dX4_stageLeft_39 (by decide) ?_
          exact ih x2 (x3 + (-1)) (x4 + 1) _ _ _ hf Z (lv_sub hl [2, 3, 1, 0] rfl)
        · have hf := hf.2 c_4
          refine lv_iload F.1 F.2.1 dX4_stageLeft_30 (lv_at hl 3 rfl) ?_
          exact W.iret (v := x4) F.1 F.2.1 hr (fun t ht hW => ⟨⟨_, (), rfl, hf, Z.wd E ht hW⟩, Z.fr ht⟩) Z.2.2.2 dX4_stageLeft_32
set_option maxHeartbeats 4000000 in
set_option maxRecDepth 100000 in
theorem k_X4_stageLeft (l : Launch) {D : va_G} {kk : Nat → ClassId} {ad : Nat → Nat} {bs : Nat} {a : ig_M} {la : Int64} {b : ig_M} {lb lo : Int64} (x1 : Int32) (x2 : Int32) {post : Int32 → Prop} (hf : wp_X4_stageLeft a la x1 x2 post) : Met l yX4_stageLeft (ig_ws yX4_stageLeft cX4_stageLeft 5 (some .int)) (k2_rm 1 21) (va_Pc [.ref (ad 24), .int x1, .int x2] (ig_Wd D kk ad bs a la b lb lo)) (va_Qi (fun (r : Int32) (_ : Unit) => post r) (fun _ t => ig_Wd D kk ad bs a la b lb lo t) (ig_A bs)) 0 0 (ig_A bs) := by
  refine Met.ofW (cc := cX4_stageLeft) (maxL := 5) (ret := (some .int)) (by decide) rfl ?_
  intro p e s m args below meth c s₁ B hml hv
  obtain ⟨rfl, E, hP⟩ := hv
  have hk := B.notSynchronized
  have hr := B.returns
  have F : CallFix p m c cX4_stageLeft 5 s _ ig_all RX4 := ⟨B.exec, B.bytes, hml, findClass_of_methodNamed B.named, fun w hw => atoms_spec B.pre w (List.mem_cons_of_mem _ hw)⟩
  have Z : ig_Z D kk ad bs s s.heap [] a la b lb lo := ig_Z.rf hP
  have hl := lv_entry ([.ref (ad 24), .int x1, .int x2]) (n := 5) (Nat.le_of_ble_eq_true rfl)
  rw [lg_entry_eq]
  generalize (lg_sl ([.ref (ad 24), .int x1, .int x2]) ++ List.replicate (5 - (lg_sl ([.ref (ad 24), .int x1, .int x2])).length) Slot.unset).toArray = ls at hl ⊢
  have hl : lv_has ls 5 [(0, .ref (ad 24)), (1, .int x1), (2, .int x2)] := hl
  refine lv_iload_n F.1 F.2.1 dX4_stageLeft_0 rfl (lv_at hl 1 rfl) ?_
  refine lv_istore_n (lv' := [(3, .int x1), (0, .ref (ad 24)), (1, .int x1), (2, .int x2)]) F.1 F.2.1 dX4_stageLeft_1 rfl hl (by decide) rfl (fun ls hl => ?_)
  refine lv_iconst (v := 0) F.1 F.2.1 dX4_stageLeft_2 (by decide) ?_
  refine lv_istore (lv' := [(4, .int 0), (3, .int x1), (0, .ref (ad 24)), (1, .int x1), (2, .int x2)]) F.1 F.2.1 dX4_stageLeft_3 hl (by decide) rfl (fun ls hl => ?_)
  obtain ⟨n1, hf⟩ := hf
  exact wm_X4_stageLeft_5 F E hr hk post n1 x2 x1 0 _ _ _ hf Z (lv_sub hl [2, 4, 1, 0] rfl)
set_option maxHeartbeats 4000000 in
set_option maxRecDepth 100000 in
theorem wm_X4_secondsOfWay_21 (F : CallFix p m c cX4_secondsOfWay 8 s args ig_all RX4) (E : ig_E D kk ad bs s) (hr : meth.sig.returnType = (some .int)) (hk : meth.locks = false) (post : Int32 → Prop) :
    ∀ (n : Nat) (x2 : Int32) (x3 : Int32) (x4 : Int32) (x5 : Int32) (x6 : Int32) (H : Heap) (locs : List Loc) (ls : Array Slot), wp_X4_secondsOfWay_21 a la post n x2 x3 x4 x5 x6 → ig_Z D kk ad bs s H locs a la b lb lo → lv_has ls 8 [(0, .ref (ad 24)), (2, .int x2), (3, .int x3), (4, .int x4), (5, .int x5), (6, .int x6)] → W p l e (k2_rm 2 45) s m args below meth c H locs 0 0 (MQ below (va_Qi (fun (r : Int32) (_ : Unit) => post r) (fun _ t => ig_Wd D kk ad bs a la b lb lo t) (ig_A bs)) args s 0 0 (ig_A bs)) (F0 m 21 ls []) := by
  intro n
  induction n with
  | zero => intro x2 x3 x4 x5 x6 H locs ls hf Z hl; exact False.elim hf
  | succ n ih =>
    intro x2 x3 x4 x5 x6 H locs ls hf Z hl
    refine lv_iload F.1 F.2.1 dX4_secondsOfWay_21 (lv_at hl 5 rfl) ?_
    refine lv_if_le (tgt := 76) F.1 F.2.1 dX4_secondsOfWay_23 (by decide) (fun c_1 => ?_) (fun c_1 => ?_)
    · have hf := hf.1 c_1
      refine lv_iload_n F.1 F.2.1 dX4_secondsOfWay_76 rfl (lv_at hl 1 rfl) ?_
      refine lv_aload_n F.1 F.2.1 dX4_secondsOfWay_77 rfl (lv_at hl 0 rfl) ?_
      refine gf_X4_11 F E Z dX4_secondsOfWay_78 ?_
      refine lv_iload_n F.1 F.2.1 dX4_secondsOfWay_81 rfl (lv_at hl 2 rfl) ?_
      have hv2 := hf.1
      have hf := hf.2
      refine ig_aald (t0 := 4) (n := 6) (b0 := 26) F E Z rfl (Or.inr rfl) (by decide) (ig_k_25 _ _ _ _ _ _) hv2 dX4_secondsOfWay_82 ?_
      refine lv_iconst (v := 0) F.1 F.2.1 dX4_secondsOfWay_83 (by decide) ?_
      have hv3 := hf.1
      have hf := hf.2
      refine ig_iald (f := a (26 + x3.toNatClampNeg)) F E Z (by have := ig_lt hv2; omega) (by rw [ig_mm_a _ _ (by have := ig_lt hv2; omega)]; exact (ig_c_rc _ _ _ _ _ _ (ig_lt hv2))) hv3 dX4_secondsOfWay_84 ?_
      refine lv_iadd F.1 F.2.1 dX4_secondsOfWay_85 ?_
      exact W.iret (v := x2 + (a (26 + x3.toNatClampNeg) (0 : Int32).toNatClampNeg)) F.1 F.2.1 hr (fun t ht hW => ⟨⟨_, (), rfl, hf, Z.wd E ht hW⟩, Z.fr ht⟩) Z.2.2.2 dX4_secondsOfWay_86
    · have hf := hf.2 c_1
      refine lv_aload_n F.1 F.2.1 dX4_secondsOfWay_26 rfl (lv_at hl 0 rfl) ?_
      refine lv_iload F.1 F.2.1 dX4_secondsOfWay_27 (lv_at hl 4 rfl) ?_
      refine lv_iload F.1 F.2.1 dX4_secondsOfWay_29 (lv_at hl 5 rfl) ?_
      have hz4 := hf.1
      have hf := hf.2
      refine lv_irem F.1 F.2.1 dX4_secondsOfWay_31 hz4 ?_
      refine lv_iload F.1 F.2.1 dX4_secondsOfWay_32 (lv_at hl 3 rfl) ?_
      have hM := k_X4_stageLeft l (D := D) (kk := kk) (ad := ad) (bs := bs) (a := a) (la := la) (b := b) (lb := lb) (lo := lo) (x5 - x5 / x6 * x6) x4 hf
      refine ig_calli E Z (ig_runV (As := [.int (x5 - x5 / x6 * x6), .int x4]) (rest := []) F E Z hl G_X4_70 hM (i := 24) (by decide) (ig_k_24 _ _ _ _ _ _) rfl rfl md_X4_stageLeft rfl ⟨rfl, rfl⟩ ⟨Nat.le_of_ble_eq_true rfl, Nat.le_of_ble_eq_true rfl⟩ (Nat.le_of_ble_eq_true rfl) dX4_secondsOfWay_34 ⟨Nat.le_of_ble_eq_true rfl, Nat.le_of_ble_eq_true rfl⟩) (fun r5 u H locs hf Z => ?_)
      refine lv_istore (lv' := [(7, .int r5), (0, .ref (ad 24)), (2, .int x2), (3, .int x3), (4, .int x4), (5, .int x5), (6, .int x6)]) F.1 F.2.1 dX4_secondsOfWay_37 hl (by decide) rfl (fun ls hl => ?_)
      refine lv_iload F.1 F.2.1 dX4_secondsOfWay_39 (lv_at hl 5 rfl) ?_
      refine lv_iload F.1 F.2.1 dX4_secondsOfWay_41 (lv_at hl 6 rfl) ?_
      have hz6 := hf.1
      have hf := hf.2
      refine lv_idiv F.1 F.2.1 dX4_secondsOfWay_43 hz6 ?_
      refine lv_istore (lv' := [(5, .int (x5 / x6)), (7, .int r5), (0, .ref (ad 24)), (2, .int x2), (3, .int x3), (4, .int x4), (6, .int x6)]) F.1 F.2.1 dX4_secondsOfWay_44 hl (by decide) rfl (fun ls hl => ?_)
      refine lv_iload_n F.1 F.2.1 dX4_secondsOfWay_46 rfl (lv_at hl 3 rfl) ?_
      refine lv_aload_n F.1 F.2.1 dX4_secondsOfWay_47 rfl (lv_at hl 2 rfl) ?_
      refine gf_X4_11 F E Z dX4_secondsOfWay_48 ?_
      refine lv_iload_n F.1 F.2.1 dX4_secondsOfWay_51 rfl (lv_at hl 4 rfl) ?_
      have hv7 := hf.1
      have hf := hf.2
      refine ig_aald (t0 := 4) (n := 6) (b0 := 26) F E Z rfl (Or.inr rfl) (by decide) (ig_k_25 _ _ _ _ _ _) hv7 dX4_secondsOfWay_52 ?_
      refine lv_iload F.1 F.2.1 dX4_secondsOfWay_53 (lv_at hl 1 rfl) ?_
      have hv8 := hf.1
      have hf := hf.2
      refine ig_iald (f := a (26 + x3.toNatClampNeg)) F E Z (by have := ig_lt hv7; omega) (by rw [ig_mm_a _ _ (by have := ig_lt hv7; omega)]; exact (ig_c_rc _ _ _ _ _ _ (ig_lt hv7))) hv8 dX4_secondsOfWay_55 ?_
      refine lv_iadd F.1 F.2.1 dX4_secondsOfWay_56 ?_
      refine lv_istore_n (lv' := [(2, .int (x2 + (a (26 + x3.toNatClampNeg) r5.toNatClampNeg))), (5, .int (x5 / x6)), (7, .int r5), (0, .ref (ad 24)), (3, .int x3), (4, .int x4), (6, .int x6)]) F.1 F.2.1 dX4_secondsOfWay_57 rfl hl (by decide) rfl (fun ls hl => ?_)
      refine lv_iload F.1 F.2.1 dX4_secondsOfWay_58 (lv_at hl 5 rfl) ?_
      refine lv_iconst (v := 1) F.1 F.2.1 dX4_secondsOfWay_60 (by decide) ?_
      refine lv_iload F.1 F.2.1 dX4_secondsOfWay_61 (lv_at hl 2 rfl) ?_
      refine lv_ishl F.1 F.2.1 dX4_secondsOfWay_63 ?_
      refine lv_ior F.1 F.2.1 dX4_secondsOfWay_64 ?_
      refine lv_istore (lv' := [(4, .int (x4 ||| (1 <<< (r5 &&& 31)))), (2, .int (x2 + (a (26 + x3.toNatClampNeg) r5.toNatClampNeg))), (5, .int (x5 / x6)), (7, .int r5), (0, .ref (ad 24)), (3, .int x3), (6, .int x6)]) F.1 F.2.1 dX4_secondsOfWay_65 hl (by decide) rfl (fun ls hl => ?_)
      refine lv_iload F.1 F.2.1 dX4_secondsOfWay_67 (lv_at hl 3 rfl) ?_
      refine lv_istore_n (lv' := [(3, .int r5), (4, .int (x4 ||| (1 <<< (r5 &&& 31)))), (2, .int (x2 + (a (26 + x3.toNatClampNeg) r5.toNatClampNeg))), (5, .int (x5 / x6)), (7, .int r5), (0, .ref (ad 24)), (6, .int x6)]) F.1 F.2.1 dX4_secondsOfWay_69 rfl hl (by decide) rfl (fun ls hl => ?_)
      refine lv_iinc (v := x6 + (-1)) (lv' := [(6, .int (x6 + (-1))), (3, .int r5), (4, .int (x4 ||| (1 <<< (r5 &&& 31)))), (2, .int (x2 + (a (26 + x3.toNatClampNeg) r5.toNatClampNeg))), (5, .int (x5 / x6)), (7, .int r5), (0, .ref (ad 24))]) F.1 F.2.1 dX4_secondsOfWay_70 hl (k := 6) rfl (by rfl) (by decide) rfl (fun ls hl => ?_)
      refine lv_goto (tgt := 21) F.1 F.2.1 dX4_secondsOfWay_73 (by decide) ?_
      exact ih (x2 + (a (26 + x3.toNatClampNeg) r5.toNatClampNeg)) r5 (x4 ||| (1 <<< (r5 &&& 31))) (x5 / x6) (x6 + (-1)) _ _ _ hf Z (lv_sub hl [6, 3, 1, 2, 4, 0] rfl)
set_option maxHeartbeats 4000000 in
set_option maxRecDepth 100000 in
theorem k_X4_secondsOfWay (l : Launch) {D : va_G} {kk : Nat → ClassId} {ad : Nat → Nat} {bs : Nat} {a : ig_M} {la : Int64} {b : ig_M} {lb lo : Int64} (x1 : Int32) {post : Int32 → Prop} (hf : wp_X4_secondsOfWay a la x1 post) : Met l yX4_secondsOfWay (ig_ws yX4_secondsOfWay cX4_secondsOfWay 8 (some .int)) (k2_rm 2 45) (va_Pc [.ref (ad 24), .int x1] (ig_Wd D kk ad bs a la b lb lo)) (va_Qi (fun (r : Int32) (_ : Unit) => post r) (fun _ t => ig_Wd D kk ad bs a la b lb lo t) (ig_A bs)) 0 0 (ig_A bs) := by
  refine Met.ofW (cc := cX4_secondsOfWay) (maxL := 8) (ret := (some .int)) (by decide) rfl ?_
  intro p e s m args below meth c s₁ B hml hv
  obtain ⟨rfl, E, hP⟩ := hv
  have hk := B.notSynchronized
  have hr := B.returns
  have F : CallFix p m c cX4_secondsOfWay 8 s _ ig_all RX4 := ⟨B.exec, B.bytes, hml, findClass_of_methodNamed B.named, fun w hw => atoms_spec B.pre w (List.mem_cons_of_mem _ hw)⟩
  have Z : ig_Z D kk ad bs s s.heap [] a la b lb lo := ig_Z.rf hP
  have hl := lv_entry ([.ref (ad 24), .int x1]) (n := 8) (Nat.le_of_ble_eq_true rfl)
  rw [lg_entry_eq]
  generalize (lg_sl ([.ref (ad 24), .int x1]) ++ List.replicate (8 - (lg_sl ([.ref (ad 24), .int x1])).length) Slot.unset).toArray = ls at hl ⊢
  have hl : lv_has ls 8 [(0, .ref (ad 24)), (1, .int x1)] := hl
  refine lv_iconst (v := 0) F.1 F.2.1 dX4_secondsOfWay_0 (by decide) ?_
  refine lv_istore_n (lv' := [(2, .int 0), (0, .ref (ad 24)), (1, .int x1)]) F.1 F.2.1 dX4_secondsOfWay_1 rfl hl (by decide) rfl (fun ls hl => ?_)
  refine lv_iconst (v := 0) F.1 F.2.1 dX4_secondsOfWay_2 (by decide) ?_
  refine lv_istore_n (lv' := [(3, .int 0), (2, .int 0), (0, .ref (ad 24)), (1, .int x1)]) F.1 F.2.1 dX4_secondsOfWay_3 rfl hl (by decide) rfl (fun ls hl => ?_)
  refine lv_iconst (v := 1) F.1 F.2.1 dX4_secondsOfWay_4 (by decide) ?_
  refine lv_istore (lv' := [(4, .int 1), (3, .int 0), (2, .int 0), (0, .ref (ad 24)), (1, .int x1)]) F.1 F.2.1 dX4_secondsOfWay_5 hl (by decide) rfl (fun ls hl => ?_)
  refine lv_iload_n F.1 F.2.1 dX4_secondsOfWay_7 rfl (lv_at hl 4 rfl) ?_
  refine lv_istore (lv' := [(5, .int x1), (4, .int 1), (3, .int 0), (2, .int 0), (0, .ref (ad 24)), (1, .int x1)]) F.1 F.2.1 dX4_secondsOfWay_8 hl (by decide) rfl (fun ls hl => ?_)
  refine lv_aload_n F.1 F.2.1 dX4_secondsOfWay_10 rfl (lv_at hl 4 rfl) ?_
  refine gf_X4_19 F E Z dX4_secondsOfWay_11 ?_
  refine gf_X4_23 F E Z dX4_secondsOfWay_14 ?_
  refine lv_iconst (v := 1) F.1 F.2.1 dX4_secondsOfWay_17 (by decide) ?_
  refine lv_isub F.1 F.2.1 dX4_secondsOfWay_18 ?_
  refine lv_istore (lv' := [(6, .int ((a 1 4) - 1)), (5, .int x1), (4, .int 1), (3, .int 0), (2, .int 0), (0, .ref (ad 24)), (1, .int x1)]) F.1 F.2.1 dX4_secondsOfWay_19 hl (by decide) rfl (fun ls hl => ?_)
  obtain ⟨n1, hf⟩ := hf
  exact wm_X4_secondsOfWay_21 F E hr hk post n1 0 0 1 x1 ((a 1 4) - 1) _ _ _ hf Z (lv_sub hl [5, 4, 3, 2, 1, 0] rfl)
set_option maxHeartbeats 4000000 in
set_option maxRecDepth 100000 in
theorem wm_X4_shortestOfAll_46 (F : CallFix p m c cX4_shortestOfAll 4 s args ig_all RX4) (E : ig_E D kk ad bs s) (hr : meth.sig.returnType = (some .int)) (hk : meth.locks = false) (post : Int32 → ig_M → Int64 → Prop) :
    ∀ (n : Nat) (a : ig_M) (la : Int64) (x1 : Int32) (x2 : Int32) (x3 : Int32) (H : Heap) (locs : List Loc) (ls : Array Slot), wp_X4_shortestOfAll_46 post n a la x1 x2 x3 → ig_Z D kk ad bs s H locs a la b lb lo → lv_has ls 4 [(0, .ref (ad 24)), (1, .int x1), (2, .int x2), (3, .int x3)] → W p l e (k2_rm 4 93) s m args below meth c H locs 0 0 (MQ below (va_Qi (fun (r : Int32) (u : ig_M × Int64) => post r u.1 u.2) (fun u t => ig_Wd D kk ad bs u.1 u.2 b lb lo t) (ig_A bs)) args s 0 0 (ig_A bs)) (F0 m 46 ls []) := by
  intro n
  induction n with
  | zero => intro a la x1 x2 x3 H locs ls hf Z hl; exact False.elim hf
  | succ n ih =>
    intro a la x1 x2 x3 H locs ls hf Z hl
    refine lv_iload_n F.1 F.2.1 dX4_shortestOfAll_46 rfl (lv_at hl 3 rfl) ?_
    refine lv_iload_n F.1 F.2.1 dX4_shortestOfAll_47 rfl (lv_at hl 1 rfl) ?_
    refine lv_icmp_ge (tgt := 67) F.1 F.2.1 dX4_shortestOfAll_48 (by decide) (fun c_5 => ?_) (fun c_5 => ?_)
    · have hf := hf.1 c_5
      refine lv_aload_n F.1 F.2.1 dX4_shortestOfAll_67 rfl (lv_at hl 0 rfl) ?_
      have hM := k_X4_secondsOfGreens l (D := D) (kk := kk) (ad := ad) (bs := bs) (a := a) (la := la) (b := b) (lb := lb) (lo := lo) hf
      refine ig_calli E Z (ig_runV (As := []) (rest := []) F E Z hl G_X4_32 hM (i := 24) (by decide) (ig_k_24 _ _ _ _ _ _) rfl rfl md_X4_secondsOfGreens rfl ⟨rfl, rfl⟩ ⟨Nat.le_of_ble_eq_true rfl, Nat.le_of_ble_eq_true rfl⟩ (Nat.le_of_ble_eq_true rfl) dX4_shortestOfAll_68 ⟨Nat.le_of_ble_eq_true rfl, Nat.le_of_ble_eq_true rfl⟩) (fun r6 u H locs hf Z => ?_)
      refine lv_iload_n F.1 F.2.1 dX4_shortestOfAll_71 rfl (lv_at hl 2 rfl) ?_
      refine lv_iadd F.1 F.2.1 dX4_shortestOfAll_72 ?_
      exact W.iret (v := r6 + x2) F.1 F.2.1 hr (fun t ht hW => ⟨⟨_, (a, la), rfl, hf, Z.wd E ht hW⟩, Z.fr ht⟩) Z.2.2.2 dX4_shortestOfAll_73
    · have hf := hf.2 c_5
      refine lv_iload_n F.1 F.2.1 dX4_shortestOfAll_51 rfl (lv_at hl 2 rfl) ?_
      refine lv_aload_n F.1 F.2.1 dX4_shortestOfAll_52 rfl (lv_at hl 0 rfl) ?_
      refine lv_iload_n F.1 F.2.1 dX4_shortestOfAll_53 rfl (lv_at hl 3 rfl) ?_
      have hM := k_X4_secondsOfWay l (D := D) (kk := kk) (ad := ad) (bs := bs) (a := a) (la := la) (b := b) (lb := lb) (lo := lo) x3 hf
      refine ig_calli E Z (ig_runV (As := [.int x3]) (rest := [.int x2]) F E Z hl G_X4_44 hM (i := 24) (by decide) (ig_k_24 _ _ _ _ _ _) rfl rfl md_X4_secondsOfWay rfl ⟨rfl, rfl⟩ ⟨Nat.le_of_ble_eq_true rfl, Nat.le_of_ble_eq_true rfl⟩ (Nat.le_of_ble_eq_true rfl) dX4_shortestOfAll_54 ⟨Nat.le_of_ble_eq_true rfl, Nat.le_of_ble_eq_true rfl⟩) (fun r7 u H locs hf Z => ?_)
      refine va_mmin F.1 F.2.1 (F.2.2.1.trans hl.1.symm) F.2.2.2.1 (F.2.2.2.2 _ mw_332) (F.2.2.2.2 _ mw_329) (F.2.2.2.2 _ mw_324) (F.2.2.2.2 _ mw_330) (Nat.le_of_ble_eq_true rfl) (Nat.le_of_ble_eq_true rfl) (Nat.le_of_ble_eq_true rfl) (Nat.le_of_ble_eq_true rfl) dX4_shortestOfAll_57 ?_
      refine lv_istore_n (lv' := [(2, .int (if r7 < x2 then r7 else x2)), (0, .ref (ad 24)), (1, .int x1), (3, .int x3)]) F.1 F.2.1 dX4_shortestOfAll_60 rfl hl (by decide) rfl (fun ls hl => ?_)
      refine lv_iinc (v := x3 + 1) (lv' := [(3, .int (x3 + 1)), (2, .int (if r7 < x2 then r7 else x2)), (0, .ref (ad 24)), (1, .int x1)]) F.1 F.2.1 dX4_shortestOfAll_61 hl (k := 3) rfl (by rfl) (by decide) rfl (fun ls hl => ?_)
      refine lv_goto (tgt := 46) F.1 F.2.1 dX4_shortestOfAll_64 (by decide) ?_
      exact ih a la x1 (if r7 < x2 then r7 else x2) (x3 + 1) _ _ _ hf Z (lv_sub hl [2, 3, 1, 0] rfl)
set_option maxHeartbeats 4000000 in
set_option maxRecDepth 100000 in
theorem wm_X4_shortestOfAll_20 (F : CallFix p m c cX4_shortestOfAll 4 s args ig_all RX4) (E : ig_E D kk ad bs s) (hr : meth.sig.returnType = (some .int)) (hk : meth.locks = false) (post : Int32 → ig_M → Int64 → Prop) :
    ∀ (n : Nat) (a : ig_M) (la : Int64) (x1 : Int32) (x2 : Int32) (H : Heap) (locs : List Loc) (ls : Array Slot), wp_X4_shortestOfAll_20 post n a la x1 x2 → ig_Z D kk ad bs s H locs a la b lb lo → lv_has ls 4 [(0, .ref (ad 24)), (1, .int x1), (2, .int x2)] → W p l e (k2_rm 4 93) s m args below meth c H locs 0 0 (MQ below (va_Qi (fun (r : Int32) (u : ig_M × Int64) => post r u.1 u.2) (fun u t => ig_Wd D kk ad bs u.1 u.2 b lb lo t) (ig_A bs)) args s 0 0 (ig_A bs)) (F0 m 20 ls []) := by
  intro n
  induction n with
  | zero => intro a la x1 x2 H locs ls hf Z hl; exact False.elim hf
  | succ n ih =>
    intro a la x1 x2 H locs ls hf Z hl
    refine lv_iload_n F.1 F.2.1 dX4_shortestOfAll_20 rfl (lv_at hl 2 rfl) ?_
    refine lv_aload_n F.1 F.2.1 dX4_shortestOfAll_21 rfl (lv_at hl 0 rfl) ?_
    refine gf_X4_19 F E Z dX4_shortestOfAll_22 ?_
    refine gf_X4_23 F E Z dX4_shortestOfAll_25 ?_
    refine lv_icmp_ge (tgt := 41) F.1 F.2.1 dX4_shortestOfAll_28 (by decide) (fun c_4 => ?_) (fun c_4 => ?_)
    · have hf := hf.1 c_4
      refine lv_ldc (v := 1000000) F.1 F.2.1 F.2.2.2.1 (F.2.2.2.2 _ mw_331) dX4_shortestOfAll_41 ?_
      refine lv_istore_n (lv' := [(2, .int 1000000), (0, .ref (ad 24)), (1, .int x1)]) F.1 F.2.1 dX4_shortestOfAll_43 rfl hl (by decide) rfl (fun ls hl => ?_)
      refine lv_iconst (v := 0) F.1 F.2.1 dX4_shortestOfAll_44 (by decide) ?_
      refine lv_istore_n (lv' := [(3, .int 0), (2, .int 1000000), (0, .ref (ad 24)), (1, .int x1)]) F.1 F.2.1 dX4_shortestOfAll_45 rfl hl (by decide) rfl (fun ls hl => ?_)
      obtain ⟨n1, hf⟩ := hf
      exact wm_X4_shortestOfAll_46 F E hr hk post n1 a la x1 1000000 0 _ _ _ hf Z (lv_sub hl [2, 3, 1, 0] rfl)
    · have hf := hf.2 c_4
      refine lv_iload_n F.1 F.2.1 dX4_shortestOfAll_31 rfl (lv_at hl 1 rfl) ?_
      refine lv_iload_n F.1 F.2.1 dX4_shortestOfAll_32 rfl (lv_at hl 2 rfl) ?_
      refine lv_imul F.1 F.2.1 dX4_shortestOfAll_33 ?_
      refine lv_istore_n (lv' := [(1, .int (x1 * x2)), (0, .ref (ad 24)), (2, .int x2)]) F.1 F.2.1 dX4_shortestOfAll_34 rfl hl (by decide) rfl (fun ls hl => ?_)
      refine lv_iinc (v := x2 + 1) (lv' := [(2, .int (x2 + 1)), (1, .int (x1 * x2)), (0, .ref (ad 24))]) F.1 F.2.1 dX4_shortestOfAll_35 hl (k := 2) rfl (by rfl) (by decide) rfl (fun ls hl => ?_)
      refine lv_goto (tgt := 20) F.1 F.2.1 dX4_shortestOfAll_38 (by decide) ?_
      exact ih a la (x1 * x2) (x2 + 1) _ _ _ hf Z (lv_sub hl [2, 1, 0] rfl)
set_option maxHeartbeats 4000000 in
set_option maxRecDepth 100000 in
theorem k_X4_shortestOfAll (l : Launch) {D : va_G} {kk : Nat → ClassId} {ad : Nat → Nat} {bs : Nat} {a : ig_M} {la : Int64} {b : ig_M} {lb lo : Int64} {post : Int32 → ig_M → Int64 → Prop} (hf : wp_X4_shortestOfAll a la post) : Met l yX4_shortestOfAll (ig_ws yX4_shortestOfAll cX4_shortestOfAll 4 (some .int)) (k2_rm 4 93) (va_Pc [.ref (ad 24)] (ig_Wd D kk ad bs a la b lb lo)) (va_Qi (fun (r : Int32) (u : ig_M × Int64) => post r u.1 u.2) (fun u t => ig_Wd D kk ad bs u.1 u.2 b lb lo t) (ig_A bs)) 0 0 (ig_A bs) := by
  refine Met.ofW (cc := cX4_shortestOfAll) (maxL := 4) (ret := (some .int)) (by decide) rfl ?_
  intro p e s m args below meth c s₁ B hml hv
  obtain ⟨rfl, E, hP⟩ := hv
  have hk := B.notSynchronized
  have hr := B.returns
  have F : CallFix p m c cX4_shortestOfAll 4 s _ ig_all RX4 := ⟨B.exec, B.bytes, hml, findClass_of_methodNamed B.named, fun w hw => atoms_spec B.pre w (List.mem_cons_of_mem _ hw)⟩
  have Z : ig_Z D kk ad bs s s.heap [] a la b lb lo := ig_Z.rf hP
  have hl := lv_entry ([.ref (ad 24)]) (n := 4) (Nat.le_of_ble_eq_true rfl)
  rw [lg_entry_eq]
  generalize (lg_sl ([.ref (ad 24)]) ++ List.replicate (4 - (lg_sl ([.ref (ad 24)])).length) Slot.unset).toArray = ls at hl ⊢
  have hl : lv_has ls 4 [(0, .ref (ad 24))] := hl
  refine lv_aload_n F.1 F.2.1 dX4_shortestOfAll_0 rfl (lv_at hl 0 rfl) ?_
  refine gf_X4_19 F E Z dX4_shortestOfAll_1 ?_
  refine gf_X4_23 F E Z dX4_shortestOfAll_4 ?_
  refine lv_if_ne (tgt := 12) F.1 F.2.1 dX4_shortestOfAll_7 (by decide) (fun c_1 => ?_) (fun c_1 => ?_)
  · have hf := hf.1 c_1
    refine lv_aload_n F.1 F.2.1 dX4_shortestOfAll_12 rfl (lv_at hl 0 rfl) ?_
    have hM := k_X4_findChanges l (D := D) (kk := kk) (ad := ad) (bs := bs) (a := a) (la := la) (b := b) (lb := lb) (lo := lo) hf
    refine ig_callv E Z (ig_runV (As := []) (rest := []) F E Z hl G_X4_40 hM (i := 24) (by decide) (ig_k_24 _ _ _ _ _ _) rfl rfl md_X4_findChanges rfl ⟨rfl, rfl⟩ ⟨Nat.le_of_ble_eq_true rfl, Nat.le_of_ble_eq_true rfl⟩ (Nat.le_of_ble_eq_true rfl) dX4_shortestOfAll_13 ⟨Nat.le_of_ble_eq_true rfl, Nat.le_of_ble_eq_true rfl⟩) (fun u H locs hf Z => ?_)
    obtain ⟨a2, la3⟩ := u
    have Z : ig_Z D kk ad bs s H locs a2 la3 b lb lo := Z
    refine lv_iconst (v := 1) F.1 F.2.1 dX4_shortestOfAll_16 (by decide) ?_
    refine lv_istore_n (lv' := [(1, .int 1), (0, .ref (ad 24))]) F.1 F.2.1 dX4_shortestOfAll_17 rfl hl (by decide) rfl (fun ls hl => ?_)
    refine lv_iconst (v := 2) F.1 F.2.1 dX4_shortestOfAll_18 (by decide) ?_
    refine lv_istore_n (lv' := [(2, .int 2), (1, .int 1), (0, .ref (ad 24))]) F.1 F.2.1 dX4_shortestOfAll_19 rfl hl (by decide) rfl (fun ls hl => ?_)
    obtain ⟨n1, hf⟩ := hf
    exact wm_X4_shortestOfAll_20 F E hr hk post n1 a2 la3 1 2 _ _ _ hf Z (lv_sub hl [2, 1, 0] rfl)
  · have hf := hf.2 c_1
    refine lv_iconst (v := (-1)) F.1 F.2.1 dX4_shortestOfAll_10 (by decide) ?_
    exact W.iret (v := (-1)) F.1 F.2.1 hr (fun t ht hW => ⟨⟨_, (a, la), rfl, hf, Z.wd E ht hW⟩, Z.fr ht⟩) Z.2.2.2 dX4_shortestOfAll_11
set_option maxHeartbeats 4000000 in
set_option maxRecDepth 100000 in
theorem k_X5_roundAnew (l : Launch) {D : va_G} {kk : Nat → ClassId} {ad : Nat → Nat} {bs : Nat} {a : ig_M} {la : Int64} {b : ig_M} {lb lo : Int64} {post : Int32 → ig_M → Int64 → Prop} (hf : wp_X5_roundAnew a la post) : Met l yX5_roundAnew (ig_ws yX5_roundAnew cX5_roundAnew 1 (some .int)) (k2_rm 5 116) (va_Pc [.ref (ad 0)] (ig_Wd D kk ad bs a la b lb lo)) (va_Qi (fun (r : Int32) (u : ig_M × Int64) => post r u.1 u.2) (fun u t => ig_Wd D kk ad bs u.1 u.2 b lb lo t) (ig_A bs)) 0 0 (ig_A bs) := by
  refine Met.ofW (cc := cX5_roundAnew) (maxL := 1) (ret := (some .int)) (by decide) rfl ?_
  intro p e s m args below meth c s₁ B hml hv
  obtain ⟨rfl, E, hP⟩ := hv
  have hk := B.notSynchronized
  have hr := B.returns
  have F : CallFix p m c cX5_roundAnew 1 s _ ig_all RX5 := ⟨B.exec, B.bytes, hml, findClass_of_methodNamed B.named, fun w hw => atoms_spec B.pre w (List.mem_cons_of_mem _ hw)⟩
  have Z : ig_Z D kk ad bs s s.heap [] a la b lb lo := ig_Z.rf hP
  have hl := lv_entry ([.ref (ad 0)]) (n := 1) (Nat.le_of_ble_eq_true rfl)
  rw [lg_entry_eq]
  generalize (lg_sl ([.ref (ad 0)]) ++ List.replicate (1 - (lg_sl ([.ref (ad 0)])).length) Slot.unset).toArray = ls at hl ⊢
  have hl : lv_has ls 1 [(0, .ref (ad 0))] := hl
  refine lv_aload_n F.1 F.2.1 dX5_roundAnew_0 rfl (lv_at hl 0 rfl) ?_
  refine gf_X5_37 F E Z dX5_roundAnew_1 ?_
  have hM := k_X4_shortestOfAll l (D := D) (kk := kk) (ad := ad) (bs := bs) (a := a) (la := la) (b := b) (lb := lb) (lo := lo) hf
  refine ig_calli E Z (ig_runV (As := []) (rest := []) F E Z hl G_X5_199 hM (i := 24) (by decide) (ig_k_24 _ _ _ _ _ _) rfl rfl md_X4_shortestOfAll rfl ⟨rfl, rfl⟩ ⟨Nat.le_of_ble_eq_true rfl, Nat.le_of_ble_eq_true rfl⟩ (Nat.le_of_ble_eq_true rfl) dX5_roundAnew_4 ⟨Nat.le_of_ble_eq_true rfl, Nat.le_of_ble_eq_true rfl⟩) (fun r1 u H locs hf Z => ?_)
  obtain ⟨a2, la3⟩ := u
  have Z : ig_Z D kk ad bs s H locs a2 la3 b lb lo := Z
  exact W.iret (v := r1) F.1 F.2.1 hr (fun t ht hW => ⟨⟨_, (a2, la3), rfl, hf, Z.wd E ht hW⟩, Z.fr ht⟩) Z.2.2.2 dX5_roundAnew_7
set_option maxHeartbeats 4000000 in
set_option maxRecDepth 100000 in
theorem wm_X4_firstOfBest_2 (F : CallFix p m c cX4_firstOfBest 4 s args ig_all RX4) (E : ig_E D kk ad bs s) (hr : meth.sig.returnType = (some .int)) (hk : meth.locks = false) (post : Int32 → Prop) :
    ∀ (n : Nat) (x1 : Int32) (x2 : Int32) (x3 : Int32) (H : Heap) (locs : List Loc) (ls : Array Slot), wp_X4_firstOfBest_2 a la post n x1 x2 x3 → ig_Z D kk ad bs s H locs a la b lb lo → lv_has ls 4 [(0, .ref (ad 24)), (1, .int x1), (2, .int x2), (3, .int x3)] → W p l e (k2_rm 1 23) s m args below meth c H locs 0 0 (MQ below (va_Qi (fun (r : Int32) (_ : Unit) => post r) (fun _ t => ig_Wd D kk ad bs a la b lb lo t) (ig_A bs)) args s 0 0 (ig_A bs)) (F0 m 2 ls []) := by
  intro n
  induction n with
  | zero => intro x1 x2 x3 H locs ls hf Z hl; exact False.elim hf
  | succ n ih =>
    intro x1 x2 x3 H locs ls hf Z hl
    refine lv_iload_n F.1 F.2.1 dX4_firstOfBest_2 rfl (lv_at hl 3 rfl) ?_
    refine lv_aload_n F.1 F.2.1 dX4_firstOfBest_3 rfl (lv_at hl 0 rfl) ?_
    refine gf_X4_19 F E Z dX4_firstOfBest_4 ?_
    refine gf_X4_23 F E Z dX4_firstOfBest_7 ?_
    refine lv_icmp_ge (tgt := 47) F.1 F.2.1 dX4_firstOfBest_10 (by decide) (fun c_1 => ?_) (fun c_1 => ?_)
    · have hf := hf.1 c_1
      refine lv_iload_n F.1 F.2.1 dX4_firstOfBest_47 rfl (lv_at hl 1 rfl) ?_
      exact W.iret (v := x1) F.1 F.2.1 hr (fun t ht hW => ⟨⟨_, (), rfl, hf, Z.wd E ht hW⟩, Z.fr ht⟩) Z.2.2.2 dX4_firstOfBest_48
    · have hf := hf.2 c_1
      refine lv_iload_n F.1 F.2.1 dX4_firstOfBest_13 rfl (lv_at hl 2 rfl) ?_
      refine lv_iload_n F.1 F.2.1 dX4_firstOfBest_14 rfl (lv_at hl 3 rfl) ?_
      have hM := k_X5_has l (D := D) (kk := kk) (ad := ad) (bs := bs) (a := a) (la := la) (b := b) (lb := lb) (lo := lo) x2 x3 hf
      refine ig_calli E Z (ig_runSN (As := [.int x2, .int x3]) (rest := []) F E Z hl (host := "Intergreen") (by decide +kernel) G_X4_59 G_X4_59_i G_X4_59_s hM md_X5_has rfl ⟨rfl, rfl⟩ ⟨Nat.le_of_ble_eq_true rfl, Nat.le_of_ble_eq_true rfl⟩ (Nat.le_of_ble_eq_true rfl) dX4_firstOfBest_15 ⟨Nat.le_of_ble_eq_true rfl, Nat.le_of_ble_eq_true rfl⟩) (fun r2 u H locs hf Z => ?_)
      refine lv_if_ne (tgt := 41) F.1 F.2.1 dX4_firstOfBest_18 (by decide) (fun c_3 => ?_) (fun c_3 => ?_)
      · have hf := hf.1 c_3
        refine lv_iinc (v := x3 + 1) (lv' := [(3, .int (x3 + 1)), (0, .ref (ad 24)), (1, .int x1), (2, .int x2)]) F.1 F.2.1 dX4_firstOfBest_41 hl (k := 3) rfl (by rfl) (by decide) rfl (fun ls hl => ?_)
        refine lv_goto (tgt := 2) F.1 F.2.1 dX4_firstOfBest_44 (by decide) ?_
        exact ih x1 x2 (x3 + 1) _ _ _ hf Z (lv_sub hl [1, 2, 3, 0] rfl)
      · have hf := hf.2 c_3
        refine lv_aload_n F.1 F.2.1 dX4_firstOfBest_21 rfl (lv_at hl 0 rfl) ?_
        refine lv_iload_n F.1 F.2.1 dX4_firstOfBest_22 rfl (lv_at hl 1 rfl) ?_
        refine lv_iload_n F.1 F.2.1 dX4_firstOfBest_23 rfl (lv_at hl 3 rfl) ?_
        refine lv_iload_n F.1 F.2.1 dX4_firstOfBest_24 rfl (lv_at hl 2 rfl) ?_
        have hM := k_X4_homeBy l (D := D) (kk := kk) (ad := ad) (bs := bs) (a := a) (la := la) (b := b) (lb := lb) (lo := lo) x1 x3 x2 hf
        refine ig_calli E Z (ig_runV (As := [.int x1, .int x3, .int x2]) (rest := []) F E Z hl G_X4_66 hM (i := 24) (by decide) (ig_k_24 _ _ _ _ _ _) rfl rfl md_X4_homeBy rfl ⟨rfl, rfl⟩ ⟨Nat.le_of_ble_eq_true rfl, Nat.le_of_ble_eq_true rfl⟩ (Nat.le_of_ble_eq_true rfl) dX4_firstOfBest_25 ⟨Nat.le_of_ble_eq_true rfl, Nat.le_of_ble_eq_true rfl⟩) (fun r4 u H locs hf Z => ?_)
        refine lv_aload_n F.1 F.2.1 dX4_firstOfBest_28 rfl (lv_at hl 0 rfl) ?_
        refine gf_X4_16 F E Z dX4_firstOfBest_29 ?_
        refine lv_iload_n F.1 F.2.1 dX4_firstOfBest_32 rfl (lv_at hl 2 rfl) ?_
        have hv5 := hf.1
        have hf := hf.2
        refine ig_aald (t0 := 4) (n := 64) (b0 := 33) F E Z rfl (Or.inr rfl) (by decide) (ig_k_32 _ _ _ _ _ _) hv5 dX4_firstOfBest_33 ?_
        refine lv_iload_n F.1 F.2.1 dX4_firstOfBest_34 rfl (lv_at hl 1 rfl) ?_
        have hv6 := hf.1
        have hf := hf.2
        refine ig_iald (f := a (33 + x2.toNatClampNeg)) F E Z (by have := ig_lt hv5; omega) (by rw [ig_mm_a _ _ (by have := ig_lt hv5; omega)]; exact (ig_c_rh _ _ _ _ _ _ (ig_lt hv5))) hv6 dX4_firstOfBest_35 ?_
        refine lv_icmp_ne (tgt := 41) F.1 F.2.1 dX4_firstOfBest_36 (by decide) (fun c_7 => ?_) (fun c_7 => ?_)
        · have hf := hf.1 c_7
          refine lv_iinc (v := x3 + 1) (lv' := [(3, .int (x3 + 1)), (0, .ref (ad 24)), (1, .int x1), (2, .int x2)]) F.1 F.2.1 dX4_firstOfBest_41 hl (k := 3) rfl (by rfl) (by decide) rfl (fun ls hl => ?_)
          refine lv_goto (tgt := 2) F.1 F.2.1 dX4_firstOfBest_44 (by decide) ?_
          exact ih x1 x2 (x3 + 1) _ _ _ hf Z (lv_sub hl [1, 2, 3, 0] rfl)
        · have hf := hf.2 c_7
          refine lv_iload_n F.1 F.2.1 dX4_firstOfBest_39 rfl (lv_at hl 3 rfl) ?_
          exact W.iret (v := x3) F.1 F.2.1 hr (fun t ht hW => ⟨⟨_, (), rfl, hf, Z.wd E ht hW⟩, Z.fr ht⟩) Z.2.2.2 dX4_firstOfBest_40
set_option maxHeartbeats 4000000 in
set_option maxRecDepth 100000 in
theorem k_X4_firstOfBest (l : Launch) {D : va_G} {kk : Nat → ClassId} {ad : Nat → Nat} {bs : Nat} {a : ig_M} {la : Int64} {b : ig_M} {lb lo : Int64} (x1 : Int32) (x2 : Int32) {post : Int32 → Prop} (hf : wp_X4_firstOfBest a la x1 x2 post) : Met l yX4_firstOfBest (ig_ws yX4_firstOfBest cX4_firstOfBest 4 (some .int)) (k2_rm 1 23) (va_Pc [.ref (ad 24), .int x1, .int x2] (ig_Wd D kk ad bs a la b lb lo)) (va_Qi (fun (r : Int32) (_ : Unit) => post r) (fun _ t => ig_Wd D kk ad bs a la b lb lo t) (ig_A bs)) 0 0 (ig_A bs) := by
  refine Met.ofW (cc := cX4_firstOfBest) (maxL := 4) (ret := (some .int)) (by decide) rfl ?_
  intro p e s m args below meth c s₁ B hml hv
  obtain ⟨rfl, E, hP⟩ := hv
  have hk := B.notSynchronized
  have hr := B.returns
  have F : CallFix p m c cX4_firstOfBest 4 s _ ig_all RX4 := ⟨B.exec, B.bytes, hml, findClass_of_methodNamed B.named, fun w hw => atoms_spec B.pre w (List.mem_cons_of_mem _ hw)⟩
  have Z : ig_Z D kk ad bs s s.heap [] a la b lb lo := ig_Z.rf hP
  have hl := lv_entry ([.ref (ad 24), .int x1, .int x2]) (n := 4) (Nat.le_of_ble_eq_true rfl)
  rw [lg_entry_eq]
  generalize (lg_sl ([.ref (ad 24), .int x1, .int x2]) ++ List.replicate (4 - (lg_sl ([.ref (ad 24), .int x1, .int x2])).length) Slot.unset).toArray = ls at hl ⊢
  have hl : lv_has ls 4 [(0, .ref (ad 24)), (1, .int x1), (2, .int x2)] := hl
  refine lv_iconst (v := 0) F.1 F.2.1 dX4_firstOfBest_0 (by decide) ?_
  refine lv_istore_n (lv' := [(3, .int 0), (0, .ref (ad 24)), (1, .int x1), (2, .int x2)]) F.1 F.2.1 dX4_firstOfBest_1 rfl hl (by decide) rfl (fun ls hl => ?_)
  obtain ⟨n1, hf⟩ := hf
  exact wm_X4_firstOfBest_2 F E hr hk post n1 x1 x2 0 _ _ _ hf Z (lv_sub hl [1, 2, 3, 0] rfl)
set_option maxHeartbeats 4000000 in
set_option maxRecDepth 100000 in
theorem wm_X4_stageAt_11 (F : CallFix p m c cX4_stageAt 5 s args ig_all RX4) (E : ig_E D kk ad bs s) (hr : meth.sig.returnType = (some .int)) (hk : meth.locks = false) (post : Int32 → ig_M → Int64 → Prop) :
    ∀ (n : Nat) (a : ig_M) (la : Int64) (x1 : Int32) (x2 : Int32) (x3 : Int32) (x4 : Int32) (H : Heap) (locs : List Loc) (ls : Array Slot), wp_X4_stageAt_11 post n a la x1 x2 x3 x4 → ig_Z D kk ad bs s H locs a la b lb lo → lv_has ls 5 [(0, .ref (ad 24)), (1, .int x1), (2, .int x2), (3, .int x3), (4, .int x4)] → W p l e (k2_rm 5 116) s m args below meth c H locs 0 0 (MQ below (va_Qi (fun (r : Int32) (u : ig_M × Int64) => post r u.1 u.2) (fun u t => ig_Wd D kk ad bs u.1 u.2 b lb lo t) (ig_A bs)) args s 0 0 (ig_A bs)) (F0 m 11 ls []) := by
  intro n
  induction n with
  | zero => intro a la x1 x2 x3 x4 H locs ls hf Z hl; exact False.elim hf
  | succ n ih =>
    intro a la x1 x2 x3 x4 H locs ls hf Z hl
    refine lv_iload F.1 F.2.1 dX4_stageAt_11 (lv_at hl 4 rfl) ?_
    refine lv_iload_n F.1 F.2.1 dX4_stageAt_13 rfl (lv_at hl 1 rfl) ?_
    refine lv_icmp_ge (tgt := 36) F.1 F.2.1 dX4_stageAt_14 (by decide) (fun c_3 => ?_) (fun c_3 => ?_)
    · have hf := hf.1 c_3
      refine lv_iload_n F.1 F.2.1 dX4_stageAt_36 rfl (lv_at hl 2 rfl) ?_
      exact W.iret (v := x2) F.1 F.2.1 hr (fun t ht hW => ⟨⟨_, (a, la), rfl, hf, Z.wd E ht hW⟩, Z.fr ht⟩) Z.2.2.2 dX4_stageAt_37
    · have hf := hf.2 c_3
      refine lv_aload_n F.1 F.2.1 dX4_stageAt_17 rfl (lv_at hl 0 rfl) ?_
      refine lv_iload_n F.1 F.2.1 dX4_stageAt_18 rfl (lv_at hl 2 rfl) ?_
      refine lv_iload_n F.1 F.2.1 dX4_stageAt_19 rfl (lv_at hl 3 rfl) ?_
      have hM := k_X4_firstOfBest l (D := D) (kk := kk) (ad := ad) (bs := bs) (a := a) (la := la) (b := b) (lb := lb) (lo := lo) x2 x3 hf
      refine ig_calli E Z (ig_runV (As := [.int x2, .int x3]) (rest := []) F E Z hl G_X4_36 hM (i := 24) (by decide) (ig_k_24 _ _ _ _ _ _) rfl rfl md_X4_firstOfBest rfl ⟨rfl, rfl⟩ ⟨Nat.le_of_ble_eq_true rfl, Nat.le_of_ble_eq_true rfl⟩ (Nat.le_of_ble_eq_true rfl) dX4_stageAt_20 ⟨Nat.le_of_ble_eq_true rfl, Nat.le_of_ble_eq_true rfl⟩) (fun r4 u H locs hf Z => ?_)
      refine lv_istore_n (lv' := [(2, .int r4), (0, .ref (ad 24)), (1, .int x1), (3, .int x3), (4, .int x4)]) F.1 F.2.1 dX4_stageAt_23 rfl hl (by decide) rfl (fun ls hl => ?_)
      refine lv_iload_n F.1 F.2.1 dX4_stageAt_24 rfl (lv_at hl 3 rfl) ?_
      refine lv_iconst (v := 1) F.1 F.2.1 dX4_stageAt_25 (by decide) ?_
      refine lv_iload_n F.1 F.2.1 dX4_stageAt_26 rfl (lv_at hl 0 rfl) ?_
      refine lv_ishl F.1 F.2.1 dX4_stageAt_27 ?_
      refine lv_ior F.1 F.2.1 dX4_stageAt_28 ?_
      refine lv_istore_n (lv' := [(3, .int (x3 ||| (1 <<< (r4 &&& 31)))), (2, .int r4), (0, .ref (ad 24)), (1, .int x1), (4, .int x4)]) F.1 F.2.1 dX4_stageAt_29 rfl hl (by decide) rfl (fun ls hl => ?_)
      refine lv_iinc (v := x4 + 1) (lv' := [(4, .int (x4 + 1)), (3, .int (x3 ||| (1 <<< (r4 &&& 31)))), (2, .int r4), (0, .ref (ad 24)), (1, .int x1)]) F.1 F.2.1 dX4_stageAt_30 hl (k := 4) rfl (by rfl) (by decide) rfl (fun ls hl => ?_)
      refine lv_goto (tgt := 11) F.1 F.2.1 dX4_stageAt_33 (by decide) ?_
      exact ih a la x1 r4 (x3 ||| (1 <<< (r4 &&& 31))) (x4 + 1) _ _ _ hf Z (lv_sub hl [3, 4, 2, 1, 0] rfl)
set_option maxHeartbeats 4000000 in
set_option maxRecDepth 100000 in
theorem k_X4_stageAt (l : Launch) {D : va_G} {kk : Nat → ClassId} {ad : Nat → Nat} {bs : Nat} {a : ig_M} {la : Int64} {b : ig_M} {lb lo : Int64} (x1 : Int32) {post : Int32 → ig_M → Int64 → Prop} (hf : wp_X4_stageAt a la x1 post) : Met l yX4_stageAt (ig_ws yX4_stageAt cX4_stageAt 5 (some .int)) (k2_rm 5 116) (va_Pc [.ref (ad 24), .int x1] (ig_Wd D kk ad bs a la b lb lo)) (va_Qi (fun (r : Int32) (u : ig_M × Int64) => post r u.1 u.2) (fun u t => ig_Wd D kk ad bs u.1 u.2 b lb lo t) (ig_A bs)) 0 0 (ig_A bs) := by
  refine Met.ofW (cc := cX4_stageAt) (maxL := 5) (ret := (some .int)) (by decide) rfl ?_
  intro p e s m args below meth c s₁ B hml hv
  obtain ⟨rfl, E, hP⟩ := hv
  have hk := B.notSynchronized
  have hr := B.returns
  have F : CallFix p m c cX4_stageAt 5 s _ ig_all RX4 := ⟨B.exec, B.bytes, hml, findClass_of_methodNamed B.named, fun w hw => atoms_spec B.pre w (List.mem_cons_of_mem _ hw)⟩
  have Z : ig_Z D kk ad bs s s.heap [] a la b lb lo := ig_Z.rf hP
  have hl := lv_entry ([.ref (ad 24), .int x1]) (n := 5) (Nat.le_of_ble_eq_true rfl)
  rw [lg_entry_eq]
  generalize (lg_sl ([.ref (ad 24), .int x1]) ++ List.replicate (5 - (lg_sl ([.ref (ad 24), .int x1])).length) Slot.unset).toArray = ls at hl ⊢
  have hl : lv_has ls 5 [(0, .ref (ad 24)), (1, .int x1)] := hl
  refine lv_aload_n F.1 F.2.1 dX4_stageAt_0 rfl (lv_at hl 0 rfl) ?_
  have hM := k_X4_findWaysHome l (D := D) (kk := kk) (ad := ad) (bs := bs) (a := a) (la := la) (b := b) (lb := lb) (lo := lo) hf
  refine ig_callv E Z (ig_runV (As := []) (rest := []) F E Z hl G_X4_29 hM (i := 24) (by decide) (ig_k_24 _ _ _ _ _ _) rfl rfl md_X4_findWaysHome rfl ⟨rfl, rfl⟩ ⟨Nat.le_of_ble_eq_true rfl, Nat.le_of_ble_eq_true rfl⟩ (Nat.le_of_ble_eq_true rfl) dX4_stageAt_1 ⟨Nat.le_of_ble_eq_true rfl, Nat.le_of_ble_eq_true rfl⟩) (fun u H locs hf Z => ?_)
  obtain ⟨a1, la2⟩ := u
  have Z : ig_Z D kk ad bs s H locs a1 la2 b lb lo := Z
  refine lv_iconst (v := 0) F.1 F.2.1 dX4_stageAt_4 (by decide) ?_
  refine lv_istore_n (lv' := [(2, .int 0), (0, .ref (ad 24)), (1, .int x1)]) F.1 F.2.1 dX4_stageAt_5 rfl hl (by decide) rfl (fun ls hl => ?_)
  refine lv_iconst (v := 1) F.1 F.2.1 dX4_stageAt_6 (by decide) ?_
  refine lv_istore_n (lv' := [(3, .int 1), (2, .int 0), (0, .ref (ad 24)), (1, .int x1)]) F.1 F.2.1 dX4_stageAt_7 rfl hl (by decide) rfl (fun ls hl => ?_)
  refine lv_iconst (v := 0) F.1 F.2.1 dX4_stageAt_8 (by decide) ?_
  refine lv_istore (lv' := [(4, .int 0), (3, .int 1), (2, .int 0), (0, .ref (ad 24)), (1, .int x1)]) F.1 F.2.1 dX4_stageAt_9 hl (by decide) rfl (fun ls hl => ?_)
  obtain ⟨n1, hf⟩ := hf
  exact wm_X4_stageAt_11 F E hr hk post n1 a1 la2 x1 0 1 0 _ _ _ hf Z (lv_sub hl [3, 4, 2, 1, 0] rfl)
end IGM
