section IGM
variable {p : Program} {l : Launch} {e : Env} {s : State} {m : MethodId} {args : Array Value} {below : List Frame} {meth : Method} {c : Code}
variable {D : va_G} {kk : Nat → ClassId} {ad : Nat → Nat} {bs : Nat} {a b a9 : ig_M} {la lb lo la9 : Int64}
set_option maxHeartbeats 4000000 in
set_option maxRecDepth 100000 in
theorem k_X6_thrown (l : Launch) {D : va_G} {kk : Nat → ClassId} {ad : Nat → Nat} {bs : Nat} {a : ig_M} {la : Int64} {b : ig_M} {lb lo : Int64} {post : Int32 → Prop} (hf : wp_X6_thrown b lb post) : Met l yX6_thrown (ig_ws yX6_thrown cX6_thrown 1 (some .int)) (k2_rm 0 0) (va_Pc [.ref (ad 97)] (ig_Wd D kk ad bs a la b lb lo)) (va_Qi (fun (r : Int32) (_ : Unit) => post r) (fun _ t => ig_Wd D kk ad bs a la b lb lo t) (ig_A bs)) 0 0 (ig_A bs) := by
  refine Met.ofW (cc := cX6_thrown) (maxL := 1) (ret := (some .int)) (by decide) rfl ?_
  intro p e s m args below meth c s₁ B hml hv
  obtain ⟨rfl, E, hP⟩ := hv
  have hk := B.notSynchronized
  have hr := B.returns
  have F : CallFix p m c cX6_thrown 1 s _ ig_all RX6 := ⟨B.exec, B.bytes, hml, findClass_of_methodNamed B.named, fun w hw => atoms_spec B.pre w (List.mem_cons_of_mem _ hw)⟩
  have Z : ig_Z D kk ad bs s s.heap [] a la b lb lo := ig_Z.rf hP
  have hl := lv_entry ([.ref (ad 97)]) (n := 1) (Nat.le_of_ble_eq_true rfl)
  rw [lg_entry_eq]
  generalize (lg_sl ([.ref (ad 97)]) ++ List.replicate (1 - (lg_sl ([.ref (ad 97)])).length) Slot.unset).toArray = ls at hl ⊢
  have hl : lv_has ls 1 [(0, .ref (ad 97))] := hl
  refine lv_aload_n F.1 F.2.1 dX6_thrown_0 rfl (lv_at hl 0 rfl) ?_
  refine gf_X6_66 F E Z dX6_thrown_1 ?_
  exact W.iret (v := b 97 0) F.1 F.2.1 hr (fun t ht hW => ⟨⟨_, (), rfl, hf, Z.wd E ht hW⟩, Z.fr ht⟩) Z.2.2.2 dX6_thrown_4
set_option maxHeartbeats 4000000 in
set_option maxRecDepth 100000 in
theorem k_X6_goesWell (l : Launch) {D : va_G} {kk : Nat → ClassId} {ad : Nat → Nat} {bs : Nat} {a : ig_M} {la : Int64} {b : ig_M} {lb lo : Int64} (x1 : Int32) {post : Int32 → ig_M → Int64 → Prop} (hf : wp_X6_goesWell b lb x1 post) : Met l yX6_goesWell (ig_ws yX6_goesWell cX6_goesWell 2 (some .boolean)) (k2_rm 0 0) (va_Pc [.ref (ad 97), .int x1] (ig_Wd D kk ad bs a la b lb lo)) (va_Qi (fun (r : Int32) (u : ig_M × Int64) => post r u.1 u.2) (fun u t => ig_Wd D kk ad bs a la u.1 u.2 lo t) (ig_A bs)) 0 0 (ig_A bs) := by
  refine Met.ofW (cc := cX6_goesWell) (maxL := 2) (ret := (some .boolean)) (by decide) rfl ?_
  intro p e s m args below meth c s₁ B hml hv
  obtain ⟨rfl, E, hP⟩ := hv
  have hk := B.notSynchronized
  have hr := B.returns
  have F : CallFix p m c cX6_goesWell 2 s _ ig_all RX6 := ⟨B.exec, B.bytes, hml, findClass_of_methodNamed B.named, fun w hw => atoms_spec B.pre w (List.mem_cons_of_mem _ hw)⟩
  have Z : ig_Z D kk ad bs s s.heap [] a la b lb lo := ig_Z.rf hP
  have hl := lv_entry ([.ref (ad 97), .int x1]) (n := 2) (Nat.le_of_ble_eq_true rfl)
  rw [lg_entry_eq]
  generalize (lg_sl ([.ref (ad 97), .int x1]) ++ List.replicate (2 - (lg_sl ([.ref (ad 97), .int x1])).length) Slot.unset).toArray = ls at hl ⊢
  have hl : lv_has ls 2 [(0, .ref (ad 97)), (1, .int x1)] := hl
  refine lv_aload_n F.1 F.2.1 dX6_goesWell_0 rfl (lv_at hl 0 rfl) ?_
  refine lv_iload_n F.1 F.2.1 dX6_goesWell_1 rfl (lv_at hl 1 rfl) ?_
  refine pf_X6_66 F E Z dX6_goesWell_2 (fun H locs b1 hb1 Z => ?_)
  have hf := hf b1 hb1
  refine lv_iload_n F.1 F.2.1 dX6_goesWell_5 rfl (lv_at hl 1 rfl) ?_
  refine lv_if_ne (tgt := 13) F.1 F.2.1 dX6_goesWell_6 (by decide) (fun c_2 => ?_) (fun c_2 => ?_)
  · have hf := hf.1 c_2
    refine lv_iconst (v := 0) F.1 F.2.1 dX6_goesWell_13 (by decide) ?_
    exact W.zret (v := 0) F.1 F.2.1 hr (ig_narrow (Or.inl rfl)) (fun t ht hW => ⟨⟨_, (b1, lb), rfl, hf, Z.wd E ht hW⟩, Z.fr ht⟩) Z.2.2.2 dX6_goesWell_14
  · have hf := hf.2 c_2
    refine lv_iconst (v := 1) F.1 F.2.1 dX6_goesWell_9 (by decide) ?_
    refine lv_goto (tgt := 14) F.1 F.2.1 dX6_goesWell_10 (by decide) ?_
    exact W.zret (v := 1) F.1 F.2.1 hr (ig_narrow (Or.inr rfl)) (fun t ht hW => ⟨⟨_, (b1, lb), rfl, hf, Z.wd E ht hW⟩, Z.fr ht⟩) Z.2.2.2 dX6_goesWell_14
set_option maxHeartbeats 4000000 in
set_option maxRecDepth 100000 in
theorem k_X6_in (l : Launch) {D : va_G} {kk : Nat → ClassId} {ad : Nat → Nat} {bs : Nat} {a : ig_M} {la : Int64} {b : ig_M} {lb lo : Int64} (x0 : Int32) (x1 : Int32) (x2 : Int32) {post : Int32 → Prop} (hf : wp_X6_in x0 x1 x2 post) : Met l yX6_in (ig_ws yX6_in cX6_in 3 (some .boolean)) (k2_rm 0 0) (va_Pc [.int x0, .int x1, .int x2] (ig_Wd D kk ad bs a la b lb lo)) (va_Qi (fun (r : Int32) (_ : Unit) => post r) (fun _ t => ig_Wd D kk ad bs a la b lb lo t) (ig_A bs)) 0 0 (ig_A bs) := by
  refine Met.ofW (cc := cX6_in) (maxL := 3) (ret := (some .boolean)) (by decide) rfl ?_
  intro p e s m args below meth c s₁ B hml hv
  obtain ⟨rfl, E, hP⟩ := hv
  have hk := B.notSynchronized
  have hr := B.returns
  have F : CallFix p m c cX6_in 3 s _ ig_all RX6 := ⟨B.exec, B.bytes, hml, findClass_of_methodNamed B.named, fun w hw => atoms_spec B.pre w (List.mem_cons_of_mem _ hw)⟩
  have Z : ig_Z D kk ad bs s s.heap [] a la b lb lo := ig_Z.rf hP
  have hl := lv_entry ([.int x0, .int x1, .int x2]) (n := 3) (Nat.le_of_ble_eq_true rfl)
  rw [lg_entry_eq]
  generalize (lg_sl ([.int x0, .int x1, .int x2]) ++ List.replicate (3 - (lg_sl ([.int x0, .int x1, .int x2])).length) Slot.unset).toArray = ls at hl ⊢
  have hl : lv_has ls 3 [(0, .int x0), (1, .int x1), (2, .int x2)] := hl
  refine lv_iload_n F.1 F.2.1 dX6_in_0 rfl (lv_at hl 0 rfl) ?_
  refine lv_iload_n F.1 F.2.1 dX6_in_1 rfl (lv_at hl 1 rfl) ?_
  refine lv_icmp_lt (tgt := 14) F.1 F.2.1 dX6_in_2 (by decide) (fun c_1 => ?_) (fun c_1 => ?_)
  · have hf := hf.1 c_1
    refine lv_iconst (v := 0) F.1 F.2.1 dX6_in_14 (by decide) ?_
    exact W.zret (v := 0) F.1 F.2.1 hr (ig_narrow (Or.inl rfl)) (fun t ht hW => ⟨⟨_, (), rfl, hf, Z.wd E ht hW⟩, Z.fr ht⟩) Z.2.2.2 dX6_in_15
  · have hf := hf.2 c_1
    refine lv_iload_n F.1 F.2.1 dX6_in_5 rfl (lv_at hl 0 rfl) ?_
    refine lv_iload_n F.1 F.2.1 dX6_in_6 rfl (lv_at hl 2 rfl) ?_
    refine lv_icmp_gt (tgt := 14) F.1 F.2.1 dX6_in_7 (by decide) (fun c_2 => ?_) (fun c_2 => ?_)
    · have hf := hf.1 c_2
      refine lv_iconst (v := 0) F.1 F.2.1 dX6_in_14 (by decide) ?_
      exact W.zret (v := 0) F.1 F.2.1 hr (ig_narrow (Or.inl rfl)) (fun t ht hW => ⟨⟨_, (), rfl, hf, Z.wd E ht hW⟩, Z.fr ht⟩) Z.2.2.2 dX6_in_15
    · have hf := hf.2 c_2
      refine lv_iconst (v := 1) F.1 F.2.1 dX6_in_10 (by decide) ?_
      refine lv_goto (tgt := 15) F.1 F.2.1 dX6_in_11 (by decide) ?_
      exact W.zret (v := 1) F.1 F.2.1 hr (ig_narrow (Or.inr rfl)) (fun t ht hW => ⟨⟨_, (), rfl, hf, Z.wd E ht hW⟩, Z.fr ht⟩) Z.2.2.2 dX6_in_15
set_option maxHeartbeats 4000000 in
set_option maxRecDepth 100000 in
theorem k_X6_isPhase (l : Launch) {D : va_G} {kk : Nat → ClassId} {ad : Nat → Nat} {bs : Nat} {a : ig_M} {la : Int64} {b : ig_M} {lb lo : Int64} (x1 : Int32) {post : Int32 → Prop} (hf : wp_X6_isPhase b lb x1 post) : Met l yX6_isPhase (ig_ws yX6_isPhase cX6_isPhase 2 (some .boolean)) (k2_rm 1 22) (va_Pc [.ref (ad 97), .int x1] (ig_Wd D kk ad bs a la b lb lo)) (va_Qi (fun (r : Int32) (_ : Unit) => post r) (fun _ t => ig_Wd D kk ad bs a la b lb lo t) (ig_A bs)) 0 0 (ig_A bs) := by
  refine Met.ofW (cc := cX6_isPhase) (maxL := 2) (ret := (some .boolean)) (by decide) rfl ?_
  intro p e s m args below meth c s₁ B hml hv
  obtain ⟨rfl, E, hP⟩ := hv
  have hk := B.notSynchronized
  have hr := B.returns
  have F : CallFix p m c cX6_isPhase 2 s _ ig_all RX6 := ⟨B.exec, B.bytes, hml, findClass_of_methodNamed B.named, fun w hw => atoms_spec B.pre w (List.mem_cons_of_mem _ hw)⟩
  have Z : ig_Z D kk ad bs s s.heap [] a la b lb lo := ig_Z.rf hP
  have hl := lv_entry ([.ref (ad 97), .int x1]) (n := 2) (Nat.le_of_ble_eq_true rfl)
  rw [lg_entry_eq]
  generalize (lg_sl ([.ref (ad 97), .int x1]) ++ List.replicate (2 - (lg_sl ([.ref (ad 97), .int x1])).length) Slot.unset).toArray = ls at hl ⊢
  have hl : lv_has ls 2 [(0, .ref (ad 97)), (1, .int x1)] := hl
  refine lv_iload_n F.1 F.2.1 dX6_isPhase_0 rfl (lv_at hl 1 rfl) ?_
  refine lv_iconst (v := 0) F.1 F.2.1 dX6_isPhase_1 (by decide) ?_
  refine lv_aload_n F.1 F.2.1 dX6_isPhase_2 rfl (lv_at hl 0 rfl) ?_
  refine gf_X6_69 F E Z dX6_isPhase_3 ?_
  refine lv_iconst (v := 1) F.1 F.2.1 dX6_isPhase_6 (by decide) ?_
  refine lv_isub F.1 F.2.1 dX6_isPhase_7 ?_
  have hM := k_X6_in l (D := D) (kk := kk) (ad := ad) (bs := bs) (a := a) (la := la) (b := b) (lb := lb) (lo := lo) x1 0 ((b 97 2) - 1) hf
  refine ig_calli E Z (ig_runS (As := [.int x1, .int 0, .int ((b 97 2) - 1)]) (rest := []) F E Z hl G_X6_72 hM rfl md_X6_in rfl ⟨rfl, rfl⟩ ⟨Nat.le_of_ble_eq_true rfl, Nat.le_of_ble_eq_true rfl⟩ (Nat.le_of_ble_eq_true rfl) dX6_isPhase_8 ⟨Nat.le_of_ble_eq_true rfl, Nat.le_of_ble_eq_true rfl⟩) (fun r1 u H locs hf Z => ?_)
  exact W.zret (v := r1) F.1 F.2.1 hr (ig_narrow hf.1) (fun t ht hW => ⟨⟨_, (), rfl, hf.2, Z.wd E ht hW⟩, Z.fr ht⟩) Z.2.2.2 dX6_isPhase_11
set_option maxHeartbeats 4000000 in
set_option maxRecDepth 100000 in
theorem k_X6_isStage (l : Launch) {D : va_G} {kk : Nat → ClassId} {ad : Nat → Nat} {bs : Nat} {a : ig_M} {la : Int64} {b : ig_M} {lb lo : Int64} (x1 : Int32) {post : Int32 → Prop} (hf : wp_X6_isStage b lb x1 post) : Met l yX6_isStage (ig_ws yX6_isStage cX6_isStage 2 (some .boolean)) (k2_rm 1 22) (va_Pc [.ref (ad 97), .int x1] (ig_Wd D kk ad bs a la b lb lo)) (va_Qi (fun (r : Int32) (_ : Unit) => post r) (fun _ t => ig_Wd D kk ad bs a la b lb lo t) (ig_A bs)) 0 0 (ig_A bs) := by
  refine Met.ofW (cc := cX6_isStage) (maxL := 2) (ret := (some .boolean)) (by decide) rfl ?_
  intro p e s m args below meth c s₁ B hml hv
  obtain ⟨rfl, E, hP⟩ := hv
  have hk := B.notSynchronized
  have hr := B.returns
  have F : CallFix p m c cX6_isStage 2 s _ ig_all RX6 := ⟨B.exec, B.bytes, hml, findClass_of_methodNamed B.named, fun w hw => atoms_spec B.pre w (List.mem_cons_of_mem _ hw)⟩
  have Z : ig_Z D kk ad bs s s.heap [] a la b lb lo := ig_Z.rf hP
  have hl := lv_entry ([.ref (ad 97), .int x1]) (n := 2) (Nat.le_of_ble_eq_true rfl)
  rw [lg_entry_eq]
  generalize (lg_sl ([.ref (ad 97), .int x1]) ++ List.replicate (2 - (lg_sl ([.ref (ad 97), .int x1])).length) Slot.unset).toArray = ls at hl ⊢
  have hl : lv_has ls 2 [(0, .ref (ad 97)), (1, .int x1)] := hl
  refine lv_iload_n F.1 F.2.1 dX6_isStage_0 rfl (lv_at hl 1 rfl) ?_
  refine lv_iconst (v := 0) F.1 F.2.1 dX6_isStage_1 (by decide) ?_
  refine lv_aload_n F.1 F.2.1 dX6_isStage_2 rfl (lv_at hl 0 rfl) ?_
  refine gf_X6_76 F E Z dX6_isStage_3 ?_
  refine lv_iconst (v := 1) F.1 F.2.1 dX6_isStage_6 (by decide) ?_
  refine lv_isub F.1 F.2.1 dX6_isStage_7 ?_
  have hM := k_X6_in l (D := D) (kk := kk) (ad := ad) (bs := bs) (a := a) (la := la) (b := b) (lb := lb) (lo := lo) x1 0 ((b 97 7) - 1) hf
  refine ig_calli E Z (ig_runS (As := [.int x1, .int 0, .int ((b 97 7) - 1)]) (rest := []) F E Z hl G_X6_72 hM rfl md_X6_in rfl ⟨rfl, rfl⟩ ⟨Nat.le_of_ble_eq_true rfl, Nat.le_of_ble_eq_true rfl⟩ (Nat.le_of_ble_eq_true rfl) dX6_isStage_8 ⟨Nat.le_of_ble_eq_true rfl, Nat.le_of_ble_eq_true rfl⟩) (fun r1 u H locs hf Z => ?_)
  exact W.zret (v := r1) F.1 F.2.1 hr (ig_narrow hf.1) (fun t ht hW => ⟨⟨_, (), rfl, hf.2, Z.wd E ht hW⟩, Z.fr ht⟩) Z.2.2.2 dX6_isStage_11
set_option maxHeartbeats 4000000 in
set_option maxRecDepth 100000 in
theorem k_X6_has (l : Launch) {D : va_G} {kk : Nat → ClassId} {ad : Nat → Nat} {bs : Nat} {a : ig_M} {la : Int64} {b : ig_M} {lb lo : Int64} (x0 : Int32) (x1 : Int32) {post : Int32 → Prop} (hf : wp_X6_has x0 x1 post) : Met l yX6_has (ig_ws yX6_has cX6_has 2 (some .boolean)) (k2_rm 0 0) (va_Pc [.int x0, .int x1] (ig_Wd D kk ad bs a la b lb lo)) (va_Qi (fun (r : Int32) (_ : Unit) => post r) (fun _ t => ig_Wd D kk ad bs a la b lb lo t) (ig_A bs)) 0 0 (ig_A bs) := by
  refine Met.ofW (cc := cX6_has) (maxL := 2) (ret := (some .boolean)) (by decide) rfl ?_
  intro p e s m args below meth c s₁ B hml hv
  obtain ⟨rfl, E, hP⟩ := hv
  have hk := B.notSynchronized
  have hr := B.returns
  have F : CallFix p m c cX6_has 2 s _ ig_all RX6 := ⟨B.exec, B.bytes, hml, findClass_of_methodNamed B.named, fun w hw => atoms_spec B.pre w (List.mem_cons_of_mem _ hw)⟩
  have Z : ig_Z D kk ad bs s s.heap [] a la b lb lo := ig_Z.rf hP
  have hl := lv_entry ([.int x0, .int x1]) (n := 2) (Nat.le_of_ble_eq_true rfl)
  rw [lg_entry_eq]
  generalize (lg_sl ([.int x0, .int x1]) ++ List.replicate (2 - (lg_sl ([.int x0, .int x1])).length) Slot.unset).toArray = ls at hl ⊢
  have hl : lv_has ls 2 [(0, .int x0), (1, .int x1)] := hl
  refine lv_iload_n F.1 F.2.1 dX6_has_0 rfl (lv_at hl 0 rfl) ?_
  refine lv_iload_n F.1 F.2.1 dX6_has_1 rfl (lv_at hl 1 rfl) ?_
  refine lv_ishr F.1 F.2.1 dX6_has_2 ?_
  refine lv_iconst (v := 1) F.1 F.2.1 dX6_has_3 (by decide) ?_
  refine lv_iand F.1 F.2.1 dX6_has_4 ?_
  refine lv_iconst (v := 1) F.1 F.2.1 dX6_has_5 (by decide) ?_
  refine lv_icmp_ne (tgt := 13) F.1 F.2.1 dX6_has_6 (by decide) (fun c_1 => ?_) (fun c_1 => ?_)
  · have hf := hf.1 c_1
    refine lv_iconst (v := 0) F.1 F.2.1 dX6_has_13 (by decide) ?_
    exact W.zret (v := 0) F.1 F.2.1 hr (ig_narrow (Or.inl rfl)) (fun t ht hW => ⟨⟨_, (), rfl, hf, Z.wd E ht hW⟩, Z.fr ht⟩) Z.2.2.2 dX6_has_14
  · have hf := hf.2 c_1
    refine lv_iconst (v := 1) F.1 F.2.1 dX6_has_9 (by decide) ?_
    refine lv_goto (tgt := 14) F.1 F.2.1 dX6_has_10 (by decide) ?_
    exact W.zret (v := 1) F.1 F.2.1 hr (ig_narrow (Or.inr rfl)) (fun t ht hW => ⟨⟨_, (), rfl, hf, Z.wd E ht hW⟩, Z.fr ht⟩) Z.2.2.2 dX6_has_14
set_option maxHeartbeats 4000000 in
set_option maxRecDepth 100000 in
theorem wm_X6_phase_34 (F : CallFix p m c cX6_phase 5 s args ig_all RX6) (E : ig_E D kk ad bs s) (hr : meth.sig.returnType = (some .int)) (hk : meth.locks = false) (k_35 : ig_M → Int64 → Int32 → Int32 → Int32 → Int32 → Prop) (post : Int32 → ig_M → Int64 → Prop) (h_35 : ∀ (b : ig_M) (lb : Int64) (x1 : Int32) (x2 : Int32) (x3 : Int32) (t0 : Int32) (H : Heap) (locs : List Loc) (ls : Array Slot), k_35 b lb x1 x2 x3 t0 → ig_Z D kk ad bs s H locs a la b lb lo → lv_has ls 5 [(0, .ref (ad 97)), (1, .int x1), (2, .int x2), (3, .int x3)] → W p l e (k2_rm 1 22) s m args below meth c H locs 0 0 (MQ below (va_Qi (fun (r : Int32) (u : ig_M × Int64) => post r u.1 u.2) (fun u t => ig_Wd D kk ad bs a la u.1 u.2 lo t) (ig_A bs)) args s 0 0 (ig_A bs)) (F0 m 35 ls [.int t0])) :
    ∀ (b : ig_M) (lb : Int64) (x1 : Int32) (x2 : Int32) (x3 : Int32) (H : Heap) (locs : List Loc) (ls : Array Slot), wp_X6_phase_34 k_35 post b lb x1 x2 x3 → ig_Z D kk ad bs s H locs a la b lb lo → lv_has ls 5 [(0, .ref (ad 97)), (1, .int x1), (2, .int x2), (3, .int x3)] → W p l e (k2_rm 1 22) s m args below meth c H locs 0 0 (MQ below (va_Qi (fun (r : Int32) (u : ig_M × Int64) => post r u.1 u.2) (fun u t => ig_Wd D kk ad bs a la u.1 u.2 lo t) (ig_A bs)) args s 0 0 (ig_A bs)) (F0 m 34 ls []) := by
  intro b lb x1 x2 x3 H locs ls hf Z hl
  refine lv_iconst (v := 0) F.1 F.2.1 dX6_phase_34 (by decide) ?_
  exact h_35 b lb x1 x2 x3 0 _ _ _ hf Z (lv_sub hl [0, 1, 2, 3] rfl)
set_option maxHeartbeats 4000000 in
set_option maxRecDepth 100000 in
theorem wm_X6_phase_68 (F : CallFix p m c cX6_phase 5 s args ig_all RX6) (E : ig_E D kk ad bs s) (hr : meth.sig.returnType = (some .int)) (hk : meth.locks = false) (post : Int32 → ig_M → Int64 → Prop) :
    ∀ (b : ig_M) (lb : Int64) (x1 : Int32) (x2 : Int32) (x3 : Int32) (t0 : Int32) (H : Heap) (locs : List Loc) (ls : Array Slot), wp_X6_phase_68 post b lb x1 x2 x3 t0 → ig_Z D kk ad bs s H locs a la b lb lo → lv_has ls 5 [(0, .ref (ad 97)), (1, .int x1), (2, .int x2), (3, .int x3)] → W p l e (k2_rm 1 22) s m args below meth c H locs 0 0 (MQ below (va_Qi (fun (r : Int32) (u : ig_M × Int64) => post r u.1 u.2) (fun u t => ig_Wd D kk ad bs a la u.1 u.2 lo t) (ig_A bs)) args s 0 0 (ig_A bs)) (F0 m 68 ls [.int t0, .ref (ad 97)]) := by
  intro b lb x1 x2 x3 t0 H locs ls hf Z hl
  have hM := k_X6_goesWell l (D := D) (kk := kk) (ad := ad) (bs := bs) (a := a) (la := la) (b := b) (lb := lb) (lo := lo) t0 hf
  refine ig_calli E Z (ig_runV (As := [.int t0]) (rest := []) F E Z hl G_X6_83 hM (i := 97) (by decide) (ig_k_97 _ _ _ _ _ _) rfl rfl md_X6_goesWell rfl ⟨rfl, rfl⟩ ⟨Nat.le_of_ble_eq_true rfl, Nat.le_of_ble_eq_true rfl⟩ (Nat.le_of_ble_eq_true rfl) dX6_phase_68 ⟨Nat.le_of_ble_eq_true rfl, Nat.le_of_ble_eq_true rfl⟩) (fun r10 u H locs hf Z => ?_)
  obtain ⟨b11, lb12⟩ := u
  have Z : ig_Z D kk ad bs s H locs a la b11 lb12 lo := Z
  refine lv_if_ne (tgt := 76) F.1 F.2.1 dX6_phase_71 (by decide) (fun c_13 => ?_) (fun c_13 => ?_)
  · have hf := hf.1 c_13
    refine lv_aload_n F.1 F.2.1 dX6_phase_76 rfl (lv_at hl 0 rfl) ?_
    refine gf_X6_7 F E Z dX6_phase_77 ?_
    refine lv_aload_n F.1 F.2.1 dX6_phase_80 rfl (lv_at hl 0 rfl) ?_
    refine gf_X6_69 F E Z dX6_phase_81 ?_
    refine lv_iload_n F.1 F.2.1 dX6_phase_84 rfl (lv_at hl 1 rfl) ?_
    have hv14 := hf.1
    have hf := hf.2
    refine ig_iastB (n := 8) F E Z (by decide) (by decide) (fun r => ig_k_98 _ _ _ _ _ r) hv14 dX6_phase_85 (fun H locs b15 hb15 Z => ?_)
    have hf := hf b15 hb15
    refine lv_aload_n F.1 F.2.1 dX6_phase_86 rfl (lv_at hl 0 rfl) ?_
    refine gf_X6_13 F E Z dX6_phase_87 ?_
    refine lv_aload_n F.1 F.2.1 dX6_phase_90 rfl (lv_at hl 0 rfl) ?_
    refine gf_X6_69 F E Z dX6_phase_91 ?_
    refine lv_iload_n F.1 F.2.1 dX6_phase_94 rfl (lv_at hl 2 rfl) ?_
    have hv16 := hf.1
    have hf := hf.2
    refine ig_iastB (n := 8) F E Z (by decide) (by decide) (fun r => ig_k_99 _ _ _ _ _ r) hv16 dX6_phase_95 (fun H locs b17 hb17 Z => ?_)
    have hf := hf b17 hb17
    refine lv_aload_n F.1 F.2.1 dX6_phase_96 rfl (lv_at hl 0 rfl) ?_
    refine gf_X6_16 F E Z dX6_phase_97 ?_
    refine lv_aload_n F.1 F.2.1 dX6_phase_100 rfl (lv_at hl 0 rfl) ?_
    refine gf_X6_69 F E Z dX6_phase_101 ?_
    refine lv_iload_n F.1 F.2.1 dX6_phase_104 rfl (lv_at hl 3 rfl) ?_
    have hv18 := hf.1
    have hf := hf.2
    refine ig_iastB (n := 8) F E Z (by decide) (by decide) (fun r => ig_k_100 _ _ _ _ _ r) hv18 dX6_phase_105 (fun H locs b19 hb19 Z => ?_)
    have hf := hf b19 hb19
    refine lv_aload_n F.1 F.2.1 dX6_phase_106 rfl (lv_at hl 0 rfl) ?_
    refine lv_dup F.1 F.2.1 dX6_phase_107 rfl ?_
    refine gf_X6_69 F E Z dX6_phase_108 ?_
    refine lv_iconst (v := 1) F.1 F.2.1 dX6_phase_111 (by decide) ?_
    refine lv_iadd F.1 F.2.1 dX6_phase_112 ?_
    refine pf_X6_69 F E Z dX6_phase_113 (fun H locs b20 hb20 Z => ?_)
    have hf := hf b20 hb20
    refine lv_aload_n F.1 F.2.1 dX6_phase_116 rfl (lv_at hl 0 rfl) ?_
    refine gf_X6_69 F E Z dX6_phase_117 ?_
    refine lv_iconst (v := 1) F.1 F.2.1 dX6_phase_120 (by decide) ?_
    refine lv_isub F.1 F.2.1 dX6_phase_121 ?_
    exact W.iret (v := (b20 97 2) - 1) F.1 F.2.1 hr (fun t ht hW => ⟨⟨_, (b20, lb12), rfl, hf, Z.wd E ht hW⟩, Z.fr ht⟩) Z.2.2.2 dX6_phase_122
  · have hf := hf.2 c_13
    refine lv_iconst (v := 0) F.1 F.2.1 dX6_phase_74 (by decide) ?_
    exact W.iret (v := 0) F.1 F.2.1 hr (fun t ht hW => ⟨⟨_, (b11, lb12), rfl, hf, Z.wd E ht hW⟩, Z.fr ht⟩) Z.2.2.2 dX6_phase_75
set_option maxHeartbeats 4000000 in
set_option maxRecDepth 100000 in
theorem wm_X6_phase_63 (F : CallFix p m c cX6_phase 5 s args ig_all RX6) (E : ig_E D kk ad bs s) (hr : meth.sig.returnType = (some .int)) (hk : meth.locks = false) (k_68 : ig_M → Int64 → Int32 → Int32 → Int32 → Int32 → Prop) (post : Int32 → ig_M → Int64 → Prop) (h_68 : ∀ (b : ig_M) (lb : Int64) (x1 : Int32) (x2 : Int32) (x3 : Int32) (t0 : Int32) (H : Heap) (locs : List Loc) (ls : Array Slot), k_68 b lb x1 x2 x3 t0 → ig_Z D kk ad bs s H locs a la b lb lo → lv_has ls 5 [(0, .ref (ad 97)), (1, .int x1), (2, .int x2), (3, .int x3)] → W p l e (k2_rm 1 22) s m args below meth c H locs 0 0 (MQ below (va_Qi (fun (r : Int32) (u : ig_M × Int64) => post r u.1 u.2) (fun u t => ig_Wd D kk ad bs a la u.1 u.2 lo t) (ig_A bs)) args s 0 0 (ig_A bs)) (F0 m 68 ls [.int t0, .ref (ad 97)])) :
    ∀ (b : ig_M) (lb : Int64) (x1 : Int32) (x2 : Int32) (x3 : Int32) (H : Heap) (locs : List Loc) (ls : Array Slot), wp_X6_phase_63 k_68 post b lb x1 x2 x3 → ig_Z D kk ad bs s H locs a la b lb lo → lv_has ls 5 [(0, .ref (ad 97)), (1, .int x1), (2, .int x2), (3, .int x3)] → W p l e (k2_rm 1 22) s m args below meth c H locs 0 0 (MQ below (va_Qi (fun (r : Int32) (u : ig_M × Int64) => post r u.1 u.2) (fun u t => ig_Wd D kk ad bs a la u.1 u.2 lo t) (ig_A bs)) args s 0 0 (ig_A bs)) (F0 m 63 ls [.ref (ad 97)]) := by
  intro b lb x1 x2 x3 H locs ls hf Z hl
  refine lv_iconst (v := 2) F.1 F.2.1 dX6_phase_63 (by decide) ?_
  refine lv_goto (tgt := 68) F.1 F.2.1 dX6_phase_64 (by decide) ?_
  exact h_68 b lb x1 x2 x3 2 _ _ _ hf Z (lv_sub hl [0, 1, 2, 3] rfl)
set_option maxHeartbeats 4000000 in
set_option maxRecDepth 100000 in
theorem wm_X6_phase_35 (F : CallFix p m c cX6_phase 5 s args ig_all RX6) (E : ig_E D kk ad bs s) (hr : meth.sig.returnType = (some .int)) (hk : meth.locks = false) (post : Int32 → ig_M → Int64 → Prop) :
    ∀ (b : ig_M) (lb : Int64) (x1 : Int32) (x2 : Int32) (x3 : Int32) (t0 : Int32) (H : Heap) (locs : List Loc) (ls : Array Slot), wp_X6_phase_35 post b lb x1 x2 x3 t0 → ig_Z D kk ad bs s H locs a la b lb lo → lv_has ls 5 [(0, .ref (ad 97)), (1, .int x1), (2, .int x2), (3, .int x3)] → W p l e (k2_rm 1 22) s m args below meth c H locs 0 0 (MQ below (va_Qi (fun (r : Int32) (u : ig_M × Int64) => post r u.1 u.2) (fun u t => ig_Wd D kk ad bs a la u.1 u.2 lo t) (ig_A bs)) args s 0 0 (ig_A bs)) (F0 m 35 ls [.int t0]) := by
  intro b lb x1 x2 x3 t0 H locs ls hf Z hl
  refine lv_istore (lv' := [(4, .int t0), (0, .ref (ad 97)), (1, .int x1), (2, .int x2), (3, .int x3)]) F.1 F.2.1 dX6_phase_35 hl (by decide) rfl (fun ls hl => ?_)
  refine lv_aload_n F.1 F.2.1 dX6_phase_37 rfl (lv_at hl 1 rfl) ?_
  refine lv_iload F.1 F.2.1 dX6_phase_38 (lv_at hl 0 rfl) ?_
  refine lv_if_ne (tgt := 47) F.1 F.2.1 dX6_phase_40 (by decide) (fun c_7 => ?_) (fun c_7 => ?_)
  · have hf := hf.1 c_7
    refine lv_aload_n F.1 F.2.1 dX6_phase_47 rfl (lv_at hl 1 rfl) ?_
    refine gf_X6_79 F E Z dX6_phase_48 ?_
    refine lv_if_ne (tgt := 63) F.1 F.2.1 dX6_phase_51 (by decide) (fun c_8 => ?_) (fun c_8 => ?_)
    · have hf := hf.1 c_8
      exact wm_X6_phase_63 F E hr hk (wp_X6_phase_68 post) post (fun v0 v1 v2 v3 v4 v5 H locs ls  hf Z hl => wm_X6_phase_68 F E hr hk post v0 v1 v2 v3 v4 v5 H locs ls  hf Z hl) b lb x1 x2 x3 _ _ _ hf Z (lv_sub hl [1, 2, 3, 4] rfl)
    · have hf := hf.2 c_8
      refine lv_aload_n F.1 F.2.1 dX6_phase_54 rfl (lv_at hl 1 rfl) ?_
      refine gf_X6_69 F E Z dX6_phase_55 ?_
      refine lv_bipush (v := 8) F.1 F.2.1 dX6_phase_58 (by decide) ?_
      refine lv_icmp_ne (tgt := 67) F.1 F.2.1 dX6_phase_60 (by decide) (fun c_9 => ?_) (fun c_9 => ?_)
      · have hf := hf.1 c_9
        refine lv_iconst (v := 0) F.1 F.2.1 dX6_phase_67 (by decide) ?_
        exact wm_X6_phase_68 F E hr hk post b lb x1 x2 x3 0 _ _ _ hf Z (lv_sub hl [1, 2, 3, 4] rfl)
      · have hf := hf.2 c_9
        exact wm_X6_phase_63 F E hr hk (wp_X6_phase_68 post) post (fun v0 v1 v2 v3 v4 v5 H locs ls  hf Z hl => wm_X6_phase_68 F E hr hk post v0 v1 v2 v3 v4 v5 H locs ls  hf Z hl) b lb x1 x2 x3 _ _ _ hf Z (lv_sub hl [1, 2, 3, 4] rfl)
  · have hf := hf.2 c_7
    refine lv_iconst (v := 1) F.1 F.2.1 dX6_phase_43 (by decide) ?_
    refine lv_goto (tgt := 68) F.1 F.2.1 dX6_phase_44 (by decide) ?_
    exact wm_X6_phase_68 F E hr hk post b lb x1 x2 x3 1 _ _ _ hf Z (lv_sub hl [1, 2, 3, 4] rfl)
set_option maxHeartbeats 4000000 in
set_option maxRecDepth 100000 in
theorem k_X6_phase (l : Launch) {D : va_G} {kk : Nat → ClassId} {ad : Nat → Nat} {bs : Nat} {a : ig_M} {la : Int64} {b : ig_M} {lb lo : Int64} (x1 : Int32) (x2 : Int32) (x3 : Int32) {post : Int32 → ig_M → Int64 → Prop} (hf : wp_X6_phase b lb x1 x2 x3 post) : Met l yX6_phase (ig_ws yX6_phase cX6_phase 5 (some .int)) (k2_rm 1 22) (va_Pc [.ref (ad 97), .int x1, .int x2, .int x3] (ig_Wd D kk ad bs a la b lb lo)) (va_Qi (fun (r : Int32) (u : ig_M × Int64) => post r u.1 u.2) (fun u t => ig_Wd D kk ad bs a la u.1 u.2 lo t) (ig_A bs)) 0 0 (ig_A bs) := by
  refine Met.ofW (cc := cX6_phase) (maxL := 5) (ret := (some .int)) (by decide) rfl ?_
  intro p e s m args below meth c s₁ B hml hv
  obtain ⟨rfl, E, hP⟩ := hv
  have hk := B.notSynchronized
  have hr := B.returns
  have F : CallFix p m c cX6_phase 5 s _ ig_all RX6 := ⟨B.exec, B.bytes, hml, findClass_of_methodNamed B.named, fun w hw => atoms_spec B.pre w (List.mem_cons_of_mem _ hw)⟩
  have Z : ig_Z D kk ad bs s s.heap [] a la b lb lo := ig_Z.rf hP
  have hl := lv_entry ([.ref (ad 97), .int x1, .int x2, .int x3]) (n := 5) (Nat.le_of_ble_eq_true rfl)
  rw [lg_entry_eq]
  generalize (lg_sl ([.ref (ad 97), .int x1, .int x2, .int x3]) ++ List.replicate (5 - (lg_sl ([.ref (ad 97), .int x1, .int x2, .int x3])).length) Slot.unset).toArray = ls at hl ⊢
  have hl : lv_has ls 5 [(0, .ref (ad 97)), (1, .int x1), (2, .int x2), (3, .int x3)] := hl
  refine lv_iload_n F.1 F.2.1 dX6_phase_0 rfl (lv_at hl 1 rfl) ?_
  refine lv_iconst (v := 1) F.1 F.2.1 dX6_phase_1 (by decide) ?_
  refine lv_bipush (v := 30) F.1 F.2.1 dX6_phase_2 (by decide) ?_
  have hM := k_X6_in l (D := D) (kk := kk) (ad := ad) (bs := bs) (a := a) (la := la) (b := b) (lb := lb) (lo := lo) x1 1 30 hf
  refine ig_calli E Z (ig_runS (As := [.int x1, .int 1, .int 30]) (rest := []) F E Z hl G_X6_72 hM rfl md_X6_in rfl ⟨rfl, rfl⟩ ⟨Nat.le_of_ble_eq_true rfl, Nat.le_of_ble_eq_true rfl⟩ (Nat.le_of_ble_eq_true rfl) dX6_phase_4 ⟨Nat.le_of_ble_eq_true rfl, Nat.le_of_ble_eq_true rfl⟩) (fun r1 u H locs hf Z => ?_)
  refine lv_if_eq (tgt := 34) F.1 F.2.1 dX6_phase_7 (by decide) (fun c_2 => ?_) (fun c_2 => ?_)
  · have hf := hf.1 c_2
    exact wm_X6_phase_34 F E hr hk (wp_X6_phase_35 post) post (fun v0 v1 v2 v3 v4 v5 H locs ls  hf Z hl => wm_X6_phase_35 F E hr hk post v0 v1 v2 v3 v4 v5 H locs ls  hf Z hl) b lb x1 x2 x3 _ _ _ hf Z (lv_sub hl [0, 1, 2, 3] rfl)
  · have hf := hf.2 c_2
    refine lv_iload_n F.1 F.2.1 dX6_phase_10 rfl (lv_at hl 2 rfl) ?_
    refine lv_iload_n F.1 F.2.1 dX6_phase_11 rfl (lv_at hl 1 rfl) ?_
    refine lv_bipush (v := 120) F.1 F.2.1 dX6_phase_12 (by decide) ?_
    have hM := k_X6_in l (D := D) (kk := kk) (ad := ad) (bs := bs) (a := a) (la := la) (b := b) (lb := lb) (lo := lo) x2 x1 120 hf
    refine ig_calli E Z (ig_runS (As := [.int x2, .int x1, .int 120]) (rest := []) F E Z hl G_X6_72 hM rfl md_X6_in rfl ⟨rfl, rfl⟩ ⟨Nat.le_of_ble_eq_true rfl, Nat.le_of_ble_eq_true rfl⟩ (Nat.le_of_ble_eq_true rfl) dX6_phase_14 ⟨Nat.le_of_ble_eq_true rfl, Nat.le_of_ble_eq_true rfl⟩) (fun r3 u H locs hf Z => ?_)
    refine lv_if_eq (tgt := 34) F.1 F.2.1 dX6_phase_17 (by decide) (fun c_4 => ?_) (fun c_4 => ?_)
    · have hf := hf.1 c_4
      exact wm_X6_phase_34 F E hr hk (wp_X6_phase_35 post) post (fun v0 v1 v2 v3 v4 v5 H locs ls  hf Z hl => wm_X6_phase_35 F E hr hk post v0 v1 v2 v3 v4 v5 H locs ls  hf Z hl) b lb x1 x2 x3 _ _ _ hf Z (lv_sub hl [0, 1, 2, 3] rfl)
    · have hf := hf.2 c_4
      refine lv_iload_n F.1 F.2.1 dX6_phase_20 rfl (lv_at hl 3 rfl) ?_
      refine lv_iconst (v := 0) F.1 F.2.1 dX6_phase_21 (by decide) ?_
      refine lv_bipush (v := 10) F.1 F.2.1 dX6_phase_22 (by decide) ?_
      have hM := k_X6_in l (D := D) (kk := kk) (ad := ad) (bs := bs) (a := a) (la := la) (b := b) (lb := lb) (lo := lo) x3 0 10 hf
      refine ig_calli E Z (ig_runS (As := [.int x3, .int 0, .int 10]) (rest := []) F E Z hl G_X6_72 hM rfl md_X6_in rfl ⟨rfl, rfl⟩ ⟨Nat.le_of_ble_eq_true rfl, Nat.le_of_ble_eq_true rfl⟩ (Nat.le_of_ble_eq_true rfl) dX6_phase_24 ⟨Nat.le_of_ble_eq_true rfl, Nat.le_of_ble_eq_true rfl⟩) (fun r5 u H locs hf Z => ?_)
      refine lv_if_eq (tgt := 34) F.1 F.2.1 dX6_phase_27 (by decide) (fun c_6 => ?_) (fun c_6 => ?_)
      · have hf := hf.1 c_6
        exact wm_X6_phase_34 F E hr hk (wp_X6_phase_35 post) post (fun v0 v1 v2 v3 v4 v5 H locs ls  hf Z hl => wm_X6_phase_35 F E hr hk post v0 v1 v2 v3 v4 v5 H locs ls  hf Z hl) b lb x1 x2 x3 _ _ _ hf Z (lv_sub hl [0, 1, 2, 3] rfl)
      · have hf := hf.2 c_6
        refine lv_iconst (v := 1) F.1 F.2.1 dX6_phase_30 (by decide) ?_
        refine lv_goto (tgt := 35) F.1 F.2.1 dX6_phase_31 (by decide) ?_
        exact wm_X6_phase_35 F E hr hk post b lb x1 x2 x3 1 _ _ _ hf Z (lv_sub hl [0, 1, 2, 3] rfl)
set_option maxHeartbeats 4000000 in
set_option maxRecDepth 100000 in
theorem wm_X6_areInOne_5 (F : CallFix p m c cX6_areInOne 5 s args ig_all RX6) (E : ig_E D kk ad bs s) (hr : meth.sig.returnType = (some .boolean)) (hk : meth.locks = false) (post : Int32 → Prop) :
    ∀ (n : Nat) (x1 : Int32) (x2 : Int32) (x3 : Int32) (x4 : Int32) (H : Heap) (locs : List Loc) (ls : Array Slot), wp_X6_areInOne_5 b lb post n x1 x2 x3 x4 → ig_Z D kk ad bs s H locs a la b lb lo → lv_has ls 5 [(0, .ref (ad 97)), (1, .int x1), (2, .int x2), (3, .int x3), (4, .int x4)] → W p l e (k2_rm 1 21) s m args below meth c H locs 0 0 (MQ below (va_Qi (fun (r : Int32) (_ : Unit) => post r) (fun _ t => ig_Wd D kk ad bs a la b lb lo t) (ig_A bs)) args s 0 0 (ig_A bs)) (F0 m 5 ls []) := by
  intro n
  induction n with
  | zero => intro x1 x2 x3 x4 H locs ls hf Z hl; exact False.elim hf
  | succ n ih =>
    intro x1 x2 x3 x4 H locs ls hf Z hl
    refine lv_iload F.1 F.2.1 dX6_areInOne_5 (lv_at hl 4 rfl) ?_
    refine lv_aload_n F.1 F.2.1 dX6_areInOne_7 rfl (lv_at hl 0 rfl) ?_
    refine gf_X6_76 F E Z dX6_areInOne_8 ?_
    refine lv_icmp_ge (tgt := 58) F.1 F.2.1 dX6_areInOne_11 (by decide) (fun c_1 => ?_) (fun c_1 => ?_)
    · have hf := hf.1 c_1
      refine lv_iload_n F.1 F.2.1 dX6_areInOne_58 rfl (lv_at hl 3 rfl) ?_
      exact W.zret (v := x3) F.1 F.2.1 hr (ig_narrow hf.1) (fun t ht hW => ⟨⟨_, (), rfl, hf.2, Z.wd E ht hW⟩, Z.fr ht⟩) Z.2.2.2 dX6_areInOne_59
    · have hf := hf.2 c_1
      refine lv_iload_n F.1 F.2.1 dX6_areInOne_14 rfl (lv_at hl 3 rfl) ?_
      refine lv_if_ne (tgt := 46) F.1 F.2.1 dX6_areInOne_15 (by decide) (fun c_2 => ?_) (fun c_2 => ?_)
      · have hf := hf.1 c_2
        refine lv_iconst (v := 1) F.1 F.2.1 dX6_areInOne_46 (by decide) ?_
        refine lv_goto (tgt := 51) F.1 F.2.1 dX6_areInOne_47 (by decide) ?_
        refine lv_istore_n (lv' := [(3, .int 1), (0, .ref (ad 97)), (1, .int x1), (2, .int x2), (4, .int x4)]) F.1 F.2.1 dX6_areInOne_51 rfl hl (by decide) rfl (fun ls hl => ?_)
        refine lv_iinc (v := x4 + 1) (lv' := [(4, .int (x4 + 1)), (3, .int 1), (0, .ref (ad 97)), (1, .int x1), (2, .int x2)]) F.1 F.2.1 dX6_areInOne_52 hl (k := 4) rfl (by rfl) (by decide) rfl (fun ls hl => ?_)
        refine lv_goto (tgt := 5) F.1 F.2.1 dX6_areInOne_55 (by decide) ?_
        exact ih x1 x2 1 (x4 + 1) _ _ _ hf Z (lv_sub hl [2, 3, 4, 1, 0] rfl)
      · have hf := hf.2 c_2
        refine lv_aload_n F.1 F.2.1 dX6_areInOne_18 rfl (lv_at hl 0 rfl) ?_
        refine gf_X6_22 F E Z dX6_areInOne_19 ?_
        refine lv_iload F.1 F.2.1 dX6_areInOne_22 (lv_at hl 4 rfl) ?_
        have hv3 := hf.1
        have hf := hf.2
        refine ig_iald (f := b 102) F E Z (by decide) (by rw [ig_mm_b _ _ (by decide)]; exact (ig_k_102 _ _ _ _ _ _)) hv3 dX6_areInOne_24 ?_
        refine lv_iload_n F.1 F.2.1 dX6_areInOne_25 rfl (lv_at hl 1 rfl) ?_
        have hM := k_X6_has l (D := D) (kk := kk) (ad := ad) (bs := bs) (a := a) (la := la) (b := b) (lb := lb) (lo := lo) (b 102 x4.toNatClampNeg) x1 hf
        refine ig_calli E Z (ig_runS (As := [.int (b 102 x4.toNatClampNeg), .int x1]) (rest := []) F E Z hl G_X6_87 hM rfl md_X6_has rfl ⟨rfl, rfl⟩ ⟨Nat.le_of_ble_eq_true rfl, Nat.le_of_ble_eq_true rfl⟩ (Nat.le_of_ble_eq_true rfl) dX6_areInOne_26 ⟨Nat.le_of_ble_eq_true rfl, Nat.le_of_ble_eq_true rfl⟩) (fun r4 u H locs hf Z => ?_)
        refine lv_if_eq (tgt := 50) F.1 F.2.1 dX6_areInOne_29 (by decide) (fun c_5 => ?_) (fun c_5 => ?_)
        · have hf := hf.1 c_5
          refine lv_iconst (v := 0) F.1 F.2.1 dX6_areInOne_50 (by decide) ?_
          refine lv_istore_n (lv' := [(3, .int 0), (0, .ref (ad 97)), (1, .int x1), (2, .int x2), (4, .int x4)]) F.1 F.2.1 dX6_areInOne_51 rfl hl (by decide) rfl (fun ls hl => ?_)
          refine lv_iinc (v := x4 + 1) (lv' := [(4, .int (x4 + 1)), (3, .int 0), (0, .ref (ad 97)), (1, .int x1), (2, .int x2)]) F.1 F.2.1 dX6_areInOne_52 hl (k := 4) rfl (by rfl) (by decide) rfl (fun ls hl => ?_)
          refine lv_goto (tgt := 5) F.1 F.2.1 dX6_areInOne_55 (by decide) ?_
          exact ih x1 x2 0 (x4 + 1) _ _ _ hf Z (lv_sub hl [2, 3, 4, 1, 0] rfl)
        · have hf := hf.2 c_5
          refine lv_aload_n F.1 F.2.1 dX6_areInOne_32 rfl (lv_at hl 0 rfl) ?_
          refine gf_X6_22 F E Z dX6_areInOne_33 ?_
          refine lv_iload F.1 F.2.1 dX6_areInOne_36 (lv_at hl 4 rfl) ?_
          have hv6 := hf.1
          have hf := hf.2
          refine ig_iald (f := b 102) F E Z (by decide) (by rw [ig_mm_b _ _ (by decide)]; exact (ig_k_102 _ _ _ _ _ _)) hv6 dX6_areInOne_38 ?_
          refine lv_iload_n F.1 F.2.1 dX6_areInOne_39 rfl (lv_at hl 2 rfl) ?_
          have hM := k_X6_has l (D := D) (kk := kk) (ad := ad) (bs := bs) (a := a) (la := la) (b := b) (lb := lb) (lo := lo) (b 102 x4.toNatClampNeg) x2 hf
          refine ig_calli E Z (ig_runS (As := [.int (b 102 x4.toNatClampNeg), .int x2]) (rest := []) F E Z hl G_X6_87 hM rfl md_X6_has rfl ⟨rfl, rfl⟩ ⟨Nat.le_of_ble_eq_true rfl, Nat.le_of_ble_eq_true rfl⟩ (Nat.le_of_ble_eq_true rfl) dX6_areInOne_40 ⟨Nat.le_of_ble_eq_true rfl, Nat.le_of_ble_eq_true rfl⟩) (fun r7 u H locs hf Z => ?_)
          refine lv_if_eq (tgt := 50) F.1 F.2.1 dX6_areInOne_43 (by decide) (fun c_8 => ?_) (fun c_8 => ?_)
          · have hf := hf.1 c_8
            refine lv_iconst (v := 0) F.1 F.2.1 dX6_areInOne_50 (by decide) ?_
            refine lv_istore_n (lv' := [(3, .int 0), (0, .ref (ad 97)), (1, .int x1), (2, .int x2), (4, .int x4)]) F.1 F.2.1 dX6_areInOne_51 rfl hl (by decide) rfl (fun ls hl => ?_)
            refine lv_iinc (v := x4 + 1) (lv' := [(4, .int (x4 + 1)), (3, .int 0), (0, .ref (ad 97)), (1, .int x1), (2, .int x2)]) F.1 F.2.1 dX6_areInOne_52 hl (k := 4) rfl (by rfl) (by decide) rfl (fun ls hl => ?_)
            refine lv_goto (tgt := 5) F.1 F.2.1 dX6_areInOne_55 (by decide) ?_
            exact ih x1 x2 0 (x4 + 1) _ _ _ hf Z (lv_sub hl [2, 3, 4, 1, 0] rfl)
          · have hf := hf.2 c_8
            refine lv_iconst (v := 1) F.1 F.2.1 dX6_areInOne_46 (by decide) ?_
            refine lv_goto (tgt := 51) F.1 F.2.1 dX6_areInOne_47 (by decide) ?_
            refine lv_istore_n (lv' := [(3, .int 1), (0, .ref (ad 97)), (1, .int x1), (2, .int x2), (4, .int x4)]) F.1 F.2.1 dX6_areInOne_51 rfl hl (by decide) rfl (fun ls hl => ?_)
            refine lv_iinc (v := x4 + 1) (lv' := [(4, .int (x4 + 1)), (3, .int 1), (0, .ref (ad 97)), (1, .int x1), (2, .int x2)]) F.1 F.2.1 dX6_areInOne_52 hl (k := 4) rfl (by rfl) (by decide) rfl (fun ls hl => ?_)
            refine lv_goto (tgt := 5) F.1 F.2.1 dX6_areInOne_55 (by decide) ?_
            exact ih x1 x2 1 (x4 + 1) _ _ _ hf Z (lv_sub hl [2, 3, 4, 1, 0] rfl)
set_option maxHeartbeats 4000000 in
set_option maxRecDepth 100000 in
theorem k_X6_areInOne (l : Launch) {D : va_G} {kk : Nat → ClassId} {ad : Nat → Nat} {bs : Nat} {a : ig_M} {la : Int64} {b : ig_M} {lb lo : Int64} (x1 : Int32) (x2 : Int32) {post : Int32 → Prop} (hf : wp_X6_areInOne b lb x1 x2 post) : Met l yX6_areInOne (ig_ws yX6_areInOne cX6_areInOne 5 (some .boolean)) (k2_rm 1 21) (va_Pc [.ref (ad 97), .int x1, .int x2] (ig_Wd D kk ad bs a la b lb lo)) (va_Qi (fun (r : Int32) (_ : Unit) => post r) (fun _ t => ig_Wd D kk ad bs a la b lb lo t) (ig_A bs)) 0 0 (ig_A bs) := by
  refine Met.ofW (cc := cX6_areInOne) (maxL := 5) (ret := (some .boolean)) (by decide) rfl ?_
  intro p e s m args below meth c s₁ B hml hv
  obtain ⟨rfl, E, hP⟩ := hv
  have hk := B.notSynchronized
  have hr := B.returns
  have F : CallFix p m c cX6_areInOne 5 s _ ig_all RX6 := ⟨B.exec, B.bytes, hml, findClass_of_methodNamed B.named, fun w hw => atoms_spec B.pre w (List.mem_cons_of_mem _ hw)⟩
  have Z : ig_Z D kk ad bs s s.heap [] a la b lb lo := ig_Z.rf hP
  have hl := lv_entry ([.ref (ad 97), .int x1, .int x2]) (n := 5) (Nat.le_of_ble_eq_true rfl)
  rw [lg_entry_eq]
  generalize (lg_sl ([.ref (ad 97), .int x1, .int x2]) ++ List.replicate (5 - (lg_sl ([.ref (ad 97), .int x1, .int x2])).length) Slot.unset).toArray = ls at hl ⊢
  have hl : lv_has ls 5 [(0, .ref (ad 97)), (1, .int x1), (2, .int x2)] := hl
  refine lv_iconst (v := 0) F.1 F.2.1 dX6_areInOne_0 (by decide) ?_
  refine lv_istore_n (lv' := [(3, .int 0), (0, .ref (ad 97)), (1, .int x1), (2, .int x2)]) F.1 F.2.1 dX6_areInOne_1 rfl hl (by decide) rfl (fun ls hl => ?_)
  refine lv_iconst (v := 0) F.1 F.2.1 dX6_areInOne_2 (by decide) ?_
  refine lv_istore (lv' := [(4, .int 0), (3, .int 0), (0, .ref (ad 97)), (1, .int x1), (2, .int x2)]) F.1 F.2.1 dX6_areInOne_3 hl (by decide) rfl (fun ls hl => ?_)
  obtain ⟨n1, hf⟩ := hf
  exact wm_X6_areInOne_5 F E hr hk post n1 x1 x2 0 0 _ _ _ hf Z (lv_sub hl [2, 3, 4, 1, 0] rfl)
set_option maxHeartbeats 4000000 in
set_option maxRecDepth 100000 in
theorem wm_X6_meet_20 (F : CallFix p m c cX6_meet 7 s args ig_all RX6) (E : ig_E D kk ad bs s) (hr : meth.sig.returnType = none) (hk : meth.locks = false) (k_21 : ig_M → Int64 → Int32 → Int32 → Int32 → Int32 → Int32 → Prop) (post : ig_M → Int64 → Prop) (h_21 : ∀ (b : ig_M) (lb : Int64) (x1 : Int32) (x2 : Int32) (x3 : Int32) (x4 : Int32) (t0 : Int32) (H : Heap) (locs : List Loc) (ls : Array Slot), k_21 b lb x1 x2 x3 x4 t0 → ig_Z D kk ad bs s H locs a la b lb lo → lv_has ls 7 [(0, .ref (ad 97)), (1, .int x1), (2, .int x2), (3, .int x3), (4, .int x4)] → W p l e (k2_rm 2 45) s m args below meth c H locs 0 0 (MQ below (va_Qv (fun u : ig_M × Int64 => post u.1 u.2) (fun u t => ig_Wd D kk ad bs a la u.1 u.2 lo t) (ig_A bs)) args s 0 0 (ig_A bs)) (F0 m 21 ls [.int t0])) :
    ∀ (b : ig_M) (lb : Int64) (x1 : Int32) (x2 : Int32) (x3 : Int32) (x4 : Int32) (H : Heap) (locs : List Loc) (ls : Array Slot), wp_X6_meet_20 k_21 post b lb x1 x2 x3 x4 → ig_Z D kk ad bs s H locs a la b lb lo → lv_has ls 7 [(0, .ref (ad 97)), (1, .int x1), (2, .int x2), (3, .int x3), (4, .int x4)] → W p l e (k2_rm 2 45) s m args below meth c H locs 0 0 (MQ below (va_Qv (fun u : ig_M × Int64 => post u.1 u.2) (fun u t => ig_Wd D kk ad bs a la u.1 u.2 lo t) (ig_A bs)) args s 0 0 (ig_A bs)) (F0 m 20 ls []) := by
  intro b lb x1 x2 x3 x4 H locs ls hf Z hl
  refine lv_iconst (v := 0) F.1 F.2.1 dX6_meet_20 (by decide) ?_
  exact h_21 b lb x1 x2 x3 x4 0 _ _ _ hf Z (lv_sub hl [0, 1, 2, 3, 4] rfl)
set_option maxHeartbeats 4000000 in
set_option maxRecDepth 100000 in
theorem wm_X6_meet_53 (F : CallFix p m c cX6_meet 7 s args ig_all RX6) (E : ig_E D kk ad bs s) (hr : meth.sig.returnType = none) (hk : meth.locks = false) (k_54 : ig_M → Int64 → Int32 → Int32 → Int32 → Int32 → Int32 → Int32 → Prop) (post : ig_M → Int64 → Prop) (h_54 : ∀ (b : ig_M) (lb : Int64) (x1 : Int32) (x2 : Int32) (x3 : Int32) (x4 : Int32) (x5 : Int32) (t0 : Int32) (H : Heap) (locs : List Loc) (ls : Array Slot), k_54 b lb x1 x2 x3 x4 x5 t0 → ig_Z D kk ad bs s H locs a la b lb lo → lv_has ls 7 [(0, .ref (ad 97)), (1, .int x1), (2, .int x2), (3, .int x3), (4, .int x4), (5, .int x5)] → W p l e (k2_rm 2 45) s m args below meth c H locs 0 0 (MQ below (va_Qv (fun u : ig_M × Int64 => post u.1 u.2) (fun u t => ig_Wd D kk ad bs a la u.1 u.2 lo t) (ig_A bs)) args s 0 0 (ig_A bs)) (F0 m 54 ls [.int t0])) :
    ∀ (b : ig_M) (lb : Int64) (x1 : Int32) (x2 : Int32) (x3 : Int32) (x4 : Int32) (x5 : Int32) (H : Heap) (locs : List Loc) (ls : Array Slot), wp_X6_meet_53 k_54 post b lb x1 x2 x3 x4 x5 → ig_Z D kk ad bs s H locs a la b lb lo → lv_has ls 7 [(0, .ref (ad 97)), (1, .int x1), (2, .int x2), (3, .int x3), (4, .int x4), (5, .int x5)] → W p l e (k2_rm 2 45) s m args below meth c H locs 0 0 (MQ below (va_Qv (fun u : ig_M × Int64 => post u.1 u.2) (fun u t => ig_Wd D kk ad bs a la u.1 u.2 lo t) (ig_A bs)) args s 0 0 (ig_A bs)) (F0 m 53 ls []) := by
  intro b lb x1 x2 x3 x4 x5 H locs ls hf Z hl
  refine lv_iconst (v := 0) F.1 F.2.1 dX6_meet_53 (by decide) ?_
  exact h_54 b lb x1 x2 x3 x4 x5 0 _ _ _ hf Z (lv_sub hl [0, 1, 2, 3, 4, 5] rfl)
set_option maxHeartbeats 4000000 in
set_option maxRecDepth 100000 in
theorem wm_X6_meet_96 (F : CallFix p m c cX6_meet 7 s args ig_all RX6) (E : ig_E D kk ad bs s) (hr : meth.sig.returnType = none) (hk : meth.locks = false) (post : ig_M → Int64 → Prop) :
    ∀ (b : ig_M) (lb : Int64) (x1 : Int32) (x2 : Int32) (x3 : Int32) (x4 : Int32) (t0 : Int32) (H : Heap) (locs : List Loc) (ls : Array Slot), wp_X6_meet_96 post b lb x1 x2 x3 x4 t0 → ig_Z D kk ad bs s H locs a la b lb lo → lv_has ls 7 [(0, .ref (ad 97)), (1, .int x1), (2, .int x2), (3, .int x3), (4, .int x4)] → W p l e (k2_rm 2 45) s m args below meth c H locs 0 0 (MQ below (va_Qv (fun u : ig_M × Int64 => post u.1 u.2) (fun u t => ig_Wd D kk ad bs a la u.1 u.2 lo t) (ig_A bs)) args s 0 0 (ig_A bs)) (F0 m 96 ls [.int t0, .ref (ad 97)]) := by
  intro b lb x1 x2 x3 x4 t0 H locs ls hf Z hl
  have hM := k_X6_goesWell l (D := D) (kk := kk) (ad := ad) (bs := bs) (a := a) (la := la) (b := b) (lb := lb) (lo := lo) t0 hf
  refine ig_calli E Z (ig_runV (As := [.int t0]) (rest := []) F E Z hl G_X6_83 hM (i := 97) (by decide) (ig_k_97 _ _ _ _ _ _) rfl rfl md_X6_goesWell rfl ⟨rfl, rfl⟩ ⟨Nat.le_of_ble_eq_true rfl, Nat.le_of_ble_eq_true rfl⟩ (Nat.le_of_ble_eq_true rfl) dX6_meet_96 ⟨Nat.le_of_ble_eq_true rfl, Nat.le_of_ble_eq_true rfl⟩) (fun r15 u H locs hf Z => ?_)
  obtain ⟨b16, lb17⟩ := u
  have Z : ig_Z D kk ad bs s H locs a la b16 lb17 lo := Z
  refine lv_if_eq (tgt := 127) F.1 F.2.1 dX6_meet_99 (by decide) (fun c_18 => ?_) (fun c_18 => ?_)
  · have hf := hf.1 c_18
    exact W.vret F.1 F.2.1 hr (fun t ht hW => ⟨⟨(b16, lb17), rfl, hf, Z.wd E ht hW⟩, Z.fr ht⟩) Z.2.2.2 dX6_meet_127
  · have hf := hf.2 c_18
    refine lv_aload_n F.1 F.2.1 dX6_meet_102 rfl (lv_at hl 0 rfl) ?_
    refine gf_X6_19 F E Z dX6_meet_103 ?_
    refine lv_bipush (v := 8) F.1 F.2.1 dX6_meet_106 (by decide) ?_
    refine lv_iload_n F.1 F.2.1 dX6_meet_108 rfl (lv_at hl 1 rfl) ?_
    refine lv_imul F.1 F.2.1 dX6_meet_109 ?_
    refine lv_iload_n F.1 F.2.1 dX6_meet_110 rfl (lv_at hl 2 rfl) ?_
    refine lv_iadd F.1 F.2.1 dX6_meet_111 ?_
    refine lv_iload_n F.1 F.2.1 dX6_meet_112 rfl (lv_at hl 3 rfl) ?_
    have hv19 := hf.1
    have hf := hf.2
    refine ig_iastB (n := 64) F E Z (by decide) (by decide) (fun r => ig_k_101 _ _ _ _ _ r) hv19 dX6_meet_113 (fun H locs b20 hb20 Z => ?_)
    have hf := hf b20 hb20
    refine lv_aload_n F.1 F.2.1 dX6_meet_114 rfl (lv_at hl 0 rfl) ?_
    refine gf_X6_19 F E Z dX6_meet_115 ?_
    refine lv_bipush (v := 8) F.1 F.2.1 dX6_meet_118 (by decide) ?_
    refine lv_iload_n F.1 F.2.1 dX6_meet_120 rfl (lv_at hl 2 rfl) ?_
    refine lv_imul F.1 F.2.1 dX6_meet_121 ?_
    refine lv_iload_n F.1 F.2.1 dX6_meet_122 rfl (lv_at hl 1 rfl) ?_
    refine lv_iadd F.1 F.2.1 dX6_meet_123 ?_
    refine lv_iload F.1 F.2.1 dX6_meet_124 (lv_at hl 4 rfl) ?_
    have hv21 := hf.1
    have hf := hf.2
    refine ig_iastB (n := 64) F E Z (by decide) (by decide) (fun r => ig_k_101 _ _ _ _ _ r) hv21 dX6_meet_126 (fun H locs b22 hb22 Z => ?_)
    have hf := hf b22 hb22
    exact W.vret F.1 F.2.1 hr (fun t ht hW => ⟨⟨(b22, lb17), rfl, hf, Z.wd E ht hW⟩, Z.fr ht⟩) Z.2.2.2 dX6_meet_127
set_option maxHeartbeats 4000000 in
set_option maxRecDepth 100000 in
theorem wm_X6_meet_91 (F : CallFix p m c cX6_meet 7 s args ig_all RX6) (E : ig_E D kk ad bs s) (hr : meth.sig.returnType = none) (hk : meth.locks = false) (k_96 : ig_M → Int64 → Int32 → Int32 → Int32 → Int32 → Int32 → Prop) (post : ig_M → Int64 → Prop) (h_96 : ∀ (b : ig_M) (lb : Int64) (x1 : Int32) (x2 : Int32) (x3 : Int32) (x4 : Int32) (t0 : Int32) (H : Heap) (locs : List Loc) (ls : Array Slot), k_96 b lb x1 x2 x3 x4 t0 → ig_Z D kk ad bs s H locs a la b lb lo → lv_has ls 7 [(0, .ref (ad 97)), (1, .int x1), (2, .int x2), (3, .int x3), (4, .int x4)] → W p l e (k2_rm 2 45) s m args below meth c H locs 0 0 (MQ below (va_Qv (fun u : ig_M × Int64 => post u.1 u.2) (fun u t => ig_Wd D kk ad bs a la u.1 u.2 lo t) (ig_A bs)) args s 0 0 (ig_A bs)) (F0 m 96 ls [.int t0, .ref (ad 97)])) :
    ∀ (b : ig_M) (lb : Int64) (x1 : Int32) (x2 : Int32) (x3 : Int32) (x4 : Int32) (H : Heap) (locs : List Loc) (ls : Array Slot), wp_X6_meet_91 k_96 post b lb x1 x2 x3 x4 → ig_Z D kk ad bs s H locs a la b lb lo → lv_has ls 7 [(0, .ref (ad 97)), (1, .int x1), (2, .int x2), (3, .int x3), (4, .int x4)] → W p l e (k2_rm 2 45) s m args below meth c H locs 0 0 (MQ below (va_Qv (fun u : ig_M × Int64 => post u.1 u.2) (fun u t => ig_Wd D kk ad bs a la u.1 u.2 lo t) (ig_A bs)) args s 0 0 (ig_A bs)) (F0 m 91 ls [.ref (ad 97)]) := by
  intro b lb x1 x2 x3 x4 H locs ls hf Z hl
  refine lv_iconst (v := 3) F.1 F.2.1 dX6_meet_91 (by decide) ?_
  refine lv_goto (tgt := 96) F.1 F.2.1 dX6_meet_92 (by decide) ?_
  exact h_96 b lb x1 x2 x3 x4 3 _ _ _ hf Z (lv_sub hl [0, 1, 2, 3, 4] rfl)
set_option maxHeartbeats 4000000 in
set_option maxRecDepth 100000 in
theorem wm_X6_meet_54 (F : CallFix p m c cX6_meet 7 s args ig_all RX6) (E : ig_E D kk ad bs s) (hr : meth.sig.returnType = none) (hk : meth.locks = false) (post : ig_M → Int64 → Prop) :
    ∀ (b : ig_M) (lb : Int64) (x1 : Int32) (x2 : Int32) (x3 : Int32) (x4 : Int32) (x5 : Int32) (t0 : Int32) (H : Heap) (locs : List Loc) (ls : Array Slot), wp_X6_meet_54 post b lb x1 x2 x3 x4 x5 t0 → ig_Z D kk ad bs s H locs a la b lb lo → lv_has ls 7 [(0, .ref (ad 97)), (1, .int x1), (2, .int x2), (3, .int x3), (4, .int x4), (5, .int x5)] → W p l e (k2_rm 2 45) s m args below meth c H locs 0 0 (MQ below (va_Qv (fun u : ig_M × Int64 => post u.1 u.2) (fun u t => ig_Wd D kk ad bs a la u.1 u.2 lo t) (ig_A bs)) args s 0 0 (ig_A bs)) (F0 m 54 ls [.int t0]) := by
  intro b lb x1 x2 x3 x4 x5 t0 H locs ls hf Z hl
  refine lv_istore (lv' := [(6, .int t0), (0, .ref (ad 97)), (1, .int x1), (2, .int x2), (3, .int x3), (4, .int x4), (5, .int x5)]) F.1 F.2.1 dX6_meet_54 hl (by decide) rfl (fun ls hl => ?_)
  refine lv_aload_n F.1 F.2.1 dX6_meet_56 rfl (lv_at hl 1 rfl) ?_
  refine lv_iload F.1 F.2.1 dX6_meet_57 (lv_at hl 6 rfl) ?_
  refine lv_if_ne (tgt := 66) F.1 F.2.1 dX6_meet_59 (by decide) (fun c_10 => ?_) (fun c_10 => ?_)
  · have hf := hf.1 c_10
    refine lv_iload F.1 F.2.1 dX6_meet_66 (lv_at hl 0 rfl) ?_
    refine lv_if_ne (tgt := 75) F.1 F.2.1 dX6_meet_68 (by decide) (fun c_11 => ?_) (fun c_11 => ?_)
    · have hf := hf.1 c_11
      refine lv_aload_n F.1 F.2.1 dX6_meet_75 rfl (lv_at hl 1 rfl) ?_
      refine gf_X6_79 F E Z dX6_meet_76 ?_
      refine lv_if_ne (tgt := 91) F.1 F.2.1 dX6_meet_79 (by decide) (fun c_12 => ?_) (fun c_12 => ?_)
      · have hf := hf.1 c_12
        exact wm_X6_meet_91 F E hr hk (wp_X6_meet_96 post) post (fun v0 v1 v2 v3 v4 v5 v6 H locs ls  hf Z hl => wm_X6_meet_96 F E hr hk post v0 v1 v2 v3 v4 v5 v6 H locs ls  hf Z hl) b lb x1 x2 x3 x4 _ _ _ hf Z (lv_sub hl [1, 2, 3, 4, 5] rfl)
      · have hf := hf.2 c_12
        refine lv_aload_n F.1 F.2.1 dX6_meet_82 rfl (lv_at hl 1 rfl) ?_
        refine lv_iload_n F.1 F.2.1 dX6_meet_83 rfl (lv_at hl 2 rfl) ?_
        refine lv_iload_n F.1 F.2.1 dX6_meet_84 rfl (lv_at hl 3 rfl) ?_
        have hM := k_X6_areInOne l (D := D) (kk := kk) (ad := ad) (bs := bs) (a := a) (la := la) (b := b) (lb := lb) (lo := lo) x1 x2 hf
        refine ig_calli E Z (ig_runV (As := [.int x1, .int x2]) (rest := [.ref (ad 97)]) F E Z hl G_X6_94 hM (i := 97) (by decide) (ig_k_97 _ _ _ _ _ _) rfl rfl md_X6_areInOne rfl ⟨rfl, rfl⟩ ⟨Nat.le_of_ble_eq_true rfl, Nat.le_of_ble_eq_true rfl⟩ (Nat.le_of_ble_eq_true rfl) dX6_meet_85 ⟨Nat.le_of_ble_eq_true rfl, Nat.le_of_ble_eq_true rfl⟩) (fun r13 u H locs hf Z => ?_)
        refine lv_if_eq (tgt := 95) F.1 F.2.1 dX6_meet_88 (by decide) (fun c_14 => ?_) (fun c_14 => ?_)
        · have hf := hf.1 c_14
          refine lv_iconst (v := 0) F.1 F.2.1 dX6_meet_95 (by decide) ?_
          exact wm_X6_meet_96 F E hr hk post b lb x1 x2 x3 x4 0 _ _ _ hf Z (lv_sub hl [1, 2, 3, 4, 5] rfl)
        · have hf := hf.2 c_14
          exact wm_X6_meet_91 F E hr hk (wp_X6_meet_96 post) post (fun v0 v1 v2 v3 v4 v5 v6 H locs ls  hf Z hl => wm_X6_meet_96 F E hr hk post v0 v1 v2 v3 v4 v5 v6 H locs ls  hf Z hl) b lb x1 x2 x3 x4 _ _ _ hf Z (lv_sub hl [1, 2, 3, 4, 5] rfl)
    · have hf := hf.2 c_11
      refine lv_iconst (v := 2) F.1 F.2.1 dX6_meet_71 (by decide) ?_
      refine lv_goto (tgt := 96) F.1 F.2.1 dX6_meet_72 (by decide) ?_
      exact wm_X6_meet_96 F E hr hk post b lb x1 x2 x3 x4 2 _ _ _ hf Z (lv_sub hl [1, 2, 3, 4, 5] rfl)
  · have hf := hf.2 c_10
    refine lv_iconst (v := 1) F.1 F.2.1 dX6_meet_62 (by decide) ?_
    refine lv_goto (tgt := 96) F.1 F.2.1 dX6_meet_63 (by decide) ?_
    exact wm_X6_meet_96 F E hr hk post b lb x1 x2 x3 x4 1 _ _ _ hf Z (lv_sub hl [1, 2, 3, 4, 5] rfl)
set_option maxHeartbeats 4000000 in
set_option maxRecDepth 100000 in
theorem wm_X6_meet_21 (F : CallFix p m c cX6_meet 7 s args ig_all RX6) (E : ig_E D kk ad bs s) (hr : meth.sig.returnType = none) (hk : meth.locks = false) (post : ig_M → Int64 → Prop) :
    ∀ (b : ig_M) (lb : Int64) (x1 : Int32) (x2 : Int32) (x3 : Int32) (x4 : Int32) (t0 : Int32) (H : Heap) (locs : List Loc) (ls : Array Slot), wp_X6_meet_21 post b lb x1 x2 x3 x4 t0 → ig_Z D kk ad bs s H locs a la b lb lo → lv_has ls 7 [(0, .ref (ad 97)), (1, .int x1), (2, .int x2), (3, .int x3), (4, .int x4)] → W p l e (k2_rm 2 45) s m args below meth c H locs 0 0 (MQ below (va_Qv (fun u : ig_M × Int64 => post u.1 u.2) (fun u t => ig_Wd D kk ad bs a la u.1 u.2 lo t) (ig_A bs)) args s 0 0 (ig_A bs)) (F0 m 21 ls [.int t0]) := by
  intro b lb x1 x2 x3 x4 t0 H locs ls hf Z hl
  refine lv_istore (lv' := [(5, .int t0), (0, .ref (ad 97)), (1, .int x1), (2, .int x2), (3, .int x3), (4, .int x4)]) F.1 F.2.1 dX6_meet_21 hl (by decide) rfl (fun ls hl => ?_)
  refine lv_iload_n F.1 F.2.1 dX6_meet_23 rfl (lv_at hl 2 rfl) ?_
  refine lv_iload_n F.1 F.2.1 dX6_meet_24 rfl (lv_at hl 3 rfl) ?_
  refine lv_icmp_eq (tgt := 53) F.1 F.2.1 dX6_meet_25 (by decide) (fun c_5 => ?_) (fun c_5 => ?_)
  · have hf := hf.1 c_5
    exact wm_X6_meet_53 F E hr hk (wp_X6_meet_54 post) post (fun v0 v1 v2 v3 v4 v5 v6 v7 H locs ls  hf Z hl => wm_X6_meet_54 F E hr hk post v0 v1 v2 v3 v4 v5 v6 v7 H locs ls  hf Z hl) b lb x1 x2 x3 x4 t0 _ _ _ hf Z (lv_sub hl [1, 2, 3, 4, 5, 0] rfl)
  · have hf := hf.2 c_5
    refine lv_iload_n F.1 F.2.1 dX6_meet_28 rfl (lv_at hl 4 rfl) ?_
    refine lv_iconst (v := 1) F.1 F.2.1 dX6_meet_29 (by decide) ?_
    refine lv_bipush (v := 20) F.1 F.2.1 dX6_meet_30 (by decide) ?_
    have hM := k_X6_in l (D := D) (kk := kk) (ad := ad) (bs := bs) (a := a) (la := la) (b := b) (lb := lb) (lo := lo) x3 1 20 hf
    refine ig_calli E Z (ig_runS (As := [.int x3, .int 1, .int 20]) (rest := []) F E Z hl G_X6_72 hM rfl md_X6_in rfl ⟨rfl, rfl⟩ ⟨Nat.le_of_ble_eq_true rfl, Nat.le_of_ble_eq_true rfl⟩ (Nat.le_of_ble_eq_true rfl) dX6_meet_32 ⟨Nat.le_of_ble_eq_true rfl, Nat.le_of_ble_eq_true rfl⟩) (fun r6 u H locs hf Z => ?_)
    refine lv_if_eq (tgt := 53) F.1 F.2.1 dX6_meet_35 (by decide) (fun c_7 => ?_) (fun c_7 => ?_)
    · have hf := hf.1 c_7
      exact wm_X6_meet_53 F E hr hk (wp_X6_meet_54 post) post (fun v0 v1 v2 v3 v4 v5 v6 v7 H locs ls  hf Z hl => wm_X6_meet_54 F E hr hk post v0 v1 v2 v3 v4 v5 v6 v7 H locs ls  hf Z hl) b lb x1 x2 x3 x4 t0 _ _ _ hf Z (lv_sub hl [1, 2, 3, 4, 5, 0] rfl)
    · have hf := hf.2 c_7
      refine lv_iload F.1 F.2.1 dX6_meet_38 (lv_at hl 5 rfl) ?_
      refine lv_iconst (v := 1) F.1 F.2.1 dX6_meet_40 (by decide) ?_
      refine lv_bipush (v := 20) F.1 F.2.1 dX6_meet_41 (by decide) ?_
      have hM := k_X6_in l (D := D) (kk := kk) (ad := ad) (bs := bs) (a := a) (la := la) (b := b) (lb := lb) (lo := lo) x4 1 20 hf
      refine ig_calli E Z (ig_runS (As := [.int x4, .int 1, .int 20]) (rest := []) F E Z hl G_X6_72 hM rfl md_X6_in rfl ⟨rfl, rfl⟩ ⟨Nat.le_of_ble_eq_true rfl, Nat.le_of_ble_eq_true rfl⟩ (Nat.le_of_ble_eq_true rfl) dX6_meet_43 ⟨Nat.le_of_ble_eq_true rfl, Nat.le_of_ble_eq_true rfl⟩) (fun r8 u H locs hf Z => ?_)
      refine lv_if_eq (tgt := 53) F.1 F.2.1 dX6_meet_46 (by decide) (fun c_9 => ?_) (fun c_9 => ?_)
      · have hf := hf.1 c_9
        exact wm_X6_meet_53 F E hr hk (wp_X6_meet_54 post) post (fun v0 v1 v2 v3 v4 v5 v6 v7 H locs ls  hf Z hl => wm_X6_meet_54 F E hr hk post v0 v1 v2 v3 v4 v5 v6 v7 H locs ls  hf Z hl) b lb x1 x2 x3 x4 t0 _ _ _ hf Z (lv_sub hl [1, 2, 3, 4, 5, 0] rfl)
      · have hf := hf.2 c_9
        refine lv_iconst (v := 1) F.1 F.2.1 dX6_meet_49 (by decide) ?_
        refine lv_goto (tgt := 54) F.1 F.2.1 dX6_meet_50 (by decide) ?_
        exact wm_X6_meet_54 F E hr hk post b lb x1 x2 x3 x4 t0 1 _ _ _ hf Z (lv_sub hl [1, 2, 3, 4, 5, 0] rfl)
set_option maxHeartbeats 4000000 in
set_option maxRecDepth 100000 in
theorem k_X6_meet (l : Launch) {D : va_G} {kk : Nat → ClassId} {ad : Nat → Nat} {bs : Nat} {a : ig_M} {la : Int64} {b : ig_M} {lb lo : Int64} (x1 : Int32) (x2 : Int32) (x3 : Int32) (x4 : Int32) {post : ig_M → Int64 → Prop} (hf : wp_X6_meet b lb x1 x2 x3 x4 post) : Met l yX6_meet (ig_ws yX6_meet cX6_meet 7 none) (k2_rm 2 45) (va_Pc [.ref (ad 97), .int x1, .int x2, .int x3, .int x4] (ig_Wd D kk ad bs a la b lb lo)) (va_Qv (fun u : ig_M × Int64 => post u.1 u.2) (fun u t => ig_Wd D kk ad bs a la u.1 u.2 lo t) (ig_A bs)) 0 0 (ig_A bs) := by
  refine Met.ofW (cc := cX6_meet) (maxL := 7) (ret := none) (by decide) rfl ?_
  intro p e s m args below meth c s₁ B hml hv
  obtain ⟨rfl, E, hP⟩ := hv
  have hk := B.notSynchronized
  have hr := B.returns
  have F : CallFix p m c cX6_meet 7 s _ ig_all RX6 := ⟨B.exec, B.bytes, hml, findClass_of_methodNamed B.named, fun w hw => atoms_spec B.pre w (List.mem_cons_of_mem _ hw)⟩
  have Z : ig_Z D kk ad bs s s.heap [] a la b lb lo := ig_Z.rf hP
  have hl := lv_entry ([.ref (ad 97), .int x1, .int x2, .int x3, .int x4]) (n := 7) (Nat.le_of_ble_eq_true rfl)
  rw [lg_entry_eq]
  generalize (lg_sl ([.ref (ad 97), .int x1, .int x2, .int x3, .int x4]) ++ List.replicate (7 - (lg_sl ([.ref (ad 97), .int x1, .int x2, .int x3, .int x4])).length) Slot.unset).toArray = ls at hl ⊢
  have hl : lv_has ls 7 [(0, .ref (ad 97)), (1, .int x1), (2, .int x2), (3, .int x3), (4, .int x4)] := hl
  refine lv_aload_n F.1 F.2.1 dX6_meet_0 rfl (lv_at hl 0 rfl) ?_
  refine lv_iload_n F.1 F.2.1 dX6_meet_1 rfl (lv_at hl 1 rfl) ?_
  have hM := k_X6_isPhase l (D := D) (kk := kk) (ad := ad) (bs := bs) (a := a) (la := la) (b := b) (lb := lb) (lo := lo) x1 hf
  refine ig_calli E Z (ig_runV (As := [.int x1]) (rest := []) F E Z hl G_X6_91 hM (i := 97) (by decide) (ig_k_97 _ _ _ _ _ _) rfl rfl md_X6_isPhase rfl ⟨rfl, rfl⟩ ⟨Nat.le_of_ble_eq_true rfl, Nat.le_of_ble_eq_true rfl⟩ (Nat.le_of_ble_eq_true rfl) dX6_meet_2 ⟨Nat.le_of_ble_eq_true rfl, Nat.le_of_ble_eq_true rfl⟩) (fun r1 u H locs hf Z => ?_)
  refine lv_if_eq (tgt := 20) F.1 F.2.1 dX6_meet_5 (by decide) (fun c_2 => ?_) (fun c_2 => ?_)
  · have hf := hf.1 c_2
    exact wm_X6_meet_20 F E hr hk (wp_X6_meet_21 post) post (fun v0 v1 v2 v3 v4 v5 v6 H locs ls  hf Z hl => wm_X6_meet_21 F E hr hk post v0 v1 v2 v3 v4 v5 v6 H locs ls  hf Z hl) b lb x1 x2 x3 x4 _ _ _ hf Z (lv_sub hl [0, 1, 2, 3, 4] rfl)
  · have hf := hf.2 c_2
    refine lv_aload_n F.1 F.2.1 dX6_meet_8 rfl (lv_at hl 0 rfl) ?_
    refine lv_iload_n F.1 F.2.1 dX6_meet_9 rfl (lv_at hl 2 rfl) ?_
    have hM := k_X6_isPhase l (D := D) (kk := kk) (ad := ad) (bs := bs) (a := a) (la := la) (b := b) (lb := lb) (lo := lo) x2 hf
    refine ig_calli E Z (ig_runV (As := [.int x2]) (rest := []) F E Z hl G_X6_91 hM (i := 97) (by decide) (ig_k_97 _ _ _ _ _ _) rfl rfl md_X6_isPhase rfl ⟨rfl, rfl⟩ ⟨Nat.le_of_ble_eq_true rfl, Nat.le_of_ble_eq_true rfl⟩ (Nat.le_of_ble_eq_true rfl) dX6_meet_10 ⟨Nat.le_of_ble_eq_true rfl, Nat.le_of_ble_eq_true rfl⟩) (fun r3 u H locs hf Z => ?_)
    refine lv_if_eq (tgt := 20) F.1 F.2.1 dX6_meet_13 (by decide) (fun c_4 => ?_) (fun c_4 => ?_)
    · have hf := hf.1 c_4
      exact wm_X6_meet_20 F E hr hk (wp_X6_meet_21 post) post (fun v0 v1 v2 v3 v4 v5 v6 H locs ls  hf Z hl => wm_X6_meet_21 F E hr hk post v0 v1 v2 v3 v4 v5 v6 H locs ls  hf Z hl) b lb x1 x2 x3 x4 _ _ _ hf Z (lv_sub hl [0, 1, 2, 3, 4] rfl)
    · have hf := hf.2 c_4
      refine lv_iconst (v := 1) F.1 F.2.1 dX6_meet_16 (by decide) ?_
      refine lv_goto (tgt := 21) F.1 F.2.1 dX6_meet_17 (by decide) ?_
      exact wm_X6_meet_21 F E hr hk post b lb x1 x2 x3 x4 1 _ _ _ hf Z (lv_sub hl [0, 1, 2, 3, 4] rfl)
set_option maxHeartbeats 4000000 in
set_option maxRecDepth 100000 in
theorem wm_X6_meetAny_15 (F : CallFix p m c cX6_meetAny 5 s args ig_all RX6) (E : ig_E D kk ad bs s) (hr : meth.sig.returnType = (some .boolean)) (hk : meth.locks = false) (k_4 : Int32 → Int32 → Int32 → Prop) (post : Int32 → Prop) (h_4 : ∀ (x1 : Int32) (x2 : Int32) (x3 : Int32) (H : Heap) (locs : List Loc) (ls : Array Slot), k_4 x1 x2 x3 → ig_Z D kk ad bs s H locs a la b lb lo → lv_has ls 5 [(0, .ref (ad 97)), (1, .int x1), (2, .int x2), (3, .int x3)] → W p l e (k2_rm 1 21) s m args below meth c H locs 0 0 (MQ below (va_Qi (fun (r : Int32) (_ : Unit) => post r) (fun _ t => ig_Wd D kk ad bs a la b lb lo t) (ig_A bs)) args s 0 0 (ig_A bs)) (F0 m 4 ls [])) :
    ∀ (n : Nat) (x1 : Int32) (x2 : Int32) (x3 : Int32) (x4 : Int32) (H : Heap) (locs : List Loc) (ls : Array Slot), wp_X6_meetAny_15 b lb k_4 post n x1 x2 x3 x4 → ig_Z D kk ad bs s H locs a la b lb lo → lv_has ls 5 [(0, .ref (ad 97)), (1, .int x1), (2, .int x2), (3, .int x3), (4, .int x4)] → W p l e (k2_rm 1 21) s m args below meth c H locs 0 0 (MQ below (va_Qi (fun (r : Int32) (_ : Unit) => post r) (fun _ t => ig_Wd D kk ad bs a la b lb lo t) (ig_A bs)) args s 0 0 (ig_A bs)) (F0 m 15 ls []) := by
  intro n
  induction n with
  | zero => intro x1 x2 x3 x4 H locs ls hf Z hl; exact False.elim hf
  | succ n ih =>
    intro x1 x2 x3 x4 H locs ls hf Z hl
    refine lv_iload F.1 F.2.1 dX6_meetAny_15 (lv_at hl 4 rfl) ?_
    refine lv_aload_n F.1 F.2.1 dX6_meetAny_17 rfl (lv_at hl 0 rfl) ?_
    refine gf_X6_69 F E Z dX6_meetAny_18 ?_
    refine lv_icmp_ge (tgt := 72) F.1 F.2.1 dX6_meetAny_21 (by decide) (fun c_2 => ?_) (fun c_2 => ?_)
    · have hf := hf.1 c_2
      refine lv_iinc (v := x3 + 1) (lv' := [(3, .int (x3 + 1)), (0, .ref (ad 97)), (1, .int x1), (2, .int x2), (4, .int x4)]) F.1 F.2.1 dX6_meetAny_72 hl (k := 3) rfl (by rfl) (by decide) rfl (fun ls hl => ?_)
      refine lv_goto (tgt := 4) F.1 F.2.1 dX6_meetAny_75 (by decide) ?_
      exact h_4 x1 x2 (x3 + 1) _ _ _ hf Z (lv_sub hl [1, 2, 3, 0] rfl)
    · have hf := hf.2 c_2
      refine lv_iload_n F.1 F.2.1 dX6_meetAny_24 rfl (lv_at hl 2 rfl) ?_
      refine lv_if_ne (tgt := 60) F.1 F.2.1 dX6_meetAny_25 (by decide) (fun c_3 => ?_) (fun c_3 => ?_)
      · have hf := hf.1 c_3
        refine lv_iconst (v := 1) F.1 F.2.1 dX6_meetAny_60 (by decide) ?_
        refine lv_goto (tgt := 65) F.1 F.2.1 dX6_meetAny_61 (by decide) ?_
        refine lv_istore_n (lv' := [(2, .int 1), (0, .ref (ad 97)), (1, .int x1), (3, .int x3), (4, .int x4)]) F.1 F.2.1 dX6_meetAny_65 rfl hl (by decide) rfl (fun ls hl => ?_)
        refine lv_iinc (v := x4 + 1) (lv' := [(4, .int (x4 + 1)), (2, .int 1), (0, .ref (ad 97)), (1, .int x1), (3, .int x3)]) F.1 F.2.1 dX6_meetAny_66 hl (k := 4) rfl (by rfl) (by decide) rfl (fun ls hl => ?_)
        refine lv_goto (tgt := 15) F.1 F.2.1 dX6_meetAny_69 (by decide) ?_
        exact ih x1 1 x3 (x4 + 1) _ _ _ hf Z (lv_sub hl [2, 3, 1, 4, 0] rfl)
      · have hf := hf.2 c_3
        refine lv_iload_n F.1 F.2.1 dX6_meetAny_28 rfl (lv_at hl 1 rfl) ?_
        refine lv_iload_n F.1 F.2.1 dX6_meetAny_29 rfl (lv_at hl 3 rfl) ?_
        have hM := k_X6_has l (D := D) (kk := kk) (ad := ad) (bs := bs) (a := a) (la := la) (b := b) (lb := lb) (lo := lo) x1 x3 hf
        refine ig_calli E Z (ig_runS (As := [.int x1, .int x3]) (rest := []) F E Z hl G_X6_87 hM rfl md_X6_has rfl ⟨rfl, rfl⟩ ⟨Nat.le_of_ble_eq_true rfl, Nat.le_of_ble_eq_true rfl⟩ (Nat.le_of_ble_eq_true rfl) dX6_meetAny_30 ⟨Nat.le_of_ble_eq_true rfl, Nat.le_of_ble_eq_true rfl⟩) (fun r4 u H locs hf Z => ?_)
        refine lv_if_eq (tgt := 64) F.1 F.2.1 dX6_meetAny_33 (by decide) (fun c_5 => ?_) (fun c_5 => ?_)
        · have hf := hf.1 c_5
          refine lv_iconst (v := 0) F.1 F.2.1 dX6_meetAny_64 (by decide) ?_
          refine lv_istore_n (lv' := [(2, .int 0), (0, .ref (ad 97)), (1, .int x1), (3, .int x3), (4, .int x4)]) F.1 F.2.1 dX6_meetAny_65 rfl hl (by decide) rfl (fun ls hl => ?_)
          refine lv_iinc (v := x4 + 1) (lv' := [(4, .int (x4 + 1)), (2, .int 0), (0, .ref (ad 97)), (1, .int x1), (3, .int x3)]) F.1 F.2.1 dX6_meetAny_66 hl (k := 4) rfl (by rfl) (by decide) rfl (fun ls hl => ?_)
          refine lv_goto (tgt := 15) F.1 F.2.1 dX6_meetAny_69 (by decide) ?_
          exact ih x1 0 x3 (x4 + 1) _ _ _ hf Z (lv_sub hl [2, 3, 1, 4, 0] rfl)
        · have hf := hf.2 c_5
          refine lv_iload_n F.1 F.2.1 dX6_meetAny_36 rfl (lv_at hl 1 rfl) ?_
          refine lv_iload F.1 F.2.1 dX6_meetAny_37 (lv_at hl 4 rfl) ?_
          have hM := k_X6_has l (D := D) (kk := kk) (ad := ad) (bs := bs) (a := a) (la := la) (b := b) (lb := lb) (lo := lo) x1 x4 hf
          refine ig_calli E Z (ig_runS (As := [.int x1, .int x4]) (rest := []) F E Z hl G_X6_87 hM rfl md_X6_has rfl ⟨rfl, rfl⟩ ⟨Nat.le_of_ble_eq_true rfl, Nat.le_of_ble_eq_true rfl⟩ (Nat.le_of_ble_eq_true rfl) dX6_meetAny_39 ⟨Nat.le_of_ble_eq_true rfl, Nat.le_of_ble_eq_true rfl⟩) (fun r6 u H locs hf Z => ?_)
          refine lv_if_eq (tgt := 64) F.1 F.2.1 dX6_meetAny_42 (by decide) (fun c_7 => ?_) (fun c_7 => ?_)
          · have hf := hf.1 c_7
            refine lv_iconst (v := 0) F.1 F.2.1 dX6_meetAny_64 (by decide) ?_
            refine lv_istore_n (lv' := [(2, .int 0), (0, .ref (ad 97)), (1, .int x1), (3, .int x3), (4, .int x4)]) F.1 F.2.1 dX6_meetAny_65 rfl hl (by decide) rfl (fun ls hl => ?_)
            refine lv_iinc (v := x4 + 1) (lv' := [(4, .int (x4 + 1)), (2, .int 0), (0, .ref (ad 97)), (1, .int x1), (3, .int x3)]) F.1 F.2.1 dX6_meetAny_66 hl (k := 4) rfl (by rfl) (by decide) rfl (fun ls hl => ?_)
            refine lv_goto (tgt := 15) F.1 F.2.1 dX6_meetAny_69 (by decide) ?_
            exact ih x1 0 x3 (x4 + 1) _ _ _ hf Z (lv_sub hl [2, 3, 1, 4, 0] rfl)
          · have hf := hf.2 c_7
            refine lv_aload_n F.1 F.2.1 dX6_meetAny_45 rfl (lv_at hl 0 rfl) ?_
            refine gf_X6_19 F E Z dX6_meetAny_46 ?_
            refine lv_bipush (v := 8) F.1 F.2.1 dX6_meetAny_49 (by decide) ?_
            refine lv_iload_n F.1 F.2.1 dX6_meetAny_51 rfl (lv_at hl 3 rfl) ?_
            refine lv_imul F.1 F.2.1 dX6_meetAny_52 ?_
            refine lv_iload F.1 F.2.1 dX6_meetAny_53 (lv_at hl 4 rfl) ?_
            refine lv_iadd F.1 F.2.1 dX6_meetAny_55 ?_
            have hv8 := hf.1
            have hf := hf.2
            refine ig_iald (f := b 101) F E Z (by decide) (by rw [ig_mm_b _ _ (by decide)]; exact (ig_k_101 _ _ _ _ _ _)) hv8 dX6_meetAny_56 ?_
            refine lv_if_le (tgt := 64) F.1 F.2.1 dX6_meetAny_57 (by decide) (fun c_9 => ?_) (fun c_9 => ?_)
            · have hf := hf.1 c_9
              refine lv_iconst (v := 0) F.1 F.2.1 dX6_meetAny_64 (by decide) ?_
              refine lv_istore_n (lv' := [(2, .int 0), (0, .ref (ad 97)), (1, .int x1), (3, .int x3), (4, .int x4)]) F.1 F.2.1 dX6_meetAny_65 rfl hl (by decide) rfl (fun ls hl => ?_)
              refine lv_iinc (v := x4 + 1) (lv' := [(4, .int (x4 + 1)), (2, .int 0), (0, .ref (ad 97)), (1, .int x1), (3, .int x3)]) F.1 F.2.1 dX6_meetAny_66 hl (k := 4) rfl (by rfl) (by decide) rfl (fun ls hl => ?_)
              refine lv_goto (tgt := 15) F.1 F.2.1 dX6_meetAny_69 (by decide) ?_
              exact ih x1 0 x3 (x4 + 1) _ _ _ hf Z (lv_sub hl [2, 3, 1, 4, 0] rfl)
            · have hf := hf.2 c_9
              refine lv_iconst (v := 1) F.1 F.2.1 dX6_meetAny_60 (by decide) ?_
              refine lv_goto (tgt := 65) F.1 F.2.1 dX6_meetAny_61 (by decide) ?_
              refine lv_istore_n (lv' := [(2, .int 1), (0, .ref (ad 97)), (1, .int x1), (3, .int x3), (4, .int x4)]) F.1 F.2.1 dX6_meetAny_65 rfl hl (by decide) rfl (fun ls hl => ?_)
              refine lv_iinc (v := x4 + 1) (lv' := [(4, .int (x4 + 1)), (2, .int 1), (0, .ref (ad 97)), (1, .int x1), (3, .int x3)]) F.1 F.2.1 dX6_meetAny_66 hl (k := 4) rfl (by rfl) (by decide) rfl (fun ls hl => ?_)
              refine lv_goto (tgt := 15) F.1 F.2.1 dX6_meetAny_69 (by decide) ?_
              exact ih x1 1 x3 (x4 + 1) _ _ _ hf Z (lv_sub hl [2, 3, 1, 4, 0] rfl)
set_option maxHeartbeats 4000000 in
set_option maxRecDepth 100000 in
theorem wm_X6_meetAny_4 (F : CallFix p m c cX6_meetAny 5 s args ig_all RX6) (E : ig_E D kk ad bs s) (hr : meth.sig.returnType = (some .boolean)) (hk : meth.locks = false) (post : Int32 → Prop) :
    ∀ (n : Nat) (x1 : Int32) (x2 : Int32) (x3 : Int32) (H : Heap) (locs : List Loc) (ls : Array Slot), wp_X6_meetAny_4 b lb post n x1 x2 x3 → ig_Z D kk ad bs s H locs a la b lb lo → lv_has ls 5 [(0, .ref (ad 97)), (1, .int x1), (2, .int x2), (3, .int x3)] → W p l e (k2_rm 1 21) s m args below meth c H locs 0 0 (MQ below (va_Qi (fun (r : Int32) (_ : Unit) => post r) (fun _ t => ig_Wd D kk ad bs a la b lb lo t) (ig_A bs)) args s 0 0 (ig_A bs)) (F0 m 4 ls []) := by
  intro n
  induction n with
  | zero => intro x1 x2 x3 H locs ls hf Z hl; exact False.elim hf
  | succ n ih =>
    intro x1 x2 x3 H locs ls hf Z hl
    refine lv_iload_n F.1 F.2.1 dX6_meetAny_4 rfl (lv_at hl 3 rfl) ?_
    refine lv_aload_n F.1 F.2.1 dX6_meetAny_5 rfl (lv_at hl 0 rfl) ?_
    refine gf_X6_69 F E Z dX6_meetAny_6 ?_
    refine lv_icmp_ge (tgt := 78) F.1 F.2.1 dX6_meetAny_9 (by decide) (fun c_1 => ?_) (fun c_1 => ?_)
    · have hf := hf.1 c_1
      refine lv_iload_n F.1 F.2.1 dX6_meetAny_78 rfl (lv_at hl 2 rfl) ?_
      exact W.zret (v := x2) F.1 F.2.1 hr (ig_narrow hf.1) (fun t ht hW => ⟨⟨_, (), rfl, hf.2, Z.wd E ht hW⟩, Z.fr ht⟩) Z.2.2.2 dX6_meetAny_79
    · have hf := hf.2 c_1
      refine lv_iconst (v := 0) F.1 F.2.1 dX6_meetAny_12 (by decide) ?_
      refine lv_istore (lv' := [(4, .int 0), (0, .ref (ad 97)), (1, .int x1), (2, .int x2), (3, .int x3)]) F.1 F.2.1 dX6_meetAny_13 hl (by decide) rfl (fun ls hl => ?_)
      obtain ⟨n1, hf⟩ := hf
      exact wm_X6_meetAny_15 F E hr hk (fun (z0 : Int32) (z1 : Int32) (z2 : Int32) => wp_X6_meetAny_4 b lb post n z0 z1 z2) post ih n1 x1 x2 x3 0 _ _ _ hf Z (lv_sub hl [1, 2, 3, 4, 0] rfl)
set_option maxHeartbeats 4000000 in
set_option maxRecDepth 100000 in
theorem k_X6_meetAny (l : Launch) {D : va_G} {kk : Nat → ClassId} {ad : Nat → Nat} {bs : Nat} {a : ig_M} {la : Int64} {b : ig_M} {lb lo : Int64} (x1 : Int32) {post : Int32 → Prop} (hf : wp_X6_meetAny b lb x1 post) : Met l yX6_meetAny (ig_ws yX6_meetAny cX6_meetAny 5 (some .boolean)) (k2_rm 1 21) (va_Pc [.ref (ad 97), .int x1] (ig_Wd D kk ad bs a la b lb lo)) (va_Qi (fun (r : Int32) (_ : Unit) => post r) (fun _ t => ig_Wd D kk ad bs a la b lb lo t) (ig_A bs)) 0 0 (ig_A bs) := by
  refine Met.ofW (cc := cX6_meetAny) (maxL := 5) (ret := (some .boolean)) (by decide) rfl ?_
  intro p e s m args below meth c s₁ B hml hv
  obtain ⟨rfl, E, hP⟩ := hv
  have hk := B.notSynchronized
  have hr := B.returns
  have F : CallFix p m c cX6_meetAny 5 s _ ig_all RX6 := ⟨B.exec, B.bytes, hml, findClass_of_methodNamed B.named, fun w hw => atoms_spec B.pre w (List.mem_cons_of_mem _ hw)⟩
  have Z : ig_Z D kk ad bs s s.heap [] a la b lb lo := ig_Z.rf hP
  have hl := lv_entry ([.ref (ad 97), .int x1]) (n := 5) (Nat.le_of_ble_eq_true rfl)
  rw [lg_entry_eq]
  generalize (lg_sl ([.ref (ad 97), .int x1]) ++ List.replicate (5 - (lg_sl ([.ref (ad 97), .int x1])).length) Slot.unset).toArray = ls at hl ⊢
  have hl : lv_has ls 5 [(0, .ref (ad 97)), (1, .int x1)] := hl
  refine lv_iconst (v := 0) F.1 F.2.1 dX6_meetAny_0 (by decide) ?_
  refine lv_istore_n (lv' := [(2, .int 0), (0, .ref (ad 97)), (1, .int x1)]) F.1 F.2.1 dX6_meetAny_1 rfl hl (by decide) rfl (fun ls hl => ?_)
  refine lv_iconst (v := 0) F.1 F.2.1 dX6_meetAny_2 (by decide) ?_
  refine lv_istore_n (lv' := [(3, .int 0), (2, .int 0), (0, .ref (ad 97)), (1, .int x1)]) F.1 F.2.1 dX6_meetAny_3 rfl hl (by decide) rfl (fun ls hl => ?_)
  obtain ⟨n1, hf⟩ := hf
  exact wm_X6_meetAny_4 F E hr hk post n1 x1 0 0 _ _ _ hf Z (lv_sub hl [2, 3, 1, 0] rfl)
set_option maxHeartbeats 4000000 in
set_option maxRecDepth 100000 in
theorem wm_X6_stage_52 (F : CallFix p m c cX6_stage 3 s args ig_all RX6) (E : ig_E D kk ad bs s) (hr : meth.sig.returnType = (some .int)) (hk : meth.locks = false) (post : Int32 → ig_M → Int64 → Prop) :
    ∀ (b : ig_M) (lb : Int64) (x1 : Int32) (t0 : Int32) (H : Heap) (locs : List Loc) (ls : Array Slot), wp_X6_stage_52 post b lb x1 t0 → ig_Z D kk ad bs s H locs a la b lb lo → lv_has ls 3 [(0, .ref (ad 97)), (1, .int x1)] → W p l e (k2_rm 2 45) s m args below meth c H locs 0 0 (MQ below (va_Qi (fun (r : Int32) (u : ig_M × Int64) => post r u.1 u.2) (fun u t => ig_Wd D kk ad bs a la u.1 u.2 lo t) (ig_A bs)) args s 0 0 (ig_A bs)) (F0 m 52 ls [.int t0, .ref (ad 97)]) := by
  intro b lb x1 t0 H locs ls hf Z hl
  have hM := k_X6_goesWell l (D := D) (kk := kk) (ad := ad) (bs := bs) (a := a) (la := la) (b := b) (lb := lb) (lo := lo) t0 hf
  refine ig_calli E Z (ig_runV (As := [.int t0]) (rest := []) F E Z hl G_X6_83 hM (i := 97) (by decide) (ig_k_97 _ _ _ _ _ _) rfl rfl md_X6_goesWell rfl ⟨rfl, rfl⟩ ⟨Nat.le_of_ble_eq_true rfl, Nat.le_of_ble_eq_true rfl⟩ (Nat.le_of_ble_eq_true rfl) dX6_stage_52 ⟨Nat.le_of_ble_eq_true rfl, Nat.le_of_ble_eq_true rfl⟩) (fun r7 u H locs hf Z => ?_)
  obtain ⟨b8, lb9⟩ := u
  have Z : ig_Z D kk ad bs s H locs a la b8 lb9 lo := Z
  refine lv_if_ne (tgt := 60) F.1 F.2.1 dX6_stage_55 (by decide) (fun c_10 => ?_) (fun c_10 => ?_)
  · have hf := hf.1 c_10
    refine lv_aload_n F.1 F.2.1 dX6_stage_60 rfl (lv_at hl 0 rfl) ?_
    refine gf_X6_22 F E Z dX6_stage_61 ?_
    refine lv_aload_n F.1 F.2.1 dX6_stage_64 rfl (lv_at hl 0 rfl) ?_
    refine gf_X6_76 F E Z dX6_stage_65 ?_
    refine lv_iload_n F.1 F.2.1 dX6_stage_68 rfl (lv_at hl 1 rfl) ?_
    have hv11 := hf.1
    have hf := hf.2
    refine ig_iastB (n := 6) F E Z (by decide) (by decide) (fun r => ig_k_102 _ _ _ _ _ r) hv11 dX6_stage_69 (fun H locs b12 hb12 Z => ?_)
    have hf := hf b12 hb12
    refine lv_aload_n F.1 F.2.1 dX6_stage_70 rfl (lv_at hl 0 rfl) ?_
    refine lv_dup F.1 F.2.1 dX6_stage_71 rfl ?_
    refine gf_X6_76 F E Z dX6_stage_72 ?_
    refine lv_iconst (v := 1) F.1 F.2.1 dX6_stage_75 (by decide) ?_
    refine lv_iadd F.1 F.2.1 dX6_stage_76 ?_
    refine pf_X6_76 F E Z dX6_stage_77 (fun H locs b13 hb13 Z => ?_)
    have hf := hf b13 hb13
    refine lv_aload_n F.1 F.2.1 dX6_stage_80 rfl (lv_at hl 0 rfl) ?_
    refine gf_X6_76 F E Z dX6_stage_81 ?_
    refine lv_iconst (v := 1) F.1 F.2.1 dX6_stage_84 (by decide) ?_
    refine lv_isub F.1 F.2.1 dX6_stage_85 ?_
    exact W.iret (v := (b13 97 7) - 1) F.1 F.2.1 hr (fun t ht hW => ⟨⟨_, (b13, lb9), rfl, hf, Z.wd E ht hW⟩, Z.fr ht⟩) Z.2.2.2 dX6_stage_86
  · have hf := hf.2 c_10
    refine lv_iconst (v := 0) F.1 F.2.1 dX6_stage_58 (by decide) ?_
    exact W.iret (v := 0) F.1 F.2.1 hr (fun t ht hW => ⟨⟨_, (b8, lb9), rfl, hf, Z.wd E ht hW⟩, Z.fr ht⟩) Z.2.2.2 dX6_stage_59
set_option maxHeartbeats 4000000 in
set_option maxRecDepth 100000 in
theorem wm_X6_stage_47 (F : CallFix p m c cX6_stage 3 s args ig_all RX6) (E : ig_E D kk ad bs s) (hr : meth.sig.returnType = (some .int)) (hk : meth.locks = false) (k_52 : ig_M → Int64 → Int32 → Int32 → Prop) (post : Int32 → ig_M → Int64 → Prop) (h_52 : ∀ (b : ig_M) (lb : Int64) (x1 : Int32) (t0 : Int32) (H : Heap) (locs : List Loc) (ls : Array Slot), k_52 b lb x1 t0 → ig_Z D kk ad bs s H locs a la b lb lo → lv_has ls 3 [(0, .ref (ad 97)), (1, .int x1)] → W p l e (k2_rm 2 45) s m args below meth c H locs 0 0 (MQ below (va_Qi (fun (r : Int32) (u : ig_M × Int64) => post r u.1 u.2) (fun u t => ig_Wd D kk ad bs a la u.1 u.2 lo t) (ig_A bs)) args s 0 0 (ig_A bs)) (F0 m 52 ls [.int t0, .ref (ad 97)])) :
    ∀ (b : ig_M) (lb : Int64) (x1 : Int32) (H : Heap) (locs : List Loc) (ls : Array Slot), wp_X6_stage_47 k_52 post b lb x1 → ig_Z D kk ad bs s H locs a la b lb lo → lv_has ls 3 [(0, .ref (ad 97)), (1, .int x1)] → W p l e (k2_rm 2 45) s m args below meth c H locs 0 0 (MQ below (va_Qi (fun (r : Int32) (u : ig_M × Int64) => post r u.1 u.2) (fun u t => ig_Wd D kk ad bs a la u.1 u.2 lo t) (ig_A bs)) args s 0 0 (ig_A bs)) (F0 m 47 ls [.ref (ad 97)]) := by
  intro b lb x1 H locs ls hf Z hl
  refine lv_iconst (v := 2) F.1 F.2.1 dX6_stage_47 (by decide) ?_
  refine lv_goto (tgt := 52) F.1 F.2.1 dX6_stage_48 (by decide) ?_
  exact h_52 b lb x1 2 _ _ _ hf Z (lv_sub hl [0, 1] rfl)
set_option maxHeartbeats 4000000 in
set_option maxRecDepth 100000 in
theorem k_X6_stage (l : Launch) {D : va_G} {kk : Nat → ClassId} {ad : Nat → Nat} {bs : Nat} {a : ig_M} {la : Int64} {b : ig_M} {lb lo : Int64} (x1 : Int32) {post : Int32 → ig_M → Int64 → Prop} (hf : wp_X6_stage b lb x1 post) : Met l yX6_stage (ig_ws yX6_stage cX6_stage 3 (some .int)) (k2_rm 2 45) (va_Pc [.ref (ad 97), .int x1] (ig_Wd D kk ad bs a la b lb lo)) (va_Qi (fun (r : Int32) (u : ig_M × Int64) => post r u.1 u.2) (fun u t => ig_Wd D kk ad bs a la u.1 u.2 lo t) (ig_A bs)) 0 0 (ig_A bs) := by
  refine Met.ofW (cc := cX6_stage) (maxL := 3) (ret := (some .int)) (by decide) rfl ?_
  intro p e s m args below meth c s₁ B hml hv
  obtain ⟨rfl, E, hP⟩ := hv
  have hk := B.notSynchronized
  have hr := B.returns
  have F : CallFix p m c cX6_stage 3 s _ ig_all RX6 := ⟨B.exec, B.bytes, hml, findClass_of_methodNamed B.named, fun w hw => atoms_spec B.pre w (List.mem_cons_of_mem _ hw)⟩
  have Z : ig_Z D kk ad bs s s.heap [] a la b lb lo := ig_Z.rf hP
  have hl := lv_entry ([.ref (ad 97), .int x1]) (n := 3) (Nat.le_of_ble_eq_true rfl)
  rw [lg_entry_eq]
  generalize (lg_sl ([.ref (ad 97), .int x1]) ++ List.replicate (3 - (lg_sl ([.ref (ad 97), .int x1])).length) Slot.unset).toArray = ls at hl ⊢
  have hl : lv_has ls 3 [(0, .ref (ad 97)), (1, .int x1)] := hl
  refine lv_iload_n F.1 F.2.1 dX6_stage_0 rfl (lv_at hl 1 rfl) ?_
  refine lv_iconst (v := 1) F.1 F.2.1 dX6_stage_1 (by decide) ?_
  refine lv_iconst (v := 1) F.1 F.2.1 dX6_stage_2 (by decide) ?_
  refine lv_aload_n F.1 F.2.1 dX6_stage_3 rfl (lv_at hl 0 rfl) ?_
  refine gf_X6_69 F E Z dX6_stage_4 ?_
  refine lv_ishl F.1 F.2.1 dX6_stage_7 ?_
  refine lv_iconst (v := 1) F.1 F.2.1 dX6_stage_8 (by decide) ?_
  refine lv_isub F.1 F.2.1 dX6_stage_9 ?_
  have hM := k_X6_in l (D := D) (kk := kk) (ad := ad) (bs := bs) (a := a) (la := la) (b := b) (lb := lb) (lo := lo) x1 1 ((1 <<< ((b 97 2) &&& 31)) - 1) hf
  refine ig_calli E Z (ig_runS (As := [.int x1, .int 1, .int ((1 <<< ((b 97 2) &&& 31)) - 1)]) (rest := []) F E Z hl G_X6_72 hM rfl md_X6_in rfl ⟨rfl, rfl⟩ ⟨Nat.le_of_ble_eq_true rfl, Nat.le_of_ble_eq_true rfl⟩ (Nat.le_of_ble_eq_true rfl) dX6_stage_10 ⟨Nat.le_of_ble_eq_true rfl, Nat.le_of_ble_eq_true rfl⟩) (fun r1 u H locs hf Z => ?_)
  refine lv_istore_n (lv' := [(2, .int r1), (0, .ref (ad 97)), (1, .int x1)]) F.1 F.2.1 dX6_stage_13 rfl hl (by decide) rfl (fun ls hl => ?_)
  refine lv_aload_n F.1 F.2.1 dX6_stage_14 rfl (lv_at hl 1 rfl) ?_
  refine lv_iload_n F.1 F.2.1 dX6_stage_15 rfl (lv_at hl 0 rfl) ?_
  refine lv_if_ne (tgt := 23) F.1 F.2.1 dX6_stage_16 (by decide) (fun c_2 => ?_) (fun c_2 => ?_)
  · have hf := hf.1 c_2
    refine lv_aload_n F.1 F.2.1 dX6_stage_23 rfl (lv_at hl 1 rfl) ?_
    refine gf_X6_79 F E Z dX6_stage_24 ?_
    refine lv_if_ne (tgt := 47) F.1 F.2.1 dX6_stage_27 (by decide) (fun c_3 => ?_) (fun c_3 => ?_)
    · have hf := hf.1 c_3
      exact wm_X6_stage_47 F E hr hk (wp_X6_stage_52 post) post (fun v0 v1 v2 v3 H locs ls  hf Z hl => wm_X6_stage_52 F E hr hk post v0 v1 v2 v3 H locs ls  hf Z hl) b lb x1 _ _ _ hf Z (lv_sub hl [1, 2] rfl)
    · have hf := hf.2 c_3
      refine lv_aload_n F.1 F.2.1 dX6_stage_30 rfl (lv_at hl 1 rfl) ?_
      refine lv_iload_n F.1 F.2.1 dX6_stage_31 rfl (lv_at hl 2 rfl) ?_
      have hM := k_X6_meetAny l (D := D) (kk := kk) (ad := ad) (bs := bs) (a := a) (la := la) (b := b) (lb := lb) (lo := lo) x1 hf
      refine ig_calli E Z (ig_runV (As := [.int x1]) (rest := [.ref (ad 97)]) F E Z hl G_X6_97 hM (i := 97) (by decide) (ig_k_97 _ _ _ _ _ _) rfl rfl md_X6_meetAny rfl ⟨rfl, rfl⟩ ⟨Nat.le_of_ble_eq_true rfl, Nat.le_of_ble_eq_true rfl⟩ (Nat.le_of_ble_eq_true rfl) dX6_stage_32 ⟨Nat.le_of_ble_eq_true rfl, Nat.le_of_ble_eq_true rfl⟩) (fun r4 u H locs hf Z => ?_)
      refine lv_if_ne (tgt := 47) F.1 F.2.1 dX6_stage_35 (by decide) (fun c_5 => ?_) (fun c_5 => ?_)
      · have hf := hf.1 c_5
        exact wm_X6_stage_47 F E hr hk (wp_X6_stage_52 post) post (fun v0 v1 v2 v3 H locs ls  hf Z hl => wm_X6_stage_52 F E hr hk post v0 v1 v2 v3 H locs ls  hf Z hl) b lb x1 _ _ _ hf Z (lv_sub hl [1, 2] rfl)
      · have hf := hf.2 c_5
        refine lv_aload_n F.1 F.2.1 dX6_stage_38 rfl (lv_at hl 1 rfl) ?_
        refine gf_X6_76 F E Z dX6_stage_39 ?_
        refine lv_bipush (v := 6) F.1 F.2.1 dX6_stage_42 (by decide) ?_
        refine lv_icmp_ne (tgt := 51) F.1 F.2.1 dX6_stage_44 (by decide) (fun c_6 => ?_) (fun c_6 => ?_)
        · have hf := hf.1 c_6
          refine lv_iconst (v := 0) F.1 F.2.1 dX6_stage_51 (by decide) ?_
          exact wm_X6_stage_52 F E hr hk post b lb x1 0 _ _ _ hf Z (lv_sub hl [1, 2] rfl)
        · have hf := hf.2 c_6
          exact wm_X6_stage_47 F E hr hk (wp_X6_stage_52 post) post (fun v0 v1 v2 v3 H locs ls  hf Z hl => wm_X6_stage_52 F E hr hk post v0 v1 v2 v3 H locs ls  hf Z hl) b lb x1 _ _ _ hf Z (lv_sub hl [1, 2] rfl)
  · have hf := hf.2 c_2
    refine lv_iconst (v := 1) F.1 F.2.1 dX6_stage_19 (by decide) ?_
    refine lv_goto (tgt := 52) F.1 F.2.1 dX6_stage_20 (by decide) ?_
    exact wm_X6_stage_52 F E hr hk post b lb x1 1 _ _ _ hf Z (lv_sub hl [1, 2] rfl)
set_option maxHeartbeats 4000000 in
set_option maxRecDepth 100000 in
theorem wm_X6_start_36 (F : CallFix p m c cX6_start 3 s args ig_all RX6) (E : ig_E D kk ad bs s) (hr : meth.sig.returnType = none) (hk : meth.locks = false) (post : ig_M → Int64 → Prop) :
    ∀ (b : ig_M) (lb : Int64) (x1 : Int32) (t0 : Int32) (H : Heap) (locs : List Loc) (ls : Array Slot), wp_X6_start_36 post b lb x1 t0 → ig_Z D kk ad bs s H locs a la b lb lo → lv_has ls 3 [(0, .ref (ad 97)), (1, .int x1)] → W p l e (k2_rm 2 43) s m args below meth c H locs 0 0 (MQ below (va_Qv (fun u : ig_M × Int64 => post u.1 u.2) (fun u t => ig_Wd D kk ad bs a la u.1 u.2 lo t) (ig_A bs)) args s 0 0 (ig_A bs)) (F0 m 36 ls [.int t0, .ref (ad 97)]) := by
  intro b lb x1 t0 H locs ls hf Z hl
  have hM := k_X6_goesWell l (D := D) (kk := kk) (ad := ad) (bs := bs) (a := a) (la := la) (b := b) (lb := lb) (lo := lo) t0 hf
  refine ig_calli E Z (ig_runV (As := [.int t0]) (rest := []) F E Z hl G_X6_83 hM (i := 97) (by decide) (ig_k_97 _ _ _ _ _ _) rfl rfl md_X6_goesWell rfl ⟨rfl, rfl⟩ ⟨Nat.le_of_ble_eq_true rfl, Nat.le_of_ble_eq_true rfl⟩ (Nat.le_of_ble_eq_true rfl) dX6_start_36 ⟨Nat.le_of_ble_eq_true rfl, Nat.le_of_ble_eq_true rfl⟩) (fun r5 u H locs hf Z => ?_)
  obtain ⟨b6, lb7⟩ := u
  have Z : ig_Z D kk ad bs s H locs a la b6 lb7 lo := Z
  refine lv_if_eq (tgt := 57) F.1 F.2.1 dX6_start_39 (by decide) (fun c_8 => ?_) (fun c_8 => ?_)
  · have hf := hf.1 c_8
    exact W.vret F.1 F.2.1 hr (fun t ht hW => ⟨⟨(b6, lb7), rfl, hf, Z.wd E ht hW⟩, Z.fr ht⟩) Z.2.2.2 dX6_start_57
  · have hf := hf.2 c_8
    refine lv_aload_n F.1 F.2.1 dX6_start_42 rfl (lv_at hl 0 rfl) ?_
    refine lv_iconst (v := 1) F.1 F.2.1 dX6_start_43 (by decide) ?_
    refine pf_X6_79 F E Z (Or.inr rfl) dX6_start_44 (fun H locs b9 hb9 Z => ?_)
    have hf := hf b9 hb9
    refine lv_aload_n F.1 F.2.1 dX6_start_47 rfl (lv_at hl 0 rfl) ?_
    refine lv_iconst (v := 1) F.1 F.2.1 dX6_start_48 (by decide) ?_
    refine pf_X6_103 F E Z dX6_start_49 (fun H locs b10 hb10 Z => ?_)
    have hf := hf b10 hb10
    refine lv_aload_n F.1 F.2.1 dX6_start_52 rfl (lv_at hl 0 rfl) ?_
    refine lv_iload_n F.1 F.2.1 dX6_start_53 rfl (lv_at hl 1 rfl) ?_
    refine pf_X6_106 F E Z dX6_start_54 (fun H locs b11 hb11 Z => ?_)
    have hf := hf b11 hb11
    exact W.vret F.1 F.2.1 hr (fun t ht hW => ⟨⟨(b11, lb7), rfl, hf, Z.wd E ht hW⟩, Z.fr ht⟩) Z.2.2.2 dX6_start_57
set_option maxHeartbeats 4000000 in
set_option maxRecDepth 100000 in
theorem wm_X6_start_31 (F : CallFix p m c cX6_start 3 s args ig_all RX6) (E : ig_E D kk ad bs s) (hr : meth.sig.returnType = none) (hk : meth.locks = false) (k_36 : ig_M → Int64 → Int32 → Int32 → Prop) (post : ig_M → Int64 → Prop) (h_36 : ∀ (b : ig_M) (lb : Int64) (x1 : Int32) (t0 : Int32) (H : Heap) (locs : List Loc) (ls : Array Slot), k_36 b lb x1 t0 → ig_Z D kk ad bs s H locs a la b lb lo → lv_has ls 3 [(0, .ref (ad 97)), (1, .int x1)] → W p l e (k2_rm 2 43) s m args below meth c H locs 0 0 (MQ below (va_Qv (fun u : ig_M × Int64 => post u.1 u.2) (fun u t => ig_Wd D kk ad bs a la u.1 u.2 lo t) (ig_A bs)) args s 0 0 (ig_A bs)) (F0 m 36 ls [.int t0, .ref (ad 97)])) :
    ∀ (b : ig_M) (lb : Int64) (x1 : Int32) (H : Heap) (locs : List Loc) (ls : Array Slot), wp_X6_start_31 k_36 post b lb x1 → ig_Z D kk ad bs s H locs a la b lb lo → lv_has ls 3 [(0, .ref (ad 97)), (1, .int x1)] → W p l e (k2_rm 2 43) s m args below meth c H locs 0 0 (MQ below (va_Qv (fun u : ig_M × Int64 => post u.1 u.2) (fun u t => ig_Wd D kk ad bs a la u.1 u.2 lo t) (ig_A bs)) args s 0 0 (ig_A bs)) (F0 m 31 ls [.ref (ad 97)]) := by
  intro b lb x1 H locs ls hf Z hl
  refine lv_iconst (v := 2) F.1 F.2.1 dX6_start_31 (by decide) ?_
  refine lv_goto (tgt := 36) F.1 F.2.1 dX6_start_32 (by decide) ?_
  exact h_36 b lb x1 2 _ _ _ hf Z (lv_sub hl [0, 1] rfl)
set_option maxHeartbeats 4000000 in
set_option maxRecDepth 100000 in
theorem k_X6_start (l : Launch) {D : va_G} {kk : Nat → ClassId} {ad : Nat → Nat} {bs : Nat} {a : ig_M} {la : Int64} {b : ig_M} {lb lo : Int64} (x1 : Int32) {post : ig_M → Int64 → Prop} (hf : wp_X6_start b lb x1 post) : Met l yX6_start (ig_ws yX6_start cX6_start 3 none) (k2_rm 2 43) (va_Pc [.ref (ad 97), .int x1] (ig_Wd D kk ad bs a la b lb lo)) (va_Qv (fun u : ig_M × Int64 => post u.1 u.2) (fun u t => ig_Wd D kk ad bs a la u.1 u.2 lo t) (ig_A bs)) 0 0 (ig_A bs) := by
  refine Met.ofW (cc := cX6_start) (maxL := 3) (ret := none) (by decide) rfl ?_
  intro p e s m args below meth c s₁ B hml hv
  obtain ⟨rfl, E, hP⟩ := hv
  have hk := B.notSynchronized
  have hr := B.returns
  have F : CallFix p m c cX6_start 3 s _ ig_all RX6 := ⟨B.exec, B.bytes, hml, findClass_of_methodNamed B.named, fun w hw => atoms_spec B.pre w (List.mem_cons_of_mem _ hw)⟩
  have Z : ig_Z D kk ad bs s s.heap [] a la b lb lo := ig_Z.rf hP
  have hl := lv_entry ([.ref (ad 97), .int x1]) (n := 3) (Nat.le_of_ble_eq_true rfl)
  rw [lg_entry_eq]
  generalize (lg_sl ([.ref (ad 97), .int x1]) ++ List.replicate (3 - (lg_sl ([.ref (ad 97), .int x1])).length) Slot.unset).toArray = ls at hl ⊢
  have hl : lv_has ls 3 [(0, .ref (ad 97)), (1, .int x1)] := hl
  refine lv_aload_n F.1 F.2.1 dX6_start_0 rfl (lv_at hl 0 rfl) ?_
  refine lv_iload_n F.1 F.2.1 dX6_start_1 rfl (lv_at hl 1 rfl) ?_
  have hM := k_X6_isStage l (D := D) (kk := kk) (ad := ad) (bs := bs) (a := a) (la := la) (b := b) (lb := lb) (lo := lo) x1 hf
  refine ig_calli E Z (ig_runV (As := [.int x1]) (rest := []) F E Z hl G_X6_100 hM (i := 97) (by decide) (ig_k_97 _ _ _ _ _ _) rfl rfl md_X6_isStage rfl ⟨rfl, rfl⟩ ⟨Nat.le_of_ble_eq_true rfl, Nat.le_of_ble_eq_true rfl⟩ (Nat.le_of_ble_eq_true rfl) dX6_start_2 ⟨Nat.le_of_ble_eq_true rfl, Nat.le_of_ble_eq_true rfl⟩) (fun r1 u H locs hf Z => ?_)
  refine lv_istore_n (lv' := [(2, .int r1), (0, .ref (ad 97)), (1, .int x1)]) F.1 F.2.1 dX6_start_5 rfl hl (by decide) rfl (fun ls hl => ?_)
  refine lv_aload_n F.1 F.2.1 dX6_start_6 rfl (lv_at hl 1 rfl) ?_
  refine lv_iload_n F.1 F.2.1 dX6_start_7 rfl (lv_at hl 0 rfl) ?_
  refine lv_if_ne (tgt := 15) F.1 F.2.1 dX6_start_8 (by decide) (fun c_2 => ?_) (fun c_2 => ?_)
  · have hf := hf.1 c_2
    refine lv_aload_n F.1 F.2.1 dX6_start_15 rfl (lv_at hl 1 rfl) ?_
    refine gf_X6_103 F E Z dX6_start_16 ?_
    refine lv_iconst (v := 1) F.1 F.2.1 dX6_start_19 (by decide) ?_
    refine lv_icmp_eq (tgt := 31) F.1 F.2.1 dX6_start_20 (by decide) (fun c_3 => ?_) (fun c_3 => ?_)
    · have hf := hf.1 c_3
      exact wm_X6_start_31 F E hr hk (wp_X6_start_36 post) post (fun v0 v1 v2 v3 H locs ls  hf Z hl => wm_X6_start_36 F E hr hk post v0 v1 v2 v3 H locs ls  hf Z hl) b lb x1 _ _ _ hf Z (lv_sub hl [1, 2] rfl)
    · have hf := hf.2 c_3
      refine lv_aload_n F.1 F.2.1 dX6_start_23 rfl (lv_at hl 1 rfl) ?_
      refine gf_X6_103 F E Z dX6_start_24 ?_
      refine lv_iconst (v := 2) F.1 F.2.1 dX6_start_27 (by decide) ?_
      refine lv_icmp_ne (tgt := 35) F.1 F.2.1 dX6_start_28 (by decide) (fun c_4 => ?_) (fun c_4 => ?_)
      · have hf := hf.1 c_4
        refine lv_iconst (v := 0) F.1 F.2.1 dX6_start_35 (by decide) ?_
        exact wm_X6_start_36 F E hr hk post b lb x1 0 _ _ _ hf Z (lv_sub hl [1, 2] rfl)
      · have hf := hf.2 c_4
        exact wm_X6_start_31 F E hr hk (wp_X6_start_36 post) post (fun v0 v1 v2 v3 H locs ls  hf Z hl => wm_X6_start_36 F E hr hk post v0 v1 v2 v3 H locs ls  hf Z hl) b lb x1 _ _ _ hf Z (lv_sub hl [1, 2] rfl)
  · have hf := hf.2 c_2
    refine lv_iconst (v := 1) F.1 F.2.1 dX6_start_11 (by decide) ?_
    refine lv_goto (tgt := 36) F.1 F.2.1 dX6_start_12 (by decide) ?_
    exact wm_X6_start_36 F E hr hk post b lb x1 1 _ _ _ hf Z (lv_sub hl [1, 2] rfl)
set_option maxHeartbeats 4000000 in
set_option maxRecDepth 100000 in
theorem wm_X6_darken_43 (F : CallFix p m c cX6_darken 3 s args ig_all RX6) (E : ig_E D kk ad bs s) (hr : meth.sig.returnType = none) (hk : meth.locks = false) (k_7 : ig_M → Int64 → Int32 → Prop) (post : ig_M → Int64 → Prop) (h_7 : ∀ (b : ig_M) (lb : Int64) (x2 : Int32) (H : Heap) (locs : List Loc) (ls : Array Slot), k_7 b lb x2 → ig_Z D kk ad bs s H locs a la b lb lo → lv_has ls 3 [(0, .ref (ad 97)), (2, .int x2)] → W p l e (k2_rm 0 0) s m args below meth c H locs 0 0 (MQ below (va_Qv (fun u : ig_M × Int64 => post u.1 u.2) (fun u t => ig_Wd D kk ad bs a la u.1 u.2 lo t) (ig_A bs)) args s 0 0 (ig_A bs)) (F0 m 7 ls [])) :
    ∀ (b : ig_M) (lb : Int64) (x2 : Int32) (t0 : Int32) (t1 : Int32) (H : Heap) (locs : List Loc) (ls : Array Slot), wp_X6_darken_43 k_7 post b lb x2 t0 t1 → ig_Z D kk ad bs s H locs a la b lb lo → lv_has ls 3 [(0, .ref (ad 97)), (2, .int x2)] → W p l e (k2_rm 0 0) s m args below meth c H locs 0 0 (MQ below (va_Qv (fun u : ig_M × Int64 => post u.1 u.2) (fun u t => ig_Wd D kk ad bs a la u.1 u.2 lo t) (ig_A bs)) args s 0 0 (ig_A bs)) (F0 m 43 ls [.int t0, .int t1, .ref (ad 104)]) := by
  intro b lb x2 t0 t1 H locs ls hf Z hl
  have hv6 := hf.1
  have hf := hf.2
  refine ig_iastB (n := 8) F E Z (by decide) (by decide) (fun r => ig_k_104 _ _ _ _ _ r) hv6 dX6_darken_43 (fun H locs b7 hb7 Z => ?_)
  have hf := hf b7 hb7
  refine lv_aload_n F.1 F.2.1 dX6_darken_44 rfl (lv_at hl 0 rfl) ?_
  refine gf_X6_25 F E Z dX6_darken_45 ?_
  refine lv_iload_n F.1 F.2.1 dX6_darken_48 rfl (lv_at hl 1 rfl) ?_
  refine lv_iconst (v := 0) F.1 F.2.1 dX6_darken_49 (by decide) ?_
  have hv8 := hf.1
  have hf := hf.2
  refine ig_iastB (n := 8) F E Z (by decide) (by decide) (fun r => ig_k_103 _ _ _ _ _ r) hv8 dX6_darken_50 (fun H locs b9 hb9 Z => ?_)
  have hf := hf b9 hb9
  refine lv_iinc (v := x2 + 1) (lv' := [(2, .int (x2 + 1)), (0, .ref (ad 97))]) F.1 F.2.1 dX6_darken_51 hl (k := 1) rfl (by rfl) (by decide) rfl (fun ls hl => ?_)
  refine lv_goto (tgt := 7) F.1 F.2.1 dX6_darken_54 (by decide) ?_
  exact h_7 b9 lb (x2 + 1) _ _ _ hf Z (lv_sub hl [1, 0] rfl)
set_option maxHeartbeats 4000000 in
set_option maxRecDepth 100000 in
theorem wm_X6_darken_7 (F : CallFix p m c cX6_darken 3 s args ig_all RX6) (E : ig_E D kk ad bs s) (hr : meth.sig.returnType = none) (hk : meth.locks = false) (post : ig_M → Int64 → Prop) :
    ∀ (n : Nat) (b : ig_M) (lb : Int64) (x2 : Int32) (H : Heap) (locs : List Loc) (ls : Array Slot), wp_X6_darken_7 post n b lb x2 → ig_Z D kk ad bs s H locs a la b lb lo → lv_has ls 3 [(0, .ref (ad 97)), (2, .int x2)] → W p l e (k2_rm 0 0) s m args below meth c H locs 0 0 (MQ below (va_Qv (fun u : ig_M × Int64 => post u.1 u.2) (fun u t => ig_Wd D kk ad bs a la u.1 u.2 lo t) (ig_A bs)) args s 0 0 (ig_A bs)) (F0 m 7 ls []) := by
  intro n
  induction n with
  | zero => intro b lb x2 H locs ls hf Z hl; exact False.elim hf
  | succ n ih =>
    intro b lb x2 H locs ls hf Z hl
    refine lv_iload_n F.1 F.2.1 dX6_darken_7 rfl (lv_at hl 1 rfl) ?_
    refine lv_aload_n F.1 F.2.1 dX6_darken_8 rfl (lv_at hl 0 rfl) ?_
    refine gf_X6_69 F E Z dX6_darken_9 ?_
    refine lv_icmp_ge (tgt := 57) F.1 F.2.1 dX6_darken_12 (by decide) (fun c_2 => ?_) (fun c_2 => ?_)
    · have hf := hf.1 c_2
      exact W.vret F.1 F.2.1 hr (fun t ht hW => ⟨⟨(b, lb), rfl, hf, Z.wd E ht hW⟩, Z.fr ht⟩) Z.2.2.2 dX6_darken_57
    · have hf := hf.2 c_2
      refine lv_aload_n F.1 F.2.1 dX6_darken_15 rfl (lv_at hl 0 rfl) ?_
      refine gf_X6_28 F E Z dX6_darken_16 ?_
      refine lv_iload_n F.1 F.2.1 dX6_darken_19 rfl (lv_at hl 1 rfl) ?_
      refine lv_aload_n F.1 F.2.1 dX6_darken_20 rfl (lv_at hl 0 rfl) ?_
      refine gf_X6_25 F E Z dX6_darken_21 ?_
      refine lv_iload_n F.1 F.2.1 dX6_darken_24 rfl (lv_at hl 1 rfl) ?_
      have hv3 := hf.1
      have hf := hf.2
      refine ig_iald (f := b 103) F E Z (by decide) (by rw [ig_mm_b _ _ (by decide)]; exact (ig_k_103 _ _ _ _ _ _)) hv3 dX6_darken_25 ?_
      refine lv_iconst (v := 1) F.1 F.2.1 dX6_darken_26 (by decide) ?_
      refine lv_icmp_ne (tgt := 37) F.1 F.2.1 dX6_darken_27 (by decide) (fun c_4 => ?_) (fun c_4 => ?_)
      · have hf := hf.1 c_4
        refine lv_aload_n F.1 F.2.1 dX6_darken_37 rfl (lv_at hl 0 rfl) ?_
        refine gf_X6_28 F E Z dX6_darken_38 ?_
        refine lv_iload_n F.1 F.2.1 dX6_darken_41 rfl (lv_at hl 1 rfl) ?_
        have hv5 := hf.1
        have hf := hf.2
        refine ig_iald (f := b 104) F E Z (by decide) (by rw [ig_mm_b _ _ (by decide)]; exact (ig_k_104 _ _ _ _ _ _)) hv5 dX6_darken_42 ?_
        exact wm_X6_darken_43 F E hr hk (fun (z0 : ig_M) (z1 : Int64) (z2 : Int32) => wp_X6_darken_7 post n z0 z1 z2) post ih b lb x2 (b 104 x2.toNatClampNeg) x2 _ _ _ hf Z (lv_sub hl [0, 1] rfl)
      · have hf := hf.2 c_4
        refine lv_aload_n F.1 F.2.1 dX6_darken_30 rfl (lv_at hl 0 rfl) ?_
        refine gf_X6_109 F E Z dX6_darken_31 ?_
        refine lv_goto (tgt := 43) F.1 F.2.1 dX6_darken_34 (by decide) ?_
        exact wm_X6_darken_43 F E hr hk (fun (z0 : ig_M) (z1 : Int64) (z2 : Int32) => wp_X6_darken_7 post n z0 z1 z2) post ih b lb x2 (b 97 11) x2 _ _ _ hf Z (lv_sub hl [0, 1] rfl)
set_option maxHeartbeats 4000000 in
set_option maxRecDepth 100000 in
theorem k_X6_darken (l : Launch) {D : va_G} {kk : Nat → ClassId} {ad : Nat → Nat} {bs : Nat} {a : ig_M} {la : Int64} {b : ig_M} {lb lo : Int64} (x1 : Int32) {post : ig_M → Int64 → Prop} (hf : wp_X6_darken b lb x1 post) : Met l yX6_darken (ig_ws yX6_darken cX6_darken 3 none) (k2_rm 0 0) (va_Pc [.ref (ad 97), .int x1] (ig_Wd D kk ad bs a la b lb lo)) (va_Qv (fun u : ig_M × Int64 => post u.1 u.2) (fun u t => ig_Wd D kk ad bs a la u.1 u.2 lo t) (ig_A bs)) 0 0 (ig_A bs) := by
  refine Met.ofW (cc := cX6_darken) (maxL := 3) (ret := none) (by decide) rfl ?_
  intro p e s m args below meth c s₁ B hml hv
  obtain ⟨rfl, E, hP⟩ := hv
  have hk := B.notSynchronized
  have hr := B.returns
  have F : CallFix p m c cX6_darken 3 s _ ig_all RX6 := ⟨B.exec, B.bytes, hml, findClass_of_methodNamed B.named, fun w hw => atoms_spec B.pre w (List.mem_cons_of_mem _ hw)⟩
  have Z : ig_Z D kk ad bs s s.heap [] a la b lb lo := ig_Z.rf hP
  have hl := lv_entry ([.ref (ad 97), .int x1]) (n := 3) (Nat.le_of_ble_eq_true rfl)
  rw [lg_entry_eq]
  generalize (lg_sl ([.ref (ad 97), .int x1]) ++ List.replicate (3 - (lg_sl ([.ref (ad 97), .int x1])).length) Slot.unset).toArray = ls at hl ⊢
  have hl : lv_has ls 3 [(0, .ref (ad 97)), (1, .int x1)] := hl
  refine lv_aload_n F.1 F.2.1 dX6_darken_0 rfl (lv_at hl 0 rfl) ?_
  refine lv_iload_n F.1 F.2.1 dX6_darken_1 rfl (lv_at hl 1 rfl) ?_
  refine pf_X6_103 F E Z dX6_darken_2 (fun H locs b1 hb1 Z => ?_)
  have hf := hf b1 hb1
  refine lv_iconst (v := 0) F.1 F.2.1 dX6_darken_5 (by decide) ?_
  refine lv_istore_n (lv' := [(2, .int 0), (0, .ref (ad 97)), (1, .int x1)]) F.1 F.2.1 dX6_darken_6 rfl hl (by decide) rfl (fun ls hl => ?_)
  obtain ⟨n1, hf⟩ := hf
  exact wm_X6_darken_7 F E hr hk post n1 b1 lb 0 _ _ _ hf Z (lv_sub hl [1, 0] rfl)
set_option maxHeartbeats 4000000 in
set_option maxRecDepth 100000 in
theorem wm_X6_stop_13 (F : CallFix p m c cX6_stop 1 s args ig_all RX6) (E : ig_E D kk ad bs s) (hr : meth.sig.returnType = none) (hk : meth.locks = false) (post : ig_M → Int64 → Prop) :
    ∀ (b : ig_M) (lb : Int64) (t0 : Int32) (H : Heap) (locs : List Loc) (ls : Array Slot), wp_X6_stop_13 post b lb t0 → ig_Z D kk ad bs s H locs a la b lb lo → lv_has ls 1 [(0, .ref (ad 97))] → W p l e (k2_rm 1 22) s m args below meth c H locs 0 0 (MQ below (va_Qv (fun u : ig_M × Int64 => post u.1 u.2) (fun u t => ig_Wd D kk ad bs a la u.1 u.2 lo t) (ig_A bs)) args s 0 0 (ig_A bs)) (F0 m 13 ls [.int t0, .ref (ad 97)]) := by
  intro b lb t0 H locs ls hf Z hl
  have hM := k_X6_goesWell l (D := D) (kk := kk) (ad := ad) (bs := bs) (a := a) (la := la) (b := b) (lb := lb) (lo := lo) t0 hf
  refine ig_calli E Z (ig_runV (As := [.int t0]) (rest := []) F E Z hl G_X6_83 hM (i := 97) (by decide) (ig_k_97 _ _ _ _ _ _) rfl rfl md_X6_goesWell rfl ⟨rfl, rfl⟩ ⟨Nat.le_of_ble_eq_true rfl, Nat.le_of_ble_eq_true rfl⟩ (Nat.le_of_ble_eq_true rfl) dX6_stop_13 ⟨Nat.le_of_ble_eq_true rfl, Nat.le_of_ble_eq_true rfl⟩) (fun r2 u H locs hf Z => ?_)
  obtain ⟨b3, lb4⟩ := u
  have Z : ig_Z D kk ad bs s H locs a la b3 lb4 lo := Z
  refine lv_if_eq (tgt := 24) F.1 F.2.1 dX6_stop_16 (by decide) (fun c_5 => ?_) (fun c_5 => ?_)
  · have hf := hf.1 c_5
    exact W.vret F.1 F.2.1 hr (fun t ht hW => ⟨⟨(b3, lb4), rfl, hf, Z.wd E ht hW⟩, Z.fr ht⟩) Z.2.2.2 dX6_stop_24
  · have hf := hf.2 c_5
    refine lv_aload_n F.1 F.2.1 dX6_stop_19 rfl (lv_at hl 0 rfl) ?_
    refine lv_iconst (v := 0) F.1 F.2.1 dX6_stop_20 (by decide) ?_
    have hM := k_X6_darken l (D := D) (kk := kk) (ad := ad) (bs := bs) (a := a) (la := la) (b := b3) (lb := lb4) (lo := lo) 0 hf
    refine ig_callv E Z (ig_runV (As := [.int 0]) (rest := []) F E Z hl G_X6_112 hM (i := 97) (by decide) (ig_k_97 _ _ _ _ _ _) rfl rfl md_X6_darken rfl ⟨rfl, rfl⟩ ⟨Nat.le_of_ble_eq_true rfl, Nat.le_of_ble_eq_true rfl⟩ (Nat.le_of_ble_eq_true rfl) dX6_stop_21 ⟨Nat.le_of_ble_eq_true rfl, Nat.le_of_ble_eq_true rfl⟩) (fun u H locs hf Z => ?_)
    obtain ⟨b6, lb7⟩ := u
    have Z : ig_Z D kk ad bs s H locs a la b6 lb7 lo := Z
    exact W.vret F.1 F.2.1 hr (fun t ht hW => ⟨⟨(b6, lb7), rfl, hf, Z.wd E ht hW⟩, Z.fr ht⟩) Z.2.2.2 dX6_stop_24
set_option maxHeartbeats 4000000 in
set_option maxRecDepth 100000 in
theorem k_X6_stop (l : Launch) {D : va_G} {kk : Nat → ClassId} {ad : Nat → Nat} {bs : Nat} {a : ig_M} {la : Int64} {b : ig_M} {lb lo : Int64} {post : ig_M → Int64 → Prop} (hf : wp_X6_stop b lb post) : Met l yX6_stop (ig_ws yX6_stop cX6_stop 1 none) (k2_rm 1 22) (va_Pc [.ref (ad 97)] (ig_Wd D kk ad bs a la b lb lo)) (va_Qv (fun u : ig_M × Int64 => post u.1 u.2) (fun u t => ig_Wd D kk ad bs a la u.1 u.2 lo t) (ig_A bs)) 0 0 (ig_A bs) := by
  refine Met.ofW (cc := cX6_stop) (maxL := 1) (ret := none) (by decide) rfl ?_
  intro p e s m args below meth c s₁ B hml hv
  obtain ⟨rfl, E, hP⟩ := hv
  have hk := B.notSynchronized
  have hr := B.returns
  have F : CallFix p m c cX6_stop 1 s _ ig_all RX6 := ⟨B.exec, B.bytes, hml, findClass_of_methodNamed B.named, fun w hw => atoms_spec B.pre w (List.mem_cons_of_mem _ hw)⟩
  have Z : ig_Z D kk ad bs s s.heap [] a la b lb lo := ig_Z.rf hP
  have hl := lv_entry ([.ref (ad 97)]) (n := 1) (Nat.le_of_ble_eq_true rfl)
  rw [lg_entry_eq]
  generalize (lg_sl ([.ref (ad 97)]) ++ List.replicate (1 - (lg_sl ([.ref (ad 97)])).length) Slot.unset).toArray = ls at hl ⊢
  have hl : lv_has ls 1 [(0, .ref (ad 97))] := hl
  refine lv_aload_n F.1 F.2.1 dX6_stop_0 rfl (lv_at hl 0 rfl) ?_
  refine lv_aload_n F.1 F.2.1 dX6_stop_1 rfl (lv_at hl 0 rfl) ?_
  refine gf_X6_103 F E Z dX6_stop_2 ?_
  refine lv_if_ne (tgt := 12) F.1 F.2.1 dX6_stop_5 (by decide) (fun c_1 => ?_) (fun c_1 => ?_)
  · have hf := hf.1 c_1
    refine lv_iconst (v := 0) F.1 F.2.1 dX6_stop_12 (by decide) ?_
    exact wm_X6_stop_13 F E hr hk post b lb 0 _ _ _ hf Z (lv_sub hl [0] rfl)
  · have hf := hf.2 c_1
    refine lv_iconst (v := 1) F.1 F.2.1 dX6_stop_8 (by decide) ?_
    refine lv_goto (tgt := 13) F.1 F.2.1 dX6_stop_9 (by decide) ?_
    exact wm_X6_stop_13 F E hr hk post b lb 1 _ _ _ hf Z (lv_sub hl [0] rfl)
set_option maxHeartbeats 4000000 in
set_option maxRecDepth 100000 in
theorem k_X6_isDemanded (l : Launch) {D : va_G} {kk : Nat → ClassId} {ad : Nat → Nat} {bs : Nat} {a : ig_M} {la : Int64} {b : ig_M} {lb lo : Int64} (x1 : Int32) {post : Int32 → Prop} (hf : wp_X6_isDemanded b lb x1 post) : Met l yX6_isDemanded (ig_ws yX6_isDemanded cX6_isDemanded 2 (some .boolean)) (k2_rm 0 0) (va_Pc [.ref (ad 97), .int x1] (ig_Wd D kk ad bs a la b lb lo)) (va_Qi (fun (r : Int32) (_ : Unit) => post r) (fun _ t => ig_Wd D kk ad bs a la b lb lo t) (ig_A bs)) 0 0 (ig_A bs) := by
  refine Met.ofW (cc := cX6_isDemanded) (maxL := 2) (ret := (some .boolean)) (by decide) rfl ?_
  intro p e s m args below meth c s₁ B hml hv
  obtain ⟨rfl, E, hP⟩ := hv
  have hk := B.notSynchronized
  have hr := B.returns
  have F : CallFix p m c cX6_isDemanded 2 s _ ig_all RX6 := ⟨B.exec, B.bytes, hml, findClass_of_methodNamed B.named, fun w hw => atoms_spec B.pre w (List.mem_cons_of_mem _ hw)⟩
  have Z : ig_Z D kk ad bs s s.heap [] a la b lb lo := ig_Z.rf hP
  have hl := lv_entry ([.ref (ad 97), .int x1]) (n := 2) (Nat.le_of_ble_eq_true rfl)
  rw [lg_entry_eq]
  generalize (lg_sl ([.ref (ad 97), .int x1]) ++ List.replicate (2 - (lg_sl ([.ref (ad 97), .int x1])).length) Slot.unset).toArray = ls at hl ⊢
  have hl : lv_has ls 2 [(0, .ref (ad 97)), (1, .int x1)] := hl
  refine lv_aload_n F.1 F.2.1 dX6_isDemanded_0 rfl (lv_at hl 0 rfl) ?_
  refine gf_X6_25 F E Z dX6_isDemanded_1 ?_
  refine lv_iload_n F.1 F.2.1 dX6_isDemanded_4 rfl (lv_at hl 1 rfl) ?_
  have hv1 := hf.1
  have hf := hf.2
  refine ig_iald (f := b 103) F E Z (by decide) (by rw [ig_mm_b _ _ (by decide)]; exact (ig_k_103 _ _ _ _ _ _)) hv1 dX6_isDemanded_5 ?_
  refine lv_iconst (v := 1) F.1 F.2.1 dX6_isDemanded_6 (by decide) ?_
  refine lv_icmp_eq (tgt := 32) F.1 F.2.1 dX6_isDemanded_7 (by decide) (fun c_2 => ?_) (fun c_2 => ?_)
  · have hf := hf.1 c_2
    refine lv_iconst (v := 0) F.1 F.2.1 dX6_isDemanded_32 (by decide) ?_
    exact W.zret (v := 0) F.1 F.2.1 hr (ig_narrow (Or.inl rfl)) (fun t ht hW => ⟨⟨_, (), rfl, hf, Z.wd E ht hW⟩, Z.fr ht⟩) Z.2.2.2 dX6_isDemanded_33
  · have hf := hf.2 c_2
    refine lv_aload_n F.1 F.2.1 dX6_isDemanded_10 rfl (lv_at hl 0 rfl) ?_
    refine gf_X6_46 F E Z dX6_isDemanded_11 ?_
    refine lv_iload_n F.1 F.2.1 dX6_isDemanded_14 rfl (lv_at hl 1 rfl) ?_
    have hv3 := hf.1
    have hf := hf.2
    refine ig_zald (f := b 110) F E Z (by decide) (by rw [ig_mm_b _ _ (by decide)]; exact (ig_k_110 _ _ _ _ _ _)) hv3 dX6_isDemanded_15 ?_
    refine lv_if_ne (tgt := 28) F.1 F.2.1 dX6_isDemanded_16 (by decide) (fun c_4 => ?_) (fun c_4 => ?_)
    · have hf := hf.1 c_4
      refine lv_iconst (v := 1) F.1 F.2.1 dX6_isDemanded_28 (by decide) ?_
      refine lv_goto (tgt := 33) F.1 F.2.1 dX6_isDemanded_29 (by decide) ?_
      exact W.zret (v := 1) F.1 F.2.1 hr (ig_narrow (Or.inr rfl)) (fun t ht hW => ⟨⟨_, (), rfl, hf, Z.wd E ht hW⟩, Z.fr ht⟩) Z.2.2.2 dX6_isDemanded_33
    · have hf := hf.2 c_4
      refine lv_aload_n F.1 F.2.1 dX6_isDemanded_19 rfl (lv_at hl 0 rfl) ?_
      refine gf_X6_37 F E Z dX6_isDemanded_20 ?_
      refine lv_iload_n F.1 F.2.1 dX6_isDemanded_23 rfl (lv_at hl 1 rfl) ?_
      have hv5 := hf.1
      have hf := hf.2
      refine ig_iald (f := b 107) F E Z (by decide) (by rw [ig_mm_b _ _ (by decide)]; exact (ig_k_107 _ _ _ _ _ _)) hv5 dX6_isDemanded_24 ?_
      refine lv_if_le (tgt := 32) F.1 F.2.1 dX6_isDemanded_25 (by decide) (fun c_6 => ?_) (fun c_6 => ?_)
      · have hf := hf.1 c_6
        refine lv_iconst (v := 0) F.1 F.2.1 dX6_isDemanded_32 (by decide) ?_
        exact W.zret (v := 0) F.1 F.2.1 hr (ig_narrow (Or.inl rfl)) (fun t ht hW => ⟨⟨_, (), rfl, hf, Z.wd E ht hW⟩, Z.fr ht⟩) Z.2.2.2 dX6_isDemanded_33
      · have hf := hf.2 c_6
        refine lv_iconst (v := 1) F.1 F.2.1 dX6_isDemanded_28 (by decide) ?_
        refine lv_goto (tgt := 33) F.1 F.2.1 dX6_isDemanded_29 (by decide) ?_
        exact W.zret (v := 1) F.1 F.2.1 hr (ig_narrow (Or.inr rfl)) (fun t ht hW => ⟨⟨_, (), rfl, hf, Z.wd E ht hW⟩, Z.fr ht⟩) Z.2.2.2 dX6_isDemanded_33
set_option maxHeartbeats 4000000 in
set_option maxRecDepth 100000 in
theorem wm_X6_press_51 (F : CallFix p m c cX6_press 2 s args ig_all RX6) (E : ig_E D kk ad bs s) (hr : meth.sig.returnType = (some .boolean)) (hk : meth.locks = false) (post : Int32 → ig_M → Int64 → Prop) :
    ∀ (b : ig_M) (lb : Int64) (x1 : Int32) (t0 : Int32) (t1 : Int32) (H : Heap) (locs : List Loc) (ls : Array Slot), wp_X6_press_51 post b lb x1 t0 t1 → ig_Z D kk ad bs s H locs a la b lb lo → lv_has ls 2 [(0, .ref (ad 97)), (1, .int x1)] → W p l e (k2_rm 2 43) s m args below meth c H locs 0 0 (MQ below (va_Qi (fun (r : Int32) (u : ig_M × Int64) => post r u.1 u.2) (fun u t => ig_Wd D kk ad bs a la u.1 u.2 lo t) (ig_A bs)) args s 0 0 (ig_A bs)) (F0 m 51 ls [.int t0, .int t1, .ref (ad 110)]) := by
  intro b lb x1 t0 t1 H locs ls hf Z hl
  have hv11 := hf.1
  have hf := hf.2
  refine ig_zastB (n := 8) F E Z (by decide) (by decide) (fun r => ig_k_110 _ _ _ _ _ r) hv11 dX6_press_51 (fun H locs b12 hb12 Z => ?_)
  have hf := hf b12 hb12
  refine lv_aload_n F.1 F.2.1 dX6_press_52 rfl (lv_at hl 0 rfl) ?_
  refine lv_iload_n F.1 F.2.1 dX6_press_53 rfl (lv_at hl 1 rfl) ?_
  have hM := k_X6_isDemanded l (D := D) (kk := kk) (ad := ad) (bs := bs) (a := a) (la := la) (b := b12) (lb := lb) (lo := lo) x1 hf
  refine ig_calli E Z (ig_runV (As := [.int x1]) (rest := []) F E Z hl G_X6_116 hM (i := 97) (by decide) (ig_k_97 _ _ _ _ _ _) rfl rfl md_X6_isDemanded rfl ⟨rfl, rfl⟩ ⟨Nat.le_of_ble_eq_true rfl, Nat.le_of_ble_eq_true rfl⟩ (Nat.le_of_ble_eq_true rfl) dX6_press_54 ⟨Nat.le_of_ble_eq_true rfl, Nat.le_of_ble_eq_true rfl⟩) (fun r13 u H locs hf Z => ?_)
  exact W.zret (v := r13) F.1 F.2.1 hr (ig_narrow hf.1) (fun t ht hW => ⟨⟨_, (b12, lb), rfl, hf.2, Z.wd E ht hW⟩, Z.fr ht⟩) Z.2.2.2 dX6_press_57
set_option maxHeartbeats 4000000 in
set_option maxRecDepth 100000 in
theorem wm_X6_press_46 (F : CallFix p m c cX6_press 2 s args ig_all RX6) (E : ig_E D kk ad bs s) (hr : meth.sig.returnType = (some .boolean)) (hk : meth.locks = false) (k_51 : ig_M → Int64 → Int32 → Int32 → Int32 → Prop) (post : Int32 → ig_M → Int64 → Prop) (h_51 : ∀ (b : ig_M) (lb : Int64) (x1 : Int32) (t0 : Int32) (t1 : Int32) (H : Heap) (locs : List Loc) (ls : Array Slot), k_51 b lb x1 t0 t1 → ig_Z D kk ad bs s H locs a la b lb lo → lv_has ls 2 [(0, .ref (ad 97)), (1, .int x1)] → W p l e (k2_rm 2 43) s m args below meth c H locs 0 0 (MQ below (va_Qi (fun (r : Int32) (u : ig_M × Int64) => post r u.1 u.2) (fun u t => ig_Wd D kk ad bs a la u.1 u.2 lo t) (ig_A bs)) args s 0 0 (ig_A bs)) (F0 m 51 ls [.int t0, .int t1, .ref (ad 110)])) :
    ∀ (b : ig_M) (lb : Int64) (x1 : Int32) (t0 : Int32) (H : Heap) (locs : List Loc) (ls : Array Slot), wp_X6_press_46 k_51 post b lb x1 t0 → ig_Z D kk ad bs s H locs a la b lb lo → lv_has ls 2 [(0, .ref (ad 97)), (1, .int x1)] → W p l e (k2_rm 2 43) s m args below meth c H locs 0 0 (MQ below (va_Qi (fun (r : Int32) (u : ig_M × Int64) => post r u.1 u.2) (fun u t => ig_Wd D kk ad bs a la u.1 u.2 lo t) (ig_A bs)) args s 0 0 (ig_A bs)) (F0 m 46 ls [.int t0, .ref (ad 110)]) := by
  intro b lb x1 t0 H locs ls hf Z hl
  refine lv_iconst (v := 1) F.1 F.2.1 dX6_press_46 (by decide) ?_
  refine lv_goto (tgt := 51) F.1 F.2.1 dX6_press_47 (by decide) ?_
  exact h_51 b lb x1 1 t0 _ _ _ hf Z (lv_sub hl [0, 1] rfl)
set_option maxHeartbeats 4000000 in
set_option maxRecDepth 100000 in
theorem wm_X6_press_14 (F : CallFix p m c cX6_press 2 s args ig_all RX6) (E : ig_E D kk ad bs s) (hr : meth.sig.returnType = (some .boolean)) (hk : meth.locks = false) (post : Int32 → ig_M → Int64 → Prop) :
    ∀ (b : ig_M) (lb : Int64) (x1 : Int32) (t0 : Int32) (H : Heap) (locs : List Loc) (ls : Array Slot), wp_X6_press_14 post b lb x1 t0 → ig_Z D kk ad bs s H locs a la b lb lo → lv_has ls 2 [(0, .ref (ad 97)), (1, .int x1)] → W p l e (k2_rm 2 43) s m args below meth c H locs 0 0 (MQ below (va_Qi (fun (r : Int32) (u : ig_M × Int64) => post r u.1 u.2) (fun u t => ig_Wd D kk ad bs a la u.1 u.2 lo t) (ig_A bs)) args s 0 0 (ig_A bs)) (F0 m 14 ls [.int t0, .ref (ad 97)]) := by
  intro b lb x1 t0 H locs ls hf Z hl
  have hM := k_X6_goesWell l (D := D) (kk := kk) (ad := ad) (bs := bs) (a := a) (la := la) (b := b) (lb := lb) (lo := lo) t0 hf
  refine ig_calli E Z (ig_runV (As := [.int t0]) (rest := []) F E Z hl G_X6_83 hM (i := 97) (by decide) (ig_k_97 _ _ _ _ _ _) rfl rfl md_X6_goesWell rfl ⟨rfl, rfl⟩ ⟨Nat.le_of_ble_eq_true rfl, Nat.le_of_ble_eq_true rfl⟩ (Nat.le_of_ble_eq_true rfl) dX6_press_14 ⟨Nat.le_of_ble_eq_true rfl, Nat.le_of_ble_eq_true rfl⟩) (fun r3 u H locs hf Z => ?_)
  obtain ⟨b4, lb5⟩ := u
  have Z : ig_Z D kk ad bs s H locs a la b4 lb5 lo := Z
  refine lv_if_ne (tgt := 22) F.1 F.2.1 dX6_press_17 (by decide) (fun c_6 => ?_) (fun c_6 => ?_)
  · have hf := hf.1 c_6
    refine lv_aload_n F.1 F.2.1 dX6_press_22 rfl (lv_at hl 0 rfl) ?_
    refine gf_X6_46 F E Z dX6_press_23 ?_
    refine lv_iload_n F.1 F.2.1 dX6_press_26 rfl (lv_at hl 1 rfl) ?_
    refine lv_aload_n F.1 F.2.1 dX6_press_27 rfl (lv_at hl 0 rfl) ?_
    refine gf_X6_46 F E Z dX6_press_28 ?_
    refine lv_iload_n F.1 F.2.1 dX6_press_31 rfl (lv_at hl 1 rfl) ?_
    have hv7 := hf.1
    have hf := hf.2
    refine ig_zald (f := b4 110) F E Z (by decide) (by rw [ig_mm_b _ _ (by decide)]; exact (ig_k_110 _ _ _ _ _ _)) hv7 dX6_press_32 ?_
    refine lv_if_ne (tgt := 46) F.1 F.2.1 dX6_press_33 (by decide) (fun c_8 => ?_) (fun c_8 => ?_)
    · have hf := hf.1 c_8
      exact wm_X6_press_46 F E hr hk (wp_X6_press_51 post) post (fun v0 v1 v2 v3 v4 H locs ls  hf Z hl => wm_X6_press_51 F E hr hk post v0 v1 v2 v3 v4 H locs ls  hf Z hl) b4 lb5 x1 x1 _ _ _ hf Z (lv_sub hl [0, 1] rfl)
    · have hf := hf.2 c_8
      refine lv_aload_n F.1 F.2.1 dX6_press_36 rfl (lv_at hl 0 rfl) ?_
      refine gf_X6_25 F E Z dX6_press_37 ?_
      refine lv_iload_n F.1 F.2.1 dX6_press_40 rfl (lv_at hl 1 rfl) ?_
      have hv9 := hf.1
      have hf := hf.2
      refine ig_iald (f := b4 103) F E Z (by decide) (by rw [ig_mm_b _ _ (by decide)]; exact (ig_k_103 _ _ _ _ _ _)) hv9 dX6_press_41 ?_
      refine lv_iconst (v := 1) F.1 F.2.1 dX6_press_42 (by decide) ?_
      refine lv_icmp_eq (tgt := 50) F.1 F.2.1 dX6_press_43 (by decide) (fun c_10 => ?_) (fun c_10 => ?_)
      · have hf := hf.1 c_10
        refine lv_iconst (v := 0) F.1 F.2.1 dX6_press_50 (by decide) ?_
        exact wm_X6_press_51 F E hr hk post b4 lb5 x1 0 x1 _ _ _ hf Z (lv_sub hl [0, 1] rfl)
      · have hf := hf.2 c_10
        exact wm_X6_press_46 F E hr hk (wp_X6_press_51 post) post (fun v0 v1 v2 v3 v4 H locs ls  hf Z hl => wm_X6_press_51 F E hr hk post v0 v1 v2 v3 v4 H locs ls  hf Z hl) b4 lb5 x1 x1 _ _ _ hf Z (lv_sub hl [0, 1] rfl)
  · have hf := hf.2 c_6
    refine lv_iconst (v := 0) F.1 F.2.1 dX6_press_20 (by decide) ?_
    exact W.zret (v := 0) F.1 F.2.1 hr (ig_narrow (Or.inl rfl)) (fun t ht hW => ⟨⟨_, (b4, lb5), rfl, hf, Z.wd E ht hW⟩, Z.fr ht⟩) Z.2.2.2 dX6_press_21
set_option maxHeartbeats 4000000 in
set_option maxRecDepth 100000 in
theorem k_X6_press (l : Launch) {D : va_G} {kk : Nat → ClassId} {ad : Nat → Nat} {bs : Nat} {a : ig_M} {la : Int64} {b : ig_M} {lb lo : Int64} (x1 : Int32) {post : Int32 → ig_M → Int64 → Prop} (hf : wp_X6_press b lb x1 post) : Met l yX6_press (ig_ws yX6_press cX6_press 2 (some .boolean)) (k2_rm 2 43) (va_Pc [.ref (ad 97), .int x1] (ig_Wd D kk ad bs a la b lb lo)) (va_Qi (fun (r : Int32) (u : ig_M × Int64) => post r u.1 u.2) (fun u t => ig_Wd D kk ad bs a la u.1 u.2 lo t) (ig_A bs)) 0 0 (ig_A bs) := by
  refine Met.ofW (cc := cX6_press) (maxL := 2) (ret := (some .boolean)) (by decide) rfl ?_
  intro p e s m args below meth c s₁ B hml hv
  obtain ⟨rfl, E, hP⟩ := hv
  have hk := B.notSynchronized
  have hr := B.returns
  have F : CallFix p m c cX6_press 2 s _ ig_all RX6 := ⟨B.exec, B.bytes, hml, findClass_of_methodNamed B.named, fun w hw => atoms_spec B.pre w (List.mem_cons_of_mem _ hw)⟩
  have Z : ig_Z D kk ad bs s s.heap [] a la b lb lo := ig_Z.rf hP
  have hl := lv_entry ([.ref (ad 97), .int x1]) (n := 2) (Nat.le_of_ble_eq_true rfl)
  rw [lg_entry_eq]
  generalize (lg_sl ([.ref (ad 97), .int x1]) ++ List.replicate (2 - (lg_sl ([.ref (ad 97), .int x1])).length) Slot.unset).toArray = ls at hl ⊢
  have hl : lv_has ls 2 [(0, .ref (ad 97)), (1, .int x1)] := hl
  refine lv_aload_n F.1 F.2.1 dX6_press_0 rfl (lv_at hl 0 rfl) ?_
  refine lv_aload_n F.1 F.2.1 dX6_press_1 rfl (lv_at hl 0 rfl) ?_
  refine lv_iload_n F.1 F.2.1 dX6_press_2 rfl (lv_at hl 1 rfl) ?_
  have hM := k_X6_isPhase l (D := D) (kk := kk) (ad := ad) (bs := bs) (a := a) (la := la) (b := b) (lb := lb) (lo := lo) x1 hf
  refine ig_calli E Z (ig_runV (As := [.int x1]) (rest := [.ref (ad 97)]) F E Z hl G_X6_91 hM (i := 97) (by decide) (ig_k_97 _ _ _ _ _ _) rfl rfl md_X6_isPhase rfl ⟨rfl, rfl⟩ ⟨Nat.le_of_ble_eq_true rfl, Nat.le_of_ble_eq_true rfl⟩ (Nat.le_of_ble_eq_true rfl) dX6_press_3 ⟨Nat.le_of_ble_eq_true rfl, Nat.le_of_ble_eq_true rfl⟩) (fun r1 u H locs hf Z => ?_)
  refine lv_if_eq (tgt := 13) F.1 F.2.1 dX6_press_6 (by decide) (fun c_2 => ?_) (fun c_2 => ?_)
  · have hf := hf.1 c_2
    refine lv_iconst (v := 1) F.1 F.2.1 dX6_press_13 (by decide) ?_
    exact wm_X6_press_14 F E hr hk post b lb x1 1 _ _ _ hf Z (lv_sub hl [0, 1] rfl)
  · have hf := hf.2 c_2
    refine lv_iconst (v := 0) F.1 F.2.1 dX6_press_9 (by decide) ?_
    refine lv_goto (tgt := 14) F.1 F.2.1 dX6_press_10 (by decide) ?_
    exact wm_X6_press_14 F E hr hk post b lb x1 0 _ _ _ hf Z (lv_sub hl [0, 1] rfl)
set_option maxHeartbeats 4000000 in
set_option maxRecDepth 100000 in
theorem wm_X6_arrive_52 (F : CallFix p m c cX6_arrive 5 s args ig_all RX6) (E : ig_E D kk ad bs s) (hr : meth.sig.returnType = (some .int)) (hk : meth.locks = false) (post : Int32 → ig_M → Int64 → Prop) :
    ∀ (b : ig_M) (lb : Int64) (x1 : Int32) (x2 : Int32) (t0 : Int32) (H : Heap) (locs : List Loc) (ls : Array Slot), wp_X6_arrive_52 post b lb x1 x2 t0 → ig_Z D kk ad bs s H locs a la b lb lo → lv_has ls 5 [(0, .ref (ad 97)), (1, .int x1), (2, .int x2)] → W p l e (k2_rm 2 43) s m args below meth c H locs 0 0 (MQ below (va_Qi (fun (r : Int32) (u : ig_M × Int64) => post r u.1 u.2) (fun u t => ig_Wd D kk ad bs a la u.1 u.2 lo t) (ig_A bs)) args s 0 0 (ig_A bs)) (F0 m 52 ls [.int t0, .ref (ad 97)]) := by
  intro b lb x1 x2 t0 H locs ls hf Z hl
  have hM := k_X6_goesWell l (D := D) (kk := kk) (ad := ad) (bs := bs) (a := a) (la := la) (b := b) (lb := lb) (lo := lo) t0 hf
  refine ig_calli E Z (ig_runV (As := [.int t0]) (rest := []) F E Z hl G_X6_83 hM (i := 97) (by decide) (ig_k_97 _ _ _ _ _ _) rfl rfl md_X6_goesWell rfl ⟨rfl, rfl⟩ ⟨Nat.le_of_ble_eq_true rfl, Nat.le_of_ble_eq_true rfl⟩ (Nat.le_of_ble_eq_true rfl) dX6_arrive_52 ⟨Nat.le_of_ble_eq_true rfl, Nat.le_of_ble_eq_true rfl⟩) (fun r7 u H locs hf Z => ?_)
  obtain ⟨b8, lb9⟩ := u
  have Z : ig_Z D kk ad bs s H locs a la b8 lb9 lo := Z
  refine lv_if_ne (tgt := 60) F.1 F.2.1 dX6_arrive_55 (by decide) (fun c_10 => ?_) (fun c_10 => ?_)
  · have hf := hf.1 c_10
    refine lv_aload_n F.1 F.2.1 dX6_arrive_60 rfl (lv_at hl 0 rfl) ?_
    refine gf_X6_37 F E Z dX6_arrive_61 ?_
    refine lv_iload_n F.1 F.2.1 dX6_arrive_64 rfl (lv_at hl 1 rfl) ?_
    refine lv_dup2_11 F.1 F.2.1 dX6_arrive_65 rfl rfl ?_
    have hv11 := hf.1
    have hf := hf.2
    refine ig_iald (f := b8 107) F E Z (by decide) (by rw [ig_mm_b _ _ (by decide)]; exact (ig_k_107 _ _ _ _ _ _)) hv11 dX6_arrive_66 ?_
    refine lv_iload_n F.1 F.2.1 dX6_arrive_67 rfl (lv_at hl 2 rfl) ?_
    refine lv_iadd F.1 F.2.1 dX6_arrive_68 ?_
    have hv12 := hf.1
    have hf := hf.2
    refine ig_iastB (n := 8) F E Z (by decide) (by decide) (fun r => ig_k_107 _ _ _ _ _ r) hv12 dX6_arrive_69 (fun H locs b13 hb13 Z => ?_)
    have hf := hf b13 hb13
    refine lv_aload_n F.1 F.2.1 dX6_arrive_70 rfl (lv_at hl 0 rfl) ?_
    refine gf_X6_37 F E Z dX6_arrive_71 ?_
    refine lv_iload_n F.1 F.2.1 dX6_arrive_74 rfl (lv_at hl 1 rfl) ?_
    have hv14 := hf.1
    have hf := hf.2
    refine ig_iald (f := b13 107) F E Z (by decide) (by rw [ig_mm_b _ _ (by decide)]; exact (ig_k_107 _ _ _ _ _ _)) hv14 dX6_arrive_75 ?_
    exact W.iret (v := b13 107 x1.toNatClampNeg) F.1 F.2.1 hr (fun t ht hW => ⟨⟨_, (b13, lb9), rfl, hf, Z.wd E ht hW⟩, Z.fr ht⟩) Z.2.2.2 dX6_arrive_76
  · have hf := hf.2 c_10
    refine lv_iconst (v := 0) F.1 F.2.1 dX6_arrive_58 (by decide) ?_
    exact W.iret (v := 0) F.1 F.2.1 hr (fun t ht hW => ⟨⟨_, (b8, lb9), rfl, hf, Z.wd E ht hW⟩, Z.fr ht⟩) Z.2.2.2 dX6_arrive_59
set_option maxHeartbeats 4000000 in
set_option maxRecDepth 100000 in
theorem k_X6_arrive (l : Launch) {D : va_G} {kk : Nat → ClassId} {ad : Nat → Nat} {bs : Nat} {a : ig_M} {la : Int64} {b : ig_M} {lb lo : Int64} (x1 : Int32) (x2 : Int32) {post : Int32 → ig_M → Int64 → Prop} (hf : wp_X6_arrive b lb x1 x2 post) : Met l yX6_arrive (ig_ws yX6_arrive cX6_arrive 5 (some .int)) (k2_rm 2 43) (va_Pc [.ref (ad 97), .int x1, .int x2] (ig_Wd D kk ad bs a la b lb lo)) (va_Qi (fun (r : Int32) (u : ig_M × Int64) => post r u.1 u.2) (fun u t => ig_Wd D kk ad bs a la u.1 u.2 lo t) (ig_A bs)) 0 0 (ig_A bs) := by
  refine Met.ofW (cc := cX6_arrive) (maxL := 5) (ret := (some .int)) (by decide) rfl ?_
  intro p e s m args below meth c s₁ B hml hv
  obtain ⟨rfl, E, hP⟩ := hv
  have hk := B.notSynchronized
  have hr := B.returns
  have F : CallFix p m c cX6_arrive 5 s _ ig_all RX6 := ⟨B.exec, B.bytes, hml, findClass_of_methodNamed B.named, fun w hw => atoms_spec B.pre w (List.mem_cons_of_mem _ hw)⟩
  have Z : ig_Z D kk ad bs s s.heap [] a la b lb lo := ig_Z.rf hP
  have hl := lv_entry ([.ref (ad 97), .int x1, .int x2]) (n := 5) (Nat.le_of_ble_eq_true rfl)
  rw [lg_entry_eq]
  generalize (lg_sl ([.ref (ad 97), .int x1, .int x2]) ++ List.replicate (5 - (lg_sl ([.ref (ad 97), .int x1, .int x2])).length) Slot.unset).toArray = ls at hl ⊢
  have hl : lv_has ls 5 [(0, .ref (ad 97)), (1, .int x1), (2, .int x2)] := hl
  refine lv_aload_n F.1 F.2.1 dX6_arrive_0 rfl (lv_at hl 0 rfl) ?_
  refine lv_iload_n F.1 F.2.1 dX6_arrive_1 rfl (lv_at hl 1 rfl) ?_
  have hM := k_X6_isPhase l (D := D) (kk := kk) (ad := ad) (bs := bs) (a := a) (la := la) (b := b) (lb := lb) (lo := lo) x1 hf
  refine ig_calli E Z (ig_runV (As := [.int x1]) (rest := []) F E Z hl G_X6_91 hM (i := 97) (by decide) (ig_k_97 _ _ _ _ _ _) rfl rfl md_X6_isPhase rfl ⟨rfl, rfl⟩ ⟨Nat.le_of_ble_eq_true rfl, Nat.le_of_ble_eq_true rfl⟩ (Nat.le_of_ble_eq_true rfl) dX6_arrive_2 ⟨Nat.le_of_ble_eq_true rfl, Nat.le_of_ble_eq_true rfl⟩) (fun r1 u H locs hf Z => ?_)
  refine lv_istore_n (lv' := [(3, .int r1), (0, .ref (ad 97)), (1, .int x1), (2, .int x2)]) F.1 F.2.1 dX6_arrive_5 rfl hl (by decide) rfl (fun ls hl => ?_)
  refine lv_iload_n F.1 F.2.1 dX6_arrive_6 rfl (lv_at hl 3 rfl) ?_
  refine lv_iconst (v := 1) F.1 F.2.1 dX6_arrive_7 (by decide) ?_
  refine lv_bipush (v := 50) F.1 F.2.1 dX6_arrive_8 (by decide) ?_
  have hM := k_X6_in l (D := D) (kk := kk) (ad := ad) (bs := bs) (a := a) (la := la) (b := b) (lb := lb) (lo := lo) x2 1 50 hf
  refine ig_calli E Z (ig_runS (As := [.int x2, .int 1, .int 50]) (rest := []) F E Z hl G_X6_72 hM rfl md_X6_in rfl ⟨rfl, rfl⟩ ⟨Nat.le_of_ble_eq_true rfl, Nat.le_of_ble_eq_true rfl⟩ (Nat.le_of_ble_eq_true rfl) dX6_arrive_10 ⟨Nat.le_of_ble_eq_true rfl, Nat.le_of_ble_eq_true rfl⟩) (fun r2 u H locs hf Z => ?_)
  refine lv_istore (lv' := [(4, .int r2), (3, .int r1), (0, .ref (ad 97)), (1, .int x1), (2, .int x2)]) F.1 F.2.1 dX6_arrive_13 hl (by decide) rfl (fun ls hl => ?_)
  refine lv_aload_n F.1 F.2.1 dX6_arrive_15 rfl (lv_at hl 2 rfl) ?_
  refine lv_iload_n F.1 F.2.1 dX6_arrive_16 rfl (lv_at hl 1 rfl) ?_
  refine lv_if_ne (tgt := 24) F.1 F.2.1 dX6_arrive_17 (by decide) (fun c_3 => ?_) (fun c_3 => ?_)
  · have hf := hf.1 c_3
    refine lv_iload F.1 F.2.1 dX6_arrive_24 (lv_at hl 0 rfl) ?_
    refine lv_if_ne (tgt := 33) F.1 F.2.1 dX6_arrive_26 (by decide) (fun c_4 => ?_) (fun c_4 => ?_)
    · have hf := hf.1 c_4
      refine lv_aload_n F.1 F.2.1 dX6_arrive_33 rfl (lv_at hl 2 rfl) ?_
      refine gf_X6_37 F E Z dX6_arrive_34 ?_
      refine lv_iload_n F.1 F.2.1 dX6_arrive_37 rfl (lv_at hl 3 rfl) ?_
      have hv5 := hf.1
      have hf := hf.2
      refine ig_iald (f := b 107) F E Z (by decide) (by rw [ig_mm_b _ _ (by decide)]; exact (ig_k_107 _ _ _ _ _ _)) hv5 dX6_arrive_38 ?_
      refine lv_iload_n F.1 F.2.1 dX6_arrive_39 rfl (lv_at hl 4 rfl) ?_
      refine lv_iadd F.1 F.2.1 dX6_arrive_40 ?_
      refine lv_sipush (v := 1000) F.1 F.2.1 dX6_arrive_41 (by decide) ?_
      refine lv_icmp_le (tgt := 51) F.1 F.2.1 dX6_arrive_44 (by decide) (fun c_6 => ?_) (fun c_6 => ?_)
      · have hf := hf.1 c_6
        refine lv_iconst (v := 0) F.1 F.2.1 dX6_arrive_51 (by decide) ?_
        exact wm_X6_arrive_52 F E hr hk post b lb x1 x2 0 _ _ _ hf Z (lv_sub hl [2, 3, 4] rfl)
      · have hf := hf.2 c_6
        refine lv_iconst (v := 3) F.1 F.2.1 dX6_arrive_47 (by decide) ?_
        refine lv_goto (tgt := 52) F.1 F.2.1 dX6_arrive_48 (by decide) ?_
        exact wm_X6_arrive_52 F E hr hk post b lb x1 x2 3 _ _ _ hf Z (lv_sub hl [2, 3, 4] rfl)
    · have hf := hf.2 c_4
      refine lv_iconst (v := 2) F.1 F.2.1 dX6_arrive_29 (by decide) ?_
      refine lv_goto (tgt := 52) F.1 F.2.1 dX6_arrive_30 (by decide) ?_
      exact wm_X6_arrive_52 F E hr hk post b lb x1 x2 2 _ _ _ hf Z (lv_sub hl [2, 3, 4] rfl)
  · have hf := hf.2 c_3
    refine lv_iconst (v := 1) F.1 F.2.1 dX6_arrive_20 (by decide) ?_
    refine lv_goto (tgt := 52) F.1 F.2.1 dX6_arrive_21 (by decide) ?_
    exact wm_X6_arrive_52 F E hr hk post b lb x1 x2 1 _ _ _ hf Z (lv_sub hl [2, 3, 4] rfl)
set_option maxHeartbeats 4000000 in
set_option maxRecDepth 100000 in
theorem wm_X6_ask_28 (F : CallFix p m c cX6_ask 3 s args ig_all RX6) (E : ig_E D kk ad bs s) (hr : meth.sig.returnType = none) (hk : meth.locks = false) (post : ig_M → Int64 → Prop) :
    ∀ (b : ig_M) (lb : Int64) (x1 : Int32) (t0 : Int32) (H : Heap) (locs : List Loc) (ls : Array Slot), wp_X6_ask_28 post b lb x1 t0 → ig_Z D kk ad bs s H locs a la b lb lo → lv_has ls 3 [(0, .ref (ad 97)), (1, .int x1)] → W p l e (k2_rm 2 43) s m args below meth c H locs 0 0 (MQ below (va_Qv (fun u : ig_M × Int64 => post u.1 u.2) (fun u t => ig_Wd D kk ad bs a la u.1 u.2 lo t) (ig_A bs)) args s 0 0 (ig_A bs)) (F0 m 28 ls [.int t0, .ref (ad 97)]) := by
  intro b lb x1 t0 H locs ls hf Z hl
  have hM := k_X6_goesWell l (D := D) (kk := kk) (ad := ad) (bs := bs) (a := a) (la := la) (b := b) (lb := lb) (lo := lo) t0 hf
  refine ig_calli E Z (ig_runV (As := [.int t0]) (rest := []) F E Z hl G_X6_83 hM (i := 97) (by decide) (ig_k_97 _ _ _ _ _ _) rfl rfl md_X6_goesWell rfl ⟨rfl, rfl⟩ ⟨Nat.le_of_ble_eq_true rfl, Nat.le_of_ble_eq_true rfl⟩ (Nat.le_of_ble_eq_true rfl) dX6_ask_28 ⟨Nat.le_of_ble_eq_true rfl, Nat.le_of_ble_eq_true rfl⟩) (fun r4 u H locs hf Z => ?_)
  obtain ⟨b5, lb6⟩ := u
  have Z : ig_Z D kk ad bs s H locs a la b5 lb6 lo := Z
  refine lv_if_eq (tgt := 39) F.1 F.2.1 dX6_ask_31 (by decide) (fun c_7 => ?_) (fun c_7 => ?_)
  · have hf := hf.1 c_7
    exact W.vret F.1 F.2.1 hr (fun t ht hW => ⟨⟨(b5, lb6), rfl, hf, Z.wd E ht hW⟩, Z.fr ht⟩) Z.2.2.2 dX6_ask_39
  · have hf := hf.2 c_7
    refine lv_aload_n F.1 F.2.1 dX6_ask_34 rfl (lv_at hl 0 rfl) ?_
    refine lv_iload_n F.1 F.2.1 dX6_ask_35 rfl (lv_at hl 1 rfl) ?_
    refine pf_X6_53 F E Z dX6_ask_36 (fun H locs b8 hb8 Z => ?_)
    have hf := hf b8 hb8
    exact W.vret F.1 F.2.1 hr (fun t ht hW => ⟨⟨(b8, lb6), rfl, hf, Z.wd E ht hW⟩, Z.fr ht⟩) Z.2.2.2 dX6_ask_39
set_option maxHeartbeats 4000000 in
set_option maxRecDepth 100000 in
theorem k_X6_ask (l : Launch) {D : va_G} {kk : Nat → ClassId} {ad : Nat → Nat} {bs : Nat} {a : ig_M} {la : Int64} {b : ig_M} {lb lo : Int64} (x1 : Int32) {post : ig_M → Int64 → Prop} (hf : wp_X6_ask b lb x1 post) : Met l yX6_ask (ig_ws yX6_ask cX6_ask 3 none) (k2_rm 2 43) (va_Pc [.ref (ad 97), .int x1] (ig_Wd D kk ad bs a la b lb lo)) (va_Qv (fun u : ig_M × Int64 => post u.1 u.2) (fun u t => ig_Wd D kk ad bs a la u.1 u.2 lo t) (ig_A bs)) 0 0 (ig_A bs) := by
  refine Met.ofW (cc := cX6_ask) (maxL := 3) (ret := none) (by decide) rfl ?_
  intro p e s m args below meth c s₁ B hml hv
  obtain ⟨rfl, E, hP⟩ := hv
  have hk := B.notSynchronized
  have hr := B.returns
  have F : CallFix p m c cX6_ask 3 s _ ig_all RX6 := ⟨B.exec, B.bytes, hml, findClass_of_methodNamed B.named, fun w hw => atoms_spec B.pre w (List.mem_cons_of_mem _ hw)⟩
  have Z : ig_Z D kk ad bs s s.heap [] a la b lb lo := ig_Z.rf hP
  have hl := lv_entry ([.ref (ad 97), .int x1]) (n := 3) (Nat.le_of_ble_eq_true rfl)
  rw [lg_entry_eq]
  generalize (lg_sl ([.ref (ad 97), .int x1]) ++ List.replicate (3 - (lg_sl ([.ref (ad 97), .int x1])).length) Slot.unset).toArray = ls at hl ⊢
  have hl : lv_has ls 3 [(0, .ref (ad 97)), (1, .int x1)] := hl
  refine lv_aload_n F.1 F.2.1 dX6_ask_0 rfl (lv_at hl 0 rfl) ?_
  refine lv_iload_n F.1 F.2.1 dX6_ask_1 rfl (lv_at hl 1 rfl) ?_
  have hM := k_X6_isPhase l (D := D) (kk := kk) (ad := ad) (bs := bs) (a := a) (la := la) (b := b) (lb := lb) (lo := lo) x1 hf
  refine ig_calli E Z (ig_runV (As := [.int x1]) (rest := []) F E Z hl G_X6_91 hM (i := 97) (by decide) (ig_k_97 _ _ _ _ _ _) rfl rfl md_X6_isPhase rfl ⟨rfl, rfl⟩ ⟨Nat.le_of_ble_eq_true rfl, Nat.le_of_ble_eq_true rfl⟩ (Nat.le_of_ble_eq_true rfl) dX6_ask_2 ⟨Nat.le_of_ble_eq_true rfl, Nat.le_of_ble_eq_true rfl⟩) (fun r1 u H locs hf Z => ?_)
  refine lv_istore_n (lv' := [(2, .int r1), (0, .ref (ad 97)), (1, .int x1)]) F.1 F.2.1 dX6_ask_5 rfl hl (by decide) rfl (fun ls hl => ?_)
  refine lv_aload_n F.1 F.2.1 dX6_ask_6 rfl (lv_at hl 1 rfl) ?_
  refine lv_iload_n F.1 F.2.1 dX6_ask_7 rfl (lv_at hl 0 rfl) ?_
  refine lv_if_ne (tgt := 15) F.1 F.2.1 dX6_ask_8 (by decide) (fun c_2 => ?_) (fun c_2 => ?_)
  · have hf := hf.1 c_2
    refine lv_aload_n F.1 F.2.1 dX6_ask_15 rfl (lv_at hl 1 rfl) ?_
    refine gf_X6_53 F E Z dX6_ask_16 ?_
    refine lv_iconst (v := (-1)) F.1 F.2.1 dX6_ask_19 (by decide) ?_
    refine lv_icmp_eq (tgt := 27) F.1 F.2.1 dX6_ask_20 (by decide) (fun c_3 => ?_) (fun c_3 => ?_)
    · have hf := hf.1 c_3
      refine lv_iconst (v := 0) F.1 F.2.1 dX6_ask_27 (by decide) ?_
      exact wm_X6_ask_28 F E hr hk post b lb x1 0 _ _ _ hf Z (lv_sub hl [1, 2] rfl)
    · have hf := hf.2 c_3
      refine lv_iconst (v := 2) F.1 F.2.1 dX6_ask_23 (by decide) ?_
      refine lv_goto (tgt := 28) F.1 F.2.1 dX6_ask_24 (by decide) ?_
      exact wm_X6_ask_28 F E hr hk post b lb x1 2 _ _ _ hf Z (lv_sub hl [1, 2] rfl)
  · have hf := hf.2 c_2
    refine lv_iconst (v := 1) F.1 F.2.1 dX6_ask_11 (by decide) ?_
    refine lv_goto (tgt := 28) F.1 F.2.1 dX6_ask_12 (by decide) ?_
    exact wm_X6_ask_28 F E hr hk post b lb x1 1 _ _ _ hf Z (lv_sub hl [1, 2] rfl)
set_option maxHeartbeats 4000000 in
set_option maxRecDepth 100000 in
theorem wm_X6_cancel_14 (F : CallFix p m c cX6_cancel 2 s args ig_all RX6) (E : ig_E D kk ad bs s) (hr : meth.sig.returnType = (some .int)) (hk : meth.locks = false) (post : Int32 → ig_M → Int64 → Prop) :
    ∀ (b : ig_M) (lb : Int64) (t0 : Int32) (H : Heap) (locs : List Loc) (ls : Array Slot), wp_X6_cancel_14 post b lb t0 → ig_Z D kk ad bs s H locs a la b lb lo → lv_has ls 2 [(0, .ref (ad 97))] → W p l e (k2_rm 1 21) s m args below meth c H locs 0 0 (MQ below (va_Qi (fun (r : Int32) (u : ig_M × Int64) => post r u.1 u.2) (fun u t => ig_Wd D kk ad bs a la u.1 u.2 lo t) (ig_A bs)) args s 0 0 (ig_A bs)) (F0 m 14 ls [.int t0, .ref (ad 97)]) := by
  intro b lb t0 H locs ls hf Z hl
  have hM := k_X6_goesWell l (D := D) (kk := kk) (ad := ad) (bs := bs) (a := a) (la := la) (b := b) (lb := lb) (lo := lo) t0 hf
  refine ig_calli E Z (ig_runV (As := [.int t0]) (rest := []) F E Z hl G_X6_83 hM (i := 97) (by decide) (ig_k_97 _ _ _ _ _ _) rfl rfl md_X6_goesWell rfl ⟨rfl, rfl⟩ ⟨Nat.le_of_ble_eq_true rfl, Nat.le_of_ble_eq_true rfl⟩ (Nat.le_of_ble_eq_true rfl) dX6_cancel_14 ⟨Nat.le_of_ble_eq_true rfl, Nat.le_of_ble_eq_true rfl⟩) (fun r2 u H locs hf Z => ?_)
  obtain ⟨b3, lb4⟩ := u
  have Z : ig_Z D kk ad bs s H locs a la b3 lb4 lo := Z
  refine lv_if_ne (tgt := 22) F.1 F.2.1 dX6_cancel_17 (by decide) (fun c_5 => ?_) (fun c_5 => ?_)
  · have hf := hf.1 c_5
    refine lv_aload_n F.1 F.2.1 dX6_cancel_22 rfl (lv_at hl 0 rfl) ?_
    refine gf_X6_53 F E Z dX6_cancel_23 ?_
    refine lv_istore_n (lv' := [(1, .int (b3 97 21)), (0, .ref (ad 97))]) F.1 F.2.1 dX6_cancel_26 rfl hl (by decide) rfl (fun ls hl => ?_)
    refine lv_aload_n F.1 F.2.1 dX6_cancel_27 rfl (lv_at hl 1 rfl) ?_
    refine lv_iconst (v := (-1)) F.1 F.2.1 dX6_cancel_28 (by decide) ?_
    refine pf_X6_53 F E Z dX6_cancel_29 (fun H locs b6 hb6 Z => ?_)
    have hf := hf b6 hb6
    refine lv_iload_n F.1 F.2.1 dX6_cancel_32 rfl (lv_at hl 0 rfl) ?_
    exact W.iret (v := b3 97 21) F.1 F.2.1 hr (fun t ht hW => ⟨⟨_, (b6, lb4), rfl, hf, Z.wd E ht hW⟩, Z.fr ht⟩) Z.2.2.2 dX6_cancel_33
  · have hf := hf.2 c_5
    refine lv_iconst (v := 0) F.1 F.2.1 dX6_cancel_20 (by decide) ?_
    exact W.iret (v := 0) F.1 F.2.1 hr (fun t ht hW => ⟨⟨_, (b3, lb4), rfl, hf, Z.wd E ht hW⟩, Z.fr ht⟩) Z.2.2.2 dX6_cancel_21
set_option maxHeartbeats 4000000 in
set_option maxRecDepth 100000 in
theorem k_X6_cancel (l : Launch) {D : va_G} {kk : Nat → ClassId} {ad : Nat → Nat} {bs : Nat} {a : ig_M} {la : Int64} {b : ig_M} {lb lo : Int64} {post : Int32 → ig_M → Int64 → Prop} (hf : wp_X6_cancel b lb post) : Met l yX6_cancel (ig_ws yX6_cancel cX6_cancel 2 (some .int)) (k2_rm 1 21) (va_Pc [.ref (ad 97)] (ig_Wd D kk ad bs a la b lb lo)) (va_Qi (fun (r : Int32) (u : ig_M × Int64) => post r u.1 u.2) (fun u t => ig_Wd D kk ad bs a la u.1 u.2 lo t) (ig_A bs)) 0 0 (ig_A bs) := by
  refine Met.ofW (cc := cX6_cancel) (maxL := 2) (ret := (some .int)) (by decide) rfl ?_
  intro p e s m args below meth c s₁ B hml hv
  obtain ⟨rfl, E, hP⟩ := hv
  have hk := B.notSynchronized
  have hr := B.returns
  have F : CallFix p m c cX6_cancel 2 s _ ig_all RX6 := ⟨B.exec, B.bytes, hml, findClass_of_methodNamed B.named, fun w hw => atoms_spec B.pre w (List.mem_cons_of_mem _ hw)⟩
  have Z : ig_Z D kk ad bs s s.heap [] a la b lb lo := ig_Z.rf hP
  have hl := lv_entry ([.ref (ad 97)]) (n := 2) (Nat.le_of_ble_eq_true rfl)
  rw [lg_entry_eq]
  generalize (lg_sl ([.ref (ad 97)]) ++ List.replicate (2 - (lg_sl ([.ref (ad 97)])).length) Slot.unset).toArray = ls at hl ⊢
  have hl : lv_has ls 2 [(0, .ref (ad 97))] := hl
  refine lv_aload_n F.1 F.2.1 dX6_cancel_0 rfl (lv_at hl 0 rfl) ?_
  refine lv_aload_n F.1 F.2.1 dX6_cancel_1 rfl (lv_at hl 0 rfl) ?_
  refine gf_X6_53 F E Z dX6_cancel_2 ?_
  refine lv_iconst (v := (-1)) F.1 F.2.1 dX6_cancel_5 (by decide) ?_
  refine lv_icmp_eq (tgt := 13) F.1 F.2.1 dX6_cancel_6 (by decide) (fun c_1 => ?_) (fun c_1 => ?_)
  · have hf := hf.1 c_1
    refine lv_iconst (v := 1) F.1 F.2.1 dX6_cancel_13 (by decide) ?_
    exact wm_X6_cancel_14 F E hr hk post b lb 1 _ _ _ hf Z (lv_sub hl [0] rfl)
  · have hf := hf.2 c_1
    refine lv_iconst (v := 0) F.1 F.2.1 dX6_cancel_9 (by decide) ?_
    refine lv_goto (tgt := 14) F.1 F.2.1 dX6_cancel_10 (by decide) ?_
    exact wm_X6_cancel_14 F E hr hk post b lb 0 _ _ _ hf Z (lv_sub hl [0] rfl)
set_option maxHeartbeats 4000000 in
set_option maxRecDepth 100000 in
theorem wm_X6_breaks_31 (F : CallFix p m c cX6_breaks 6 s args ig_all RX6) (E : ig_E D kk ad bs s) (hr : meth.sig.returnType = (some .boolean)) (hk : meth.locks = false) (post : Int32 → ig_M → Int64 → Prop) :
    ∀ (b : ig_M) (lb : Int64) (x1 : Int32) (x2 : Int32) (x3 : Int32) (t0 : Int32) (H : Heap) (locs : List Loc) (ls : Array Slot), wp_X6_breaks_31 post b lb x1 x2 x3 t0 → ig_Z D kk ad bs s H locs a la b lb lo → lv_has ls 6 [(0, .ref (ad 97)), (1, .int x1), (2, .int x2), (3, .int x3)] → W p l e (k2_rm 2 43) s m args below meth c H locs 0 0 (MQ below (va_Qi (fun (r : Int32) (u : ig_M × Int64) => post r u.1 u.2) (fun u t => ig_Wd D kk ad bs a la u.1 u.2 lo t) (ig_A bs)) args s 0 0 (ig_A bs)) (F0 m 31 ls [.int t0, .ref (ad 97)]) := by
  intro b lb x1 x2 x3 t0 H locs ls hf Z hl
  have hM := k_X6_goesWell l (D := D) (kk := kk) (ad := ad) (bs := bs) (a := a) (la := la) (b := b) (lb := lb) (lo := lo) t0 hf
  refine ig_calli E Z (ig_runV (As := [.int t0]) (rest := []) F E Z hl G_X6_83 hM (i := 97) (by decide) (ig_k_97 _ _ _ _ _ _) rfl rfl md_X6_goesWell rfl ⟨rfl, rfl⟩ ⟨Nat.le_of_ble_eq_true rfl, Nat.le_of_ble_eq_true rfl⟩ (Nat.le_of_ble_eq_true rfl) dX6_breaks_31 ⟨Nat.le_of_ble_eq_true rfl, Nat.le_of_ble_eq_true rfl⟩) (fun r5 u H locs hf Z => ?_)
  obtain ⟨b6, lb7⟩ := u
  have Z : ig_Z D kk ad bs s H locs a la b6 lb7 lo := Z
  refine lv_if_ne (tgt := 39) F.1 F.2.1 dX6_breaks_34 (by decide) (fun c_8 => ?_) (fun c_8 => ?_)
  · have hf := hf.1 c_8
    refine lv_aload_n F.1 F.2.1 dX6_breaks_39 rfl (lv_at hl 0 rfl) ?_
    refine gf_X6_50 F E Z dX6_breaks_40 ?_
    refine lv_iconst (v := 3) F.1 F.2.1 dX6_breaks_43 (by decide) ?_
    refine lv_iload_n F.1 F.2.1 dX6_breaks_44 rfl (lv_at hl 1 rfl) ?_
    refine lv_imul F.1 F.2.1 dX6_breaks_45 ?_
    refine lv_iload_n F.1 F.2.1 dX6_breaks_46 rfl (lv_at hl 2 rfl) ?_
    refine lv_iadd F.1 F.2.1 dX6_breaks_47 ?_
    have hv9 := hf.1
    have hf := hf.2
    refine ig_zald (f := b6 111) F E Z (by decide) (by rw [ig_mm_b _ _ (by decide)]; exact (ig_k_111 _ _ _ _ _ _)) hv9 dX6_breaks_48 ?_
    refine lv_istore (lv' := [(5, .int (b6 111 ((3 * x1) + x2).toNatClampNeg)), (0, .ref (ad 97)), (1, .int x1), (2, .int x2), (3, .int x3)]) F.1 F.2.1 dX6_breaks_49 hl (by decide) rfl (fun ls hl => ?_)
    refine lv_aload_n F.1 F.2.1 dX6_breaks_51 rfl (lv_at hl 1 rfl) ?_
    refine gf_X6_50 F E Z dX6_breaks_52 ?_
    refine lv_iconst (v := 3) F.1 F.2.1 dX6_breaks_55 (by decide) ?_
    refine lv_iload_n F.1 F.2.1 dX6_breaks_56 rfl (lv_at hl 2 rfl) ?_
    refine lv_imul F.1 F.2.1 dX6_breaks_57 ?_
    refine lv_iload_n F.1 F.2.1 dX6_breaks_58 rfl (lv_at hl 3 rfl) ?_
    refine lv_iadd F.1 F.2.1 dX6_breaks_59 ?_
    refine lv_iload_n F.1 F.2.1 dX6_breaks_60 rfl (lv_at hl 4 rfl) ?_
    have hv10 := hf.1
    have hf := hf.2
    refine ig_zastB (n := 24) F E Z (by decide) (by decide) (fun r => ig_k_111 _ _ _ _ _ r) hv10 dX6_breaks_61 (fun H locs b11 hb11 Z => ?_)
    have hf := hf b11 hb11
    refine lv_iload F.1 F.2.1 dX6_breaks_62 (lv_at hl 0 rfl) ?_
    exact W.zret (v := b6 111 ((3 * x1) + x2).toNatClampNeg) F.1 F.2.1 hr (ig_narrow hf.1) (fun t ht hW => ⟨⟨_, (b11, lb7), rfl, hf.2, Z.wd E ht hW⟩, Z.fr ht⟩) Z.2.2.2 dX6_breaks_64
  · have hf := hf.2 c_8
    refine lv_iconst (v := 0) F.1 F.2.1 dX6_breaks_37 (by decide) ?_
    exact W.zret (v := 0) F.1 F.2.1 hr (ig_narrow (Or.inl rfl)) (fun t ht hW => ⟨⟨_, (b6, lb7), rfl, hf, Z.wd E ht hW⟩, Z.fr ht⟩) Z.2.2.2 dX6_breaks_38
set_option maxHeartbeats 4000000 in
set_option maxRecDepth 100000 in
theorem k_X6_breaks (l : Launch) {D : va_G} {kk : Nat → ClassId} {ad : Nat → Nat} {bs : Nat} {a : ig_M} {la : Int64} {b : ig_M} {lb lo : Int64} (x1 : Int32) (x2 : Int32) (x3 : Int32) {post : Int32 → ig_M → Int64 → Prop} (hf : wp_X6_breaks b lb x1 x2 x3 post) : Met l yX6_breaks (ig_ws yX6_breaks cX6_breaks 6 (some .boolean)) (k2_rm 2 43) (va_Pc [.ref (ad 97), .int x1, .int x2, .int x3] (ig_Wd D kk ad bs a la b lb lo)) (va_Qi (fun (r : Int32) (u : ig_M × Int64) => post r u.1 u.2) (fun u t => ig_Wd D kk ad bs a la u.1 u.2 lo t) (ig_A bs)) 0 0 (ig_A bs) := by
  refine Met.ofW (cc := cX6_breaks) (maxL := 6) (ret := (some .boolean)) (by decide) rfl ?_
  intro p e s m args below meth c s₁ B hml hv
  obtain ⟨rfl, E, hP⟩ := hv
  have hk := B.notSynchronized
  have hr := B.returns
  have F : CallFix p m c cX6_breaks 6 s _ ig_all RX6 := ⟨B.exec, B.bytes, hml, findClass_of_methodNamed B.named, fun w hw => atoms_spec B.pre w (List.mem_cons_of_mem _ hw)⟩
  have Z : ig_Z D kk ad bs s s.heap [] a la b lb lo := ig_Z.rf hP
  have hl := lv_entry ([.ref (ad 97), .int x1, .int x2, .int x3]) (n := 6) (Nat.le_of_ble_eq_true rfl)
  rw [lg_entry_eq]
  generalize (lg_sl ([.ref (ad 97), .int x1, .int x2, .int x3]) ++ List.replicate (6 - (lg_sl ([.ref (ad 97), .int x1, .int x2, .int x3])).length) Slot.unset).toArray = ls at hl ⊢
  have hl : lv_has ls 6 [(0, .ref (ad 97)), (1, .int x1), (2, .int x2), (3, .int x3)] := hl
  refine lv_aload_n F.1 F.2.1 dX6_breaks_0 rfl (lv_at hl 0 rfl) ?_
  refine lv_iload_n F.1 F.2.1 dX6_breaks_1 rfl (lv_at hl 1 rfl) ?_
  have hM := k_X6_isPhase l (D := D) (kk := kk) (ad := ad) (bs := bs) (a := a) (la := la) (b := b) (lb := lb) (lo := lo) x1 hf
  refine ig_calli E Z (ig_runV (As := [.int x1]) (rest := []) F E Z hl G_X6_91 hM (i := 97) (by decide) (ig_k_97 _ _ _ _ _ _) rfl rfl md_X6_isPhase rfl ⟨rfl, rfl⟩ ⟨Nat.le_of_ble_eq_true rfl, Nat.le_of_ble_eq_true rfl⟩ (Nat.le_of_ble_eq_true rfl) dX6_breaks_2 ⟨Nat.le_of_ble_eq_true rfl, Nat.le_of_ble_eq_true rfl⟩) (fun r1 u H locs hf Z => ?_)
  refine lv_istore (lv' := [(4, .int r1), (0, .ref (ad 97)), (1, .int x1), (2, .int x2), (3, .int x3)]) F.1 F.2.1 dX6_breaks_5 hl (by decide) rfl (fun ls hl => ?_)
  refine lv_aload_n F.1 F.2.1 dX6_breaks_7 rfl (lv_at hl 1 rfl) ?_
  refine lv_iload F.1 F.2.1 dX6_breaks_8 (lv_at hl 0 rfl) ?_
  refine lv_if_ne (tgt := 17) F.1 F.2.1 dX6_breaks_10 (by decide) (fun c_2 => ?_) (fun c_2 => ?_)
  · have hf := hf.1 c_2
    refine lv_iload_n F.1 F.2.1 dX6_breaks_17 rfl (lv_at hl 3 rfl) ?_
    refine lv_iconst (v := 0) F.1 F.2.1 dX6_breaks_18 (by decide) ?_
    refine lv_iconst (v := 2) F.1 F.2.1 dX6_breaks_19 (by decide) ?_
    have hM := k_X6_in l (D := D) (kk := kk) (ad := ad) (bs := bs) (a := a) (la := la) (b := b) (lb := lb) (lo := lo) x2 0 2 hf
    refine ig_calli E Z (ig_runS (As := [.int x2, .int 0, .int 2]) (rest := [.ref (ad 97)]) F E Z hl G_X6_72 hM rfl md_X6_in rfl ⟨rfl, rfl⟩ ⟨Nat.le_of_ble_eq_true rfl, Nat.le_of_ble_eq_true rfl⟩ (Nat.le_of_ble_eq_true rfl) dX6_breaks_20 ⟨Nat.le_of_ble_eq_true rfl, Nat.le_of_ble_eq_true rfl⟩) (fun r3 u H locs hf Z => ?_)
    refine lv_if_eq (tgt := 30) F.1 F.2.1 dX6_breaks_23 (by decide) (fun c_4 => ?_) (fun c_4 => ?_)
    · have hf := hf.1 c_4
      refine lv_iconst (v := 2) F.1 F.2.1 dX6_breaks_30 (by decide) ?_
      exact wm_X6_breaks_31 F E hr hk post b lb x1 x2 x3 2 _ _ _ hf Z (lv_sub hl [1, 2, 3, 4] rfl)
    · have hf := hf.2 c_4
      refine lv_iconst (v := 0) F.1 F.2.1 dX6_breaks_26 (by decide) ?_
      refine lv_goto (tgt := 31) F.1 F.2.1 dX6_breaks_27 (by decide) ?_
      exact wm_X6_breaks_31 F E hr hk post b lb x1 x2 x3 0 _ _ _ hf Z (lv_sub hl [1, 2, 3, 4] rfl)
  · have hf := hf.2 c_2
    refine lv_iconst (v := 1) F.1 F.2.1 dX6_breaks_13 (by decide) ?_
    refine lv_goto (tgt := 31) F.1 F.2.1 dX6_breaks_14 (by decide) ?_
    exact wm_X6_breaks_31 F E hr hk post b lb x1 x2 x3 1 _ _ _ hf Z (lv_sub hl [1, 2, 3, 4] rfl)
set_option maxHeartbeats 4000000 in
set_option maxRecDepth 100000 in
theorem wm_X6_askedStage_43 (F : CallFix p m c cX6_askedStage 3 s args ig_all RX6) (E : ig_E D kk ad bs s) (hr : meth.sig.returnType = (some .int)) (hk : meth.locks = false) (post : Int32 → Prop) :
    ∀ (n : Nat) (x1 : Int32) (x2 : Int32) (H : Heap) (locs : List Loc) (ls : Array Slot), wp_X6_askedStage_43 b lb post n x1 x2 → ig_Z D kk ad bs s H locs a la b lb lo → lv_has ls 3 [(0, .ref (ad 97)), (1, .int x1), (2, .int x2)] → W p l e (k2_rm 1 21) s m args below meth c H locs 0 0 (MQ below (va_Qi (fun (r : Int32) (_ : Unit) => post r) (fun _ t => ig_Wd D kk ad bs a la b lb lo t) (ig_A bs)) args s 0 0 (ig_A bs)) (F0 m 43 ls []) := by
  intro n
  induction n with
  | zero => intro x1 x2 H locs ls hf Z hl; exact False.elim hf
  | succ n ih =>
    intro x1 x2 H locs ls hf Z hl
    refine lv_iload_n F.1 F.2.1 dX6_askedStage_43 rfl (lv_at hl 2 rfl) ?_
    refine lv_if_lt (tgt := 75) F.1 F.2.1 dX6_askedStage_44 (by decide) (fun c_5 => ?_) (fun c_5 => ?_)
    · have hf := hf.1 c_5
      refine lv_iload_n F.1 F.2.1 dX6_askedStage_75 rfl (lv_at hl 1 rfl) ?_
      exact W.iret (v := x1) F.1 F.2.1 hr (fun t ht hW => ⟨⟨_, (), rfl, hf, Z.wd E ht hW⟩, Z.fr ht⟩) Z.2.2.2 dX6_askedStage_76
    · have hf := hf.2 c_5
      refine lv_aload_n F.1 F.2.1 dX6_askedStage_47 rfl (lv_at hl 0 rfl) ?_
      refine gf_X6_22 F E Z dX6_askedStage_48 ?_
      refine lv_iload_n F.1 F.2.1 dX6_askedStage_51 rfl (lv_at hl 2 rfl) ?_
      have hv6 := hf.1
      have hf := hf.2
      refine ig_iald (f := b 102) F E Z (by decide) (by rw [ig_mm_b _ _ (by decide)]; exact (ig_k_102 _ _ _ _ _ _)) hv6 dX6_askedStage_52 ?_
      refine lv_aload_n F.1 F.2.1 dX6_askedStage_53 rfl (lv_at hl 0 rfl) ?_
      refine gf_X6_53 F E Z dX6_askedStage_54 ?_
      have hM := k_X6_has l (D := D) (kk := kk) (ad := ad) (bs := bs) (a := a) (la := la) (b := b) (lb := lb) (lo := lo) (b 102 x2.toNatClampNeg) (b 97 21) hf
      refine ig_calli E Z (ig_runS (As := [.int (b 102 x2.toNatClampNeg), .int (b 97 21)]) (rest := []) F E Z hl G_X6_87 hM rfl md_X6_has rfl ⟨rfl, rfl⟩ ⟨Nat.le_of_ble_eq_true rfl, Nat.le_of_ble_eq_true rfl⟩ (Nat.le_of_ble_eq_true rfl) dX6_askedStage_57 ⟨Nat.le_of_ble_eq_true rfl, Nat.le_of_ble_eq_true rfl⟩) (fun r7 u H locs hf Z => ?_)
      refine lv_if_eq (tgt := 67) F.1 F.2.1 dX6_askedStage_60 (by decide) (fun c_8 => ?_) (fun c_8 => ?_)
      · have hf := hf.1 c_8
        refine lv_iload_n F.1 F.2.1 dX6_askedStage_67 rfl (lv_at hl 1 rfl) ?_
        refine lv_istore_n (lv' := [(1, .int x1), (0, .ref (ad 97)), (2, .int x2)]) F.1 F.2.1 dX6_askedStage_68 rfl hl (by decide) rfl (fun ls hl => ?_)
        refine lv_iinc (v := x2 + (-1)) (lv' := [(2, .int (x2 + (-1))), (1, .int x1), (0, .ref (ad 97))]) F.1 F.2.1 dX6_askedStage_69 hl (k := 2) rfl (by rfl) (by decide) rfl (fun ls hl => ?_)
        refine lv_goto (tgt := 43) F.1 F.2.1 dX6_askedStage_72 (by decide) ?_
        exact ih x1 (x2 + (-1)) _ _ _ hf Z (lv_sub hl [2, 1, 0] rfl)
      · have hf := hf.2 c_8
        refine lv_iload_n F.1 F.2.1 dX6_askedStage_63 rfl (lv_at hl 2 rfl) ?_
        refine lv_goto (tgt := 68) F.1 F.2.1 dX6_askedStage_64 (by decide) ?_
        refine lv_istore_n (lv' := [(1, .int x2), (0, .ref (ad 97)), (2, .int x2)]) F.1 F.2.1 dX6_askedStage_68 rfl hl (by decide) rfl (fun ls hl => ?_)
        refine lv_iinc (v := x2 + (-1)) (lv' := [(2, .int (x2 + (-1))), (1, .int x2), (0, .ref (ad 97))]) F.1 F.2.1 dX6_askedStage_69 hl (k := 2) rfl (by rfl) (by decide) rfl (fun ls hl => ?_)
        refine lv_goto (tgt := 43) F.1 F.2.1 dX6_askedStage_72 (by decide) ?_
        exact ih x2 (x2 + (-1)) _ _ _ hf Z (lv_sub hl [2, 1, 0] rfl)
set_option maxHeartbeats 4000000 in
set_option maxRecDepth 100000 in
theorem k_X6_askedStage (l : Launch) {D : va_G} {kk : Nat → ClassId} {ad : Nat → Nat} {bs : Nat} {a : ig_M} {la : Int64} {b : ig_M} {lb lo : Int64} {post : Int32 → Prop} (hf : wp_X6_askedStage b lb post) : Met l yX6_askedStage (ig_ws yX6_askedStage cX6_askedStage 3 (some .int)) (k2_rm 1 21) (va_Pc [.ref (ad 97)] (ig_Wd D kk ad bs a la b lb lo)) (va_Qi (fun (r : Int32) (_ : Unit) => post r) (fun _ t => ig_Wd D kk ad bs a la b lb lo t) (ig_A bs)) 0 0 (ig_A bs) := by
  refine Met.ofW (cc := cX6_askedStage) (maxL := 3) (ret := (some .int)) (by decide) rfl ?_
  intro p e s m args below meth c s₁ B hml hv
  obtain ⟨rfl, E, hP⟩ := hv
  have hk := B.notSynchronized
  have hr := B.returns
  have F : CallFix p m c cX6_askedStage 3 s _ ig_all RX6 := ⟨B.exec, B.bytes, hml, findClass_of_methodNamed B.named, fun w hw => atoms_spec B.pre w (List.mem_cons_of_mem _ hw)⟩
  have Z : ig_Z D kk ad bs s s.heap [] a la b lb lo := ig_Z.rf hP
  have hl := lv_entry ([.ref (ad 97)]) (n := 3) (Nat.le_of_ble_eq_true rfl)
  rw [lg_entry_eq]
  generalize (lg_sl ([.ref (ad 97)]) ++ List.replicate (3 - (lg_sl ([.ref (ad 97)])).length) Slot.unset).toArray = ls at hl ⊢
  have hl : lv_has ls 3 [(0, .ref (ad 97))] := hl
  refine lv_aload_n F.1 F.2.1 dX6_askedStage_0 rfl (lv_at hl 0 rfl) ?_
  refine gf_X6_53 F E Z dX6_askedStage_1 ?_
  refine lv_iconst (v := (-1)) F.1 F.2.1 dX6_askedStage_4 (by decide) ?_
  refine lv_icmp_ne (tgt := 10) F.1 F.2.1 dX6_askedStage_5 (by decide) (fun c_1 => ?_) (fun c_1 => ?_)
  · have hf := hf.1 c_1
    refine lv_aload_n F.1 F.2.1 dX6_askedStage_10 rfl (lv_at hl 0 rfl) ?_
    refine gf_X6_22 F E Z dX6_askedStage_11 ?_
    refine lv_aload_n F.1 F.2.1 dX6_askedStage_14 rfl (lv_at hl 0 rfl) ?_
    refine gf_X6_106 F E Z dX6_askedStage_15 ?_
    have hv2 := hf.1
    have hf := hf.2
    refine ig_iald (f := b 102) F E Z (by decide) (by rw [ig_mm_b _ _ (by decide)]; exact (ig_k_102 _ _ _ _ _ _)) hv2 dX6_askedStage_18 ?_
    refine lv_aload_n F.1 F.2.1 dX6_askedStage_19 rfl (lv_at hl 0 rfl) ?_
    refine gf_X6_53 F E Z dX6_askedStage_20 ?_
    have hM := k_X6_has l (D := D) (kk := kk) (ad := ad) (bs := bs) (a := a) (la := la) (b := b) (lb := lb) (lo := lo) (b 102 (b 97 10).toNatClampNeg) (b 97 21) hf
    refine ig_calli E Z (ig_runS (As := [.int (b 102 (b 97 10).toNatClampNeg), .int (b 97 21)]) (rest := []) F E Z hl G_X6_87 hM rfl md_X6_has rfl ⟨rfl, rfl⟩ ⟨Nat.le_of_ble_eq_true rfl, Nat.le_of_ble_eq_true rfl⟩ (Nat.le_of_ble_eq_true rfl) dX6_askedStage_23 ⟨Nat.le_of_ble_eq_true rfl, Nat.le_of_ble_eq_true rfl⟩) (fun r3 u H locs hf Z => ?_)
    refine lv_if_eq (tgt := 34) F.1 F.2.1 dX6_askedStage_26 (by decide) (fun c_4 => ?_) (fun c_4 => ?_)
    · have hf := hf.1 c_4
      refine lv_iconst (v := (-1)) F.1 F.2.1 dX6_askedStage_34 (by decide) ?_
      refine lv_istore_n (lv' := [(1, .int ((-1))), (0, .ref (ad 97))]) F.1 F.2.1 dX6_askedStage_35 rfl hl (by decide) rfl (fun ls hl => ?_)
      refine lv_aload_n F.1 F.2.1 dX6_askedStage_36 rfl (lv_at hl 1 rfl) ?_
      refine gf_X6_76 F E Z dX6_askedStage_37 ?_
      refine lv_iconst (v := 1) F.1 F.2.1 dX6_askedStage_40 (by decide) ?_
      refine lv_isub F.1 F.2.1 dX6_askedStage_41 ?_
      refine lv_istore_n (lv' := [(2, .int ((b 97 7) - 1)), (1, .int ((-1))), (0, .ref (ad 97))]) F.1 F.2.1 dX6_askedStage_42 rfl hl (by decide) rfl (fun ls hl => ?_)
      obtain ⟨n1, hf⟩ := hf
      exact wm_X6_askedStage_43 F E hr hk post n1 ((-1)) ((b 97 7) - 1) _ _ _ hf Z (lv_sub hl [2, 1, 0] rfl)
    · have hf := hf.2 c_4
      refine lv_aload_n F.1 F.2.1 dX6_askedStage_29 rfl (lv_at hl 0 rfl) ?_
      refine gf_X6_106 F E Z dX6_askedStage_30 ?_
      exact W.iret (v := b 97 10) F.1 F.2.1 hr (fun t ht hW => ⟨⟨_, (), rfl, hf, Z.wd E ht hW⟩, Z.fr ht⟩) Z.2.2.2 dX6_askedStage_33
  · have hf := hf.2 c_1
    refine lv_iconst (v := (-1)) F.1 F.2.1 dX6_askedStage_8 (by decide) ?_
    exact W.iret (v := (-1)) F.1 F.2.1 hr (fun t ht hW => ⟨⟨_, (), rfl, hf, Z.wd E ht hW⟩, Z.fr ht⟩) Z.2.2.2 dX6_askedStage_9
set_option maxHeartbeats 4000000 in
set_option maxRecDepth 100000 in
theorem wm_X6_isWished_4 (F : CallFix p m c cX6_isWished 4 s args ig_all RX6) (E : ig_E D kk ad bs s) (hr : meth.sig.returnType = (some .boolean)) (hk : meth.locks = false) (post : Int32 → Prop) :
    ∀ (n : Nat) (x1 : Int32) (x2 : Int32) (x3 : Int32) (H : Heap) (locs : List Loc) (ls : Array Slot), wp_X6_isWished_4 b lb post n x1 x2 x3 → ig_Z D kk ad bs s H locs a la b lb lo → lv_has ls 4 [(0, .ref (ad 97)), (1, .int x1), (2, .int x2), (3, .int x3)] → W p l e (k2_rm 1 21) s m args below meth c H locs 0 0 (MQ below (va_Qi (fun (r : Int32) (_ : Unit) => post r) (fun _ t => ig_Wd D kk ad bs a la b lb lo t) (ig_A bs)) args s 0 0 (ig_A bs)) (F0 m 4 ls []) := by
  intro n
  induction n with
  | zero => intro x1 x2 x3 H locs ls hf Z hl; exact False.elim hf
  | succ n ih =>
    intro x1 x2 x3 H locs ls hf Z hl
    refine lv_iload_n F.1 F.2.1 dX6_isWished_4 rfl (lv_at hl 3 rfl) ?_
    refine lv_aload_n F.1 F.2.1 dX6_isWished_5 rfl (lv_at hl 0 rfl) ?_
    refine gf_X6_69 F E Z dX6_isWished_6 ?_
    refine lv_icmp_ge (tgt := 61) F.1 F.2.1 dX6_isWished_9 (by decide) (fun c_1 => ?_) (fun c_1 => ?_)
    · have hf := hf.1 c_1
      refine lv_iload_n F.1 F.2.1 dX6_isWished_61 rfl (lv_at hl 2 rfl) ?_
      exact W.zret (v := x2) F.1 F.2.1 hr (ig_narrow hf.1) (fun t ht hW => ⟨⟨_, (), rfl, hf.2, Z.wd E ht hW⟩, Z.fr ht⟩) Z.2.2.2 dX6_isWished_62
    · have hf := hf.2 c_1
      refine lv_iload_n F.1 F.2.1 dX6_isWished_12 rfl (lv_at hl 2 rfl) ?_
      refine lv_if_ne (tgt := 49) F.1 F.2.1 dX6_isWished_13 (by decide) (fun c_2 => ?_) (fun c_2 => ?_)
      · have hf := hf.1 c_2
        refine lv_iconst (v := 1) F.1 F.2.1 dX6_isWished_49 (by decide) ?_
        refine lv_goto (tgt := 54) F.1 F.2.1 dX6_isWished_50 (by decide) ?_
        refine lv_istore_n (lv' := [(2, .int 1), (0, .ref (ad 97)), (1, .int x1), (3, .int x3)]) F.1 F.2.1 dX6_isWished_54 rfl hl (by decide) rfl (fun ls hl => ?_)
        refine lv_iinc (v := x3 + 1) (lv' := [(3, .int (x3 + 1)), (2, .int 1), (0, .ref (ad 97)), (1, .int x1)]) F.1 F.2.1 dX6_isWished_55 hl (k := 3) rfl (by rfl) (by decide) rfl (fun ls hl => ?_)
        refine lv_goto (tgt := 4) F.1 F.2.1 dX6_isWished_58 (by decide) ?_
        exact ih x1 1 (x3 + 1) _ _ _ hf Z (lv_sub hl [2, 3, 1, 0] rfl)
      · have hf := hf.2 c_2
        refine lv_aload_n F.1 F.2.1 dX6_isWished_16 rfl (lv_at hl 0 rfl) ?_
        refine gf_X6_22 F E Z dX6_isWished_17 ?_
        refine lv_iload_n F.1 F.2.1 dX6_isWished_20 rfl (lv_at hl 1 rfl) ?_
        have hv3 := hf.1
        have hf := hf.2
        refine ig_iald (f := b 102) F E Z (by decide) (by rw [ig_mm_b _ _ (by decide)]; exact (ig_k_102 _ _ _ _ _ _)) hv3 dX6_isWished_21 ?_
        refine lv_aload_n F.1 F.2.1 dX6_isWished_22 rfl (lv_at hl 0 rfl) ?_
        refine gf_X6_22 F E Z dX6_isWished_23 ?_
        refine lv_aload_n F.1 F.2.1 dX6_isWished_26 rfl (lv_at hl 0 rfl) ?_
        refine gf_X6_106 F E Z dX6_isWished_27 ?_
        have hv4 := hf.1
        have hf := hf.2
        refine ig_iald (f := b 102) F E Z (by decide) (by rw [ig_mm_b _ _ (by decide)]; exact (ig_k_102 _ _ _ _ _ _)) hv4 dX6_isWished_30 ?_
        refine lv_iconst (v := (-1)) F.1 F.2.1 dX6_isWished_31 (by decide) ?_
        refine lv_ixor F.1 F.2.1 dX6_isWished_32 ?_
        refine lv_iand F.1 F.2.1 dX6_isWished_33 ?_
        refine lv_iload_n F.1 F.2.1 dX6_isWished_34 rfl (lv_at hl 3 rfl) ?_
        have hM := k_X6_has l (D := D) (kk := kk) (ad := ad) (bs := bs) (a := a) (la := la) (b := b) (lb := lb) (lo := lo) ((b 102 x1.toNatClampNeg) &&& ((b 102 (b 97 10).toNatClampNeg) ^^^ ((-1)))) x3 hf
        refine ig_calli E Z (ig_runS (As := [.int ((b 102 x1.toNatClampNeg) &&& ((b 102 (b 97 10).toNatClampNeg) ^^^ ((-1)))), .int x3]) (rest := []) F E Z hl G_X6_87 hM rfl md_X6_has rfl ⟨rfl, rfl⟩ ⟨Nat.le_of_ble_eq_true rfl, Nat.le_of_ble_eq_true rfl⟩ (Nat.le_of_ble_eq_true rfl) dX6_isWished_35 ⟨Nat.le_of_ble_eq_true rfl, Nat.le_of_ble_eq_true rfl⟩) (fun r5 u H locs hf Z => ?_)
        refine lv_if_eq (tgt := 53) F.1 F.2.1 dX6_isWished_38 (by decide) (fun c_6 => ?_) (fun c_6 => ?_)
        · have hf := hf.1 c_6
          refine lv_iconst (v := 0) F.1 F.2.1 dX6_isWished_53 (by decide) ?_
          refine lv_istore_n (lv' := [(2, .int 0), (0, .ref (ad 97)), (1, .int x1), (3, .int x3)]) F.1 F.2.1 dX6_isWished_54 rfl hl (by decide) rfl (fun ls hl => ?_)
          refine lv_iinc (v := x3 + 1) (lv' := [(3, .int (x3 + 1)), (2, .int 0), (0, .ref (ad 97)), (1, .int x1)]) F.1 F.2.1 dX6_isWished_55 hl (k := 3) rfl (by rfl) (by decide) rfl (fun ls hl => ?_)
          refine lv_goto (tgt := 4) F.1 F.2.1 dX6_isWished_58 (by decide) ?_
          exact ih x1 0 (x3 + 1) _ _ _ hf Z (lv_sub hl [2, 3, 1, 0] rfl)
        · have hf := hf.2 c_6
          refine lv_aload_n F.1 F.2.1 dX6_isWished_41 rfl (lv_at hl 0 rfl) ?_
          refine lv_iload_n F.1 F.2.1 dX6_isWished_42 rfl (lv_at hl 3 rfl) ?_
          have hM := k_X6_isDemanded l (D := D) (kk := kk) (ad := ad) (bs := bs) (a := a) (la := la) (b := b) (lb := lb) (lo := lo) x3 hf
          refine ig_calli E Z (ig_runV (As := [.int x3]) (rest := []) F E Z hl G_X6_116 hM (i := 97) (by decide) (ig_k_97 _ _ _ _ _ _) rfl rfl md_X6_isDemanded rfl ⟨rfl, rfl⟩ ⟨Nat.le_of_ble_eq_true rfl, Nat.le_of_ble_eq_true rfl⟩ (Nat.le_of_ble_eq_true rfl) dX6_isWished_43 ⟨Nat.le_of_ble_eq_true rfl, Nat.le_of_ble_eq_true rfl⟩) (fun r7 u H locs hf Z => ?_)
          refine lv_if_eq (tgt := 53) F.1 F.2.1 dX6_isWished_46 (by decide) (fun c_8 => ?_) (fun c_8 => ?_)
          · have hf := hf.1 c_8
            refine lv_iconst (v := 0) F.1 F.2.1 dX6_isWished_53 (by decide) ?_
            refine lv_istore_n (lv' := [(2, .int 0), (0, .ref (ad 97)), (1, .int x1), (3, .int x3)]) F.1 F.2.1 dX6_isWished_54 rfl hl (by decide) rfl (fun ls hl => ?_)
            refine lv_iinc (v := x3 + 1) (lv' := [(3, .int (x3 + 1)), (2, .int 0), (0, .ref (ad 97)), (1, .int x1)]) F.1 F.2.1 dX6_isWished_55 hl (k := 3) rfl (by rfl) (by decide) rfl (fun ls hl => ?_)
            refine lv_goto (tgt := 4) F.1 F.2.1 dX6_isWished_58 (by decide) ?_
            exact ih x1 0 (x3 + 1) _ _ _ hf Z (lv_sub hl [2, 3, 1, 0] rfl)
          · have hf := hf.2 c_8
            refine lv_iconst (v := 1) F.1 F.2.1 dX6_isWished_49 (by decide) ?_
            refine lv_goto (tgt := 54) F.1 F.2.1 dX6_isWished_50 (by decide) ?_
            refine lv_istore_n (lv' := [(2, .int 1), (0, .ref (ad 97)), (1, .int x1), (3, .int x3)]) F.1 F.2.1 dX6_isWished_54 rfl hl (by decide) rfl (fun ls hl => ?_)
            refine lv_iinc (v := x3 + 1) (lv' := [(3, .int (x3 + 1)), (2, .int 1), (0, .ref (ad 97)), (1, .int x1)]) F.1 F.2.1 dX6_isWished_55 hl (k := 3) rfl (by rfl) (by decide) rfl (fun ls hl => ?_)
            refine lv_goto (tgt := 4) F.1 F.2.1 dX6_isWished_58 (by decide) ?_
            exact ih x1 1 (x3 + 1) _ _ _ hf Z (lv_sub hl [2, 3, 1, 0] rfl)
set_option maxHeartbeats 4000000 in
set_option maxRecDepth 100000 in
theorem k_X6_isWished (l : Launch) {D : va_G} {kk : Nat → ClassId} {ad : Nat → Nat} {bs : Nat} {a : ig_M} {la : Int64} {b : ig_M} {lb lo : Int64} (x1 : Int32) {post : Int32 → Prop} (hf : wp_X6_isWished b lb x1 post) : Met l yX6_isWished (ig_ws yX6_isWished cX6_isWished 4 (some .boolean)) (k2_rm 1 21) (va_Pc [.ref (ad 97), .int x1] (ig_Wd D kk ad bs a la b lb lo)) (va_Qi (fun (r : Int32) (_ : Unit) => post r) (fun _ t => ig_Wd D kk ad bs a la b lb lo t) (ig_A bs)) 0 0 (ig_A bs) := by
  refine Met.ofW (cc := cX6_isWished) (maxL := 4) (ret := (some .boolean)) (by decide) rfl ?_
  intro p e s m args below meth c s₁ B hml hv
  obtain ⟨rfl, E, hP⟩ := hv
  have hk := B.notSynchronized
  have hr := B.returns
  have F : CallFix p m c cX6_isWished 4 s _ ig_all RX6 := ⟨B.exec, B.bytes, hml, findClass_of_methodNamed B.named, fun w hw => atoms_spec B.pre w (List.mem_cons_of_mem _ hw)⟩
  have Z : ig_Z D kk ad bs s s.heap [] a la b lb lo := ig_Z.rf hP
  have hl := lv_entry ([.ref (ad 97), .int x1]) (n := 4) (Nat.le_of_ble_eq_true rfl)
  rw [lg_entry_eq]
  generalize (lg_sl ([.ref (ad 97), .int x1]) ++ List.replicate (4 - (lg_sl ([.ref (ad 97), .int x1])).length) Slot.unset).toArray = ls at hl ⊢
  have hl : lv_has ls 4 [(0, .ref (ad 97)), (1, .int x1)] := hl
  refine lv_iconst (v := 0) F.1 F.2.1 dX6_isWished_0 (by decide) ?_
  refine lv_istore_n (lv' := [(2, .int 0), (0, .ref (ad 97)), (1, .int x1)]) F.1 F.2.1 dX6_isWished_1 rfl hl (by decide) rfl (fun ls hl => ?_)
  refine lv_iconst (v := 0) F.1 F.2.1 dX6_isWished_2 (by decide) ?_
  refine lv_istore_n (lv' := [(3, .int 0), (2, .int 0), (0, .ref (ad 97)), (1, .int x1)]) F.1 F.2.1 dX6_isWished_3 rfl hl (by decide) rfl (fun ls hl => ?_)
  obtain ⟨n1, hf⟩ := hf
  exact wm_X6_isWished_4 F E hr hk post n1 x1 0 0 _ _ _ hf Z (lv_sub hl [2, 3, 1, 0] rfl)
set_option maxHeartbeats 4000000 in
set_option maxRecDepth 100000 in
theorem wm_X6_demandedStage_2 (F : CallFix p m c cX6_demandedStage 3 s args ig_all RX6) (E : ig_E D kk ad bs s) (hr : meth.sig.returnType = (some .int)) (hk : meth.locks = false) (post : Int32 → Prop) :
    ∀ (n : Nat) (x1 : Int32) (H : Heap) (locs : List Loc) (ls : Array Slot), wp_X6_demandedStage_2 b lb post n x1 → ig_Z D kk ad bs s H locs a la b lb lo → lv_has ls 3 [(0, .ref (ad 97)), (1, .int x1)] → W p l e (k2_rm 2 44) s m args below meth c H locs 0 0 (MQ below (va_Qi (fun (r : Int32) (_ : Unit) => post r) (fun _ t => ig_Wd D kk ad bs a la b lb lo t) (ig_A bs)) args s 0 0 (ig_A bs)) (F0 m 2 ls []) := by
  intro n
  induction n with
  | zero => intro x1 H locs ls hf Z hl; exact False.elim hf
  | succ n ih =>
    intro x1 H locs ls hf Z hl
    refine lv_iload_n F.1 F.2.1 dX6_demandedStage_2 rfl (lv_at hl 1 rfl) ?_
    refine lv_aload_n F.1 F.2.1 dX6_demandedStage_3 rfl (lv_at hl 0 rfl) ?_
    refine gf_X6_76 F E Z dX6_demandedStage_4 ?_
    refine lv_icmp_ge (tgt := 38) F.1 F.2.1 dX6_demandedStage_7 (by decide) (fun c_1 => ?_) (fun c_1 => ?_)
    · have hf := hf.1 c_1
      refine lv_iconst (v := (-1)) F.1 F.2.1 dX6_demandedStage_38 (by decide) ?_
      exact W.iret (v := (-1)) F.1 F.2.1 hr (fun t ht hW => ⟨⟨_, (), rfl, hf, Z.wd E ht hW⟩, Z.fr ht⟩) Z.2.2.2 dX6_demandedStage_39
    · have hf := hf.2 c_1
      refine lv_aload_n F.1 F.2.1 dX6_demandedStage_10 rfl (lv_at hl 0 rfl) ?_
      refine gf_X6_106 F E Z dX6_demandedStage_11 ?_
      refine lv_iload_n F.1 F.2.1 dX6_demandedStage_14 rfl (lv_at hl 1 rfl) ?_
      refine lv_iadd F.1 F.2.1 dX6_demandedStage_15 ?_
      refine lv_aload_n F.1 F.2.1 dX6_demandedStage_16 rfl (lv_at hl 0 rfl) ?_
      refine gf_X6_76 F E Z dX6_demandedStage_17 ?_
      have hz2 := hf.1
      have hf := hf.2
      refine lv_irem F.1 F.2.1 dX6_demandedStage_20 hz2 ?_
      refine lv_istore_n (lv' := [(2, .int (((b 97 10) + x1) - ((b 97 10) + x1) / (b 97 7) * (b 97 7))), (0, .ref (ad 97)), (1, .int x1)]) F.1 F.2.1 dX6_demandedStage_21 rfl hl (by decide) rfl (fun ls hl => ?_)
      refine lv_aload_n F.1 F.2.1 dX6_demandedStage_22 rfl (lv_at hl 1 rfl) ?_
      refine lv_iload_n F.1 F.2.1 dX6_demandedStage_23 rfl (lv_at hl 0 rfl) ?_
      have hM := k_X6_isWished l (D := D) (kk := kk) (ad := ad) (bs := bs) (a := a) (la := la) (b := b) (lb := lb) (lo := lo) (((b 97 10) + x1) - ((b 97 10) + x1) / (b 97 7) * (b 97 7)) hf
      refine ig_calli E Z (ig_runV (As := [.int (((b 97 10) + x1) - ((b 97 10) + x1) / (b 97 7) * (b 97 7))]) (rest := []) F E Z hl G_X6_119 hM (i := 97) (by decide) (ig_k_97 _ _ _ _ _ _) rfl rfl md_X6_isWished rfl ⟨rfl, rfl⟩ ⟨Nat.le_of_ble_eq_true rfl, Nat.le_of_ble_eq_true rfl⟩ (Nat.le_of_ble_eq_true rfl) dX6_demandedStage_24 ⟨Nat.le_of_ble_eq_true rfl, Nat.le_of_ble_eq_true rfl⟩) (fun r3 u H locs hf Z => ?_)
      refine lv_if_eq (tgt := 32) F.1 F.2.1 dX6_demandedStage_27 (by decide) (fun c_4 => ?_) (fun c_4 => ?_)
      · have hf := hf.1 c_4
        refine lv_iinc (v := x1 + 1) (lv' := [(1, .int (x1 + 1)), (2, .int (((b 97 10) + x1) - ((b 97 10) + x1) / (b 97 7) * (b 97 7))), (0, .ref (ad 97))]) F.1 F.2.1 dX6_demandedStage_32 hl (k := 2) rfl (by rfl) (by decide) rfl (fun ls hl => ?_)
        refine lv_goto (tgt := 2) F.1 F.2.1 dX6_demandedStage_35 (by decide) ?_
        exact ih (x1 + 1) _ _ _ hf Z (lv_sub hl [2, 0] rfl)
      · have hf := hf.2 c_4
        refine lv_iload_n F.1 F.2.1 dX6_demandedStage_30 rfl (lv_at hl 0 rfl) ?_
        exact W.iret (v := ((b 97 10) + x1) - ((b 97 10) + x1) / (b 97 7) * (b 97 7)) F.1 F.2.1 hr (fun t ht hW => ⟨⟨_, (), rfl, hf, Z.wd E ht hW⟩, Z.fr ht⟩) Z.2.2.2 dX6_demandedStage_31
set_option maxHeartbeats 4000000 in
set_option maxRecDepth 100000 in
theorem k_X6_demandedStage (l : Launch) {D : va_G} {kk : Nat → ClassId} {ad : Nat → Nat} {bs : Nat} {a : ig_M} {la : Int64} {b : ig_M} {lb lo : Int64} {post : Int32 → Prop} (hf : wp_X6_demandedStage b lb post) : Met l yX6_demandedStage (ig_ws yX6_demandedStage cX6_demandedStage 3 (some .int)) (k2_rm 2 44) (va_Pc [.ref (ad 97)] (ig_Wd D kk ad bs a la b lb lo)) (va_Qi (fun (r : Int32) (_ : Unit) => post r) (fun _ t => ig_Wd D kk ad bs a la b lb lo t) (ig_A bs)) 0 0 (ig_A bs) := by
  refine Met.ofW (cc := cX6_demandedStage) (maxL := 3) (ret := (some .int)) (by decide) rfl ?_
  intro p e s m args below meth c s₁ B hml hv
  obtain ⟨rfl, E, hP⟩ := hv
  have hk := B.notSynchronized
  have hr := B.returns
  have F : CallFix p m c cX6_demandedStage 3 s _ ig_all RX6 := ⟨B.exec, B.bytes, hml, findClass_of_methodNamed B.named, fun w hw => atoms_spec B.pre w (List.mem_cons_of_mem _ hw)⟩
  have Z : ig_Z D kk ad bs s s.heap [] a la b lb lo := ig_Z.rf hP
  have hl := lv_entry ([.ref (ad 97)]) (n := 3) (Nat.le_of_ble_eq_true rfl)
  rw [lg_entry_eq]
  generalize (lg_sl ([.ref (ad 97)]) ++ List.replicate (3 - (lg_sl ([.ref (ad 97)])).length) Slot.unset).toArray = ls at hl ⊢
  have hl : lv_has ls 3 [(0, .ref (ad 97))] := hl
  refine lv_iconst (v := 1) F.1 F.2.1 dX6_demandedStage_0 (by decide) ?_
  refine lv_istore_n (lv' := [(1, .int 1), (0, .ref (ad 97))]) F.1 F.2.1 dX6_demandedStage_1 rfl hl (by decide) rfl (fun ls hl => ?_)
  obtain ⟨n1, hf⟩ := hf
  exact wm_X6_demandedStage_2 F E hr hk post n1 1 _ _ _ hf Z (lv_sub hl [1, 0] rfl)
set_option maxHeartbeats 4000000 in
set_option maxRecDepth 100000 in
theorem wm_X6_leave_116 (F : CallFix p m c cX6_leave 7 s args ig_all RX6) (E : ig_E D kk ad bs s) (hr : meth.sig.returnType = none) (hk : meth.locks = false) (k_121 : ig_M → Int64 → Int32 → Int32 → Int32 → Int32 → Int32 → Int32 → Prop) (post : ig_M → Int64 → Prop) (h_121 : ∀ (b : ig_M) (lb : Int64) (x1 : Int32) (x2 : Int32) (x3 : Int32) (x4 : Int32) (x5 : Int32) (t0 : Int32) (H : Heap) (locs : List Loc) (ls : Array Slot), k_121 b lb x1 x2 x3 x4 x5 t0 → ig_Z D kk ad bs s H locs a la b lb lo → lv_has ls 7 [(0, .ref (ad 97)), (1, .int x1), (2, .int x2), (3, .int x3), (4, .int x4), (5, .int x5)] → W p l e (k2_rm 3 66) s m args below meth c H locs 0 0 (MQ below (va_Qv (fun u : ig_M × Int64 => post u.1 u.2) (fun u t => ig_Wd D kk ad bs a la u.1 u.2 lo t) (ig_A bs)) args s 0 0 (ig_A bs)) (F0 m 121 ls [.int t0])) :
    ∀ (b : ig_M) (lb : Int64) (x1 : Int32) (x2 : Int32) (x3 : Int32) (x4 : Int32) (x5 : Int32) (H : Heap) (locs : List Loc) (ls : Array Slot), wp_X6_leave_116 k_121 post b lb x1 x2 x3 x4 x5 → ig_Z D kk ad bs s H locs a la b lb lo → lv_has ls 7 [(0, .ref (ad 97)), (1, .int x1), (2, .int x2), (3, .int x3), (4, .int x4), (5, .int x5)] → W p l e (k2_rm 3 66) s m args below meth c H locs 0 0 (MQ below (va_Qv (fun u : ig_M × Int64 => post u.1 u.2) (fun u t => ig_Wd D kk ad bs a la u.1 u.2 lo t) (ig_A bs)) args s 0 0 (ig_A bs)) (F0 m 116 ls []) := by
  intro b lb x1 x2 x3 x4 x5 H locs ls hf Z hl
  refine lv_iconst (v := 1) F.1 F.2.1 dX6_leave_116 (by decide) ?_
  refine lv_goto (tgt := 121) F.1 F.2.1 dX6_leave_117 (by decide) ?_
  exact h_121 b lb x1 x2 x3 x4 x5 1 _ _ _ hf Z (lv_sub hl [0, 1, 2, 3, 4, 5] rfl)
set_option maxHeartbeats 4000000 in
set_option maxRecDepth 100000 in
theorem wm_X6_leave_120 (F : CallFix p m c cX6_leave 7 s args ig_all RX6) (E : ig_E D kk ad bs s) (hr : meth.sig.returnType = none) (hk : meth.locks = false) (k_121 : ig_M → Int64 → Int32 → Int32 → Int32 → Int32 → Int32 → Int32 → Prop) (post : ig_M → Int64 → Prop) (h_121 : ∀ (b : ig_M) (lb : Int64) (x1 : Int32) (x2 : Int32) (x3 : Int32) (x4 : Int32) (x5 : Int32) (t0 : Int32) (H : Heap) (locs : List Loc) (ls : Array Slot), k_121 b lb x1 x2 x3 x4 x5 t0 → ig_Z D kk ad bs s H locs a la b lb lo → lv_has ls 7 [(0, .ref (ad 97)), (1, .int x1), (2, .int x2), (3, .int x3), (4, .int x4), (5, .int x5)] → W p l e (k2_rm 3 66) s m args below meth c H locs 0 0 (MQ below (va_Qv (fun u : ig_M × Int64 => post u.1 u.2) (fun u t => ig_Wd D kk ad bs a la u.1 u.2 lo t) (ig_A bs)) args s 0 0 (ig_A bs)) (F0 m 121 ls [.int t0])) :
    ∀ (b : ig_M) (lb : Int64) (x1 : Int32) (x2 : Int32) (x3 : Int32) (x4 : Int32) (x5 : Int32) (H : Heap) (locs : List Loc) (ls : Array Slot), wp_X6_leave_120 k_121 post b lb x1 x2 x3 x4 x5 → ig_Z D kk ad bs s H locs a la b lb lo → lv_has ls 7 [(0, .ref (ad 97)), (1, .int x1), (2, .int x2), (3, .int x3), (4, .int x4), (5, .int x5)] → W p l e (k2_rm 3 66) s m args below meth c H locs 0 0 (MQ below (va_Qv (fun u : ig_M × Int64 => post u.1 u.2) (fun u t => ig_Wd D kk ad bs a la u.1 u.2 lo t) (ig_A bs)) args s 0 0 (ig_A bs)) (F0 m 120 ls []) := by
  intro b lb x1 x2 x3 x4 x5 H locs ls hf Z hl
  refine lv_iconst (v := 0) F.1 F.2.1 dX6_leave_120 (by decide) ?_
  exact h_121 b lb x1 x2 x3 x4 x5 0 _ _ _ hf Z (lv_sub hl [0, 1, 2, 3, 4, 5] rfl)
set_option maxHeartbeats 4000000 in
set_option maxRecDepth 100000 in
theorem wm_X6_leave_121 (F : CallFix p m c cX6_leave 7 s args ig_all RX6) (E : ig_E D kk ad bs s) (hr : meth.sig.returnType = none) (hk : meth.locks = false) (k_58 : ig_M → Int64 → Int32 → Int32 → Int32 → Int32 → Int32 → Prop) (post : ig_M → Int64 → Prop) (h_58 : ∀ (b : ig_M) (lb : Int64) (x1 : Int32) (x2 : Int32) (x3 : Int32) (x4 : Int32) (x5 : Int32) (H : Heap) (locs : List Loc) (ls : Array Slot), k_58 b lb x1 x2 x3 x4 x5 → ig_Z D kk ad bs s H locs a la b lb lo → lv_has ls 7 [(0, .ref (ad 97)), (1, .int x1), (2, .int x2), (3, .int x3), (4, .int x4), (5, .int x5)] → W p l e (k2_rm 3 66) s m args below meth c H locs 0 0 (MQ below (va_Qv (fun u : ig_M × Int64 => post u.1 u.2) (fun u t => ig_Wd D kk ad bs a la u.1 u.2 lo t) (ig_A bs)) args s 0 0 (ig_A bs)) (F0 m 58 ls [])) :
    ∀ (b : ig_M) (lb : Int64) (x1 : Int32) (x2 : Int32) (x3 : Int32) (x4 : Int32) (x5 : Int32) (t0 : Int32) (H : Heap) (locs : List Loc) (ls : Array Slot), wp_X6_leave_121 k_58 post b lb x1 x2 x3 x4 x5 t0 → ig_Z D kk ad bs s H locs a la b lb lo → lv_has ls 7 [(0, .ref (ad 97)), (1, .int x1), (2, .int x2), (3, .int x3), (4, .int x4), (5, .int x5)] → W p l e (k2_rm 3 66) s m args below meth c H locs 0 0 (MQ below (va_Qv (fun u : ig_M × Int64 => post u.1 u.2) (fun u t => ig_Wd D kk ad bs a la u.1 u.2 lo t) (ig_A bs)) args s 0 0 (ig_A bs)) (F0 m 121 ls [.int t0]) := by
  intro b lb x1 x2 x3 x4 x5 t0 H locs ls hf Z hl
  refine lv_istore (lv' := [(6, .int t0), (0, .ref (ad 97)), (1, .int x1), (2, .int x2), (3, .int x3), (4, .int x4), (5, .int x5)]) F.1 F.2.1 dX6_leave_121 hl (by decide) rfl (fun ls hl => ?_)
  refine lv_iload F.1 F.2.1 dX6_leave_123 (lv_at hl 5 rfl) ?_
  refine lv_if_eq (tgt := 146) F.1 F.2.1 dX6_leave_125 (by decide) (fun c_18 => ?_) (fun c_18 => ?_)
  · have hf := hf.1 c_18
    refine lv_iconst (v := 0) F.1 F.2.1 dX6_leave_146 (by decide) ?_
    refine lv_istore (lv' := [(4, .int 0), (6, .int t0), (0, .ref (ad 97)), (1, .int x1), (2, .int x2), (3, .int x3), (5, .int x5)]) F.1 F.2.1 dX6_leave_147 hl (by decide) rfl (fun ls hl => ?_)
    refine lv_iinc (v := x5 + 1) (lv' := [(5, .int (x5 + 1)), (4, .int 0), (6, .int t0), (0, .ref (ad 97)), (1, .int x1), (2, .int x2), (3, .int x3)]) F.1 F.2.1 dX6_leave_149 hl (k := 6) rfl (by rfl) (by decide) rfl (fun ls hl => ?_)
    refine lv_goto (tgt := 58) F.1 F.2.1 dX6_leave_152 (by decide) ?_
    exact h_58 b lb x1 x2 x3 0 (x5 + 1) _ _ _ hf Z (lv_sub hl [3, 4, 5, 6, 1, 0] rfl)
  · have hf := hf.2 c_18
    refine lv_iload_n F.1 F.2.1 dX6_leave_128 rfl (lv_at hl 4 rfl) ?_
    refine lv_iload F.1 F.2.1 dX6_leave_129 (lv_at hl 6 rfl) ?_
    have hM := k_X6_has l (D := D) (kk := kk) (ad := ad) (bs := bs) (a := a) (la := la) (b := b) (lb := lb) (lo := lo) x3 x5 hf
    refine ig_calli E Z (ig_runS (As := [.int x3, .int x5]) (rest := []) F E Z hl G_X6_87 hM rfl md_X6_has rfl ⟨rfl, rfl⟩ ⟨Nat.le_of_ble_eq_true rfl, Nat.le_of_ble_eq_true rfl⟩ (Nat.le_of_ble_eq_true rfl) dX6_leave_131 ⟨Nat.le_of_ble_eq_true rfl, Nat.le_of_ble_eq_true rfl⟩) (fun r19 u H locs hf Z => ?_)
    refine lv_if_eq (tgt := 142) F.1 F.2.1 dX6_leave_134 (by decide) (fun c_20 => ?_) (fun c_20 => ?_)
    · have hf := hf.1 c_20
      refine lv_iconst (v := 1) F.1 F.2.1 dX6_leave_142 (by decide) ?_
      refine lv_goto (tgt := 147) F.1 F.2.1 dX6_leave_143 (by decide) ?_
      refine lv_istore (lv' := [(4, .int 1), (6, .int t0), (0, .ref (ad 97)), (1, .int x1), (2, .int x2), (3, .int x3), (5, .int x5)]) F.1 F.2.1 dX6_leave_147 hl (by decide) rfl (fun ls hl => ?_)
      refine lv_iinc (v := x5 + 1) (lv' := [(5, .int (x5 + 1)), (4, .int 1), (6, .int t0), (0, .ref (ad 97)), (1, .int x1), (2, .int x2), (3, .int x3)]) F.1 F.2.1 dX6_leave_149 hl (k := 6) rfl (by rfl) (by decide) rfl (fun ls hl => ?_)
      refine lv_goto (tgt := 58) F.1 F.2.1 dX6_leave_152 (by decide) ?_
      exact h_58 b lb x1 x2 x3 1 (x5 + 1) _ _ _ hf Z (lv_sub hl [3, 4, 5, 6, 1, 0] rfl)
    · have hf := hf.2 c_20
      refine lv_iload F.1 F.2.1 dX6_leave_137 (lv_at hl 0 rfl) ?_
      refine lv_if_eq (tgt := 146) F.1 F.2.1 dX6_leave_139 (by decide) (fun c_21 => ?_) (fun c_21 => ?_)
      · have hf := hf.1 c_21
        refine lv_iconst (v := 0) F.1 F.2.1 dX6_leave_146 (by decide) ?_
        refine lv_istore (lv' := [(4, .int 0), (6, .int t0), (0, .ref (ad 97)), (1, .int x1), (2, .int x2), (3, .int x3), (5, .int x5)]) F.1 F.2.1 dX6_leave_147 hl (by decide) rfl (fun ls hl => ?_)
        refine lv_iinc (v := x5 + 1) (lv' := [(5, .int (x5 + 1)), (4, .int 0), (6, .int t0), (0, .ref (ad 97)), (1, .int x1), (2, .int x2), (3, .int x3)]) F.1 F.2.1 dX6_leave_149 hl (k := 6) rfl (by rfl) (by decide) rfl (fun ls hl => ?_)
        refine lv_goto (tgt := 58) F.1 F.2.1 dX6_leave_152 (by decide) ?_
        exact h_58 b lb x1 x2 x3 0 (x5 + 1) _ _ _ hf Z (lv_sub hl [3, 4, 5, 6, 1, 0] rfl)
      · have hf := hf.2 c_21
        refine lv_iconst (v := 1) F.1 F.2.1 dX6_leave_142 (by decide) ?_
        refine lv_goto (tgt := 147) F.1 F.2.1 dX6_leave_143 (by decide) ?_
        refine lv_istore (lv' := [(4, .int 1), (6, .int t0), (0, .ref (ad 97)), (1, .int x1), (2, .int x2), (3, .int x3), (5, .int x5)]) F.1 F.2.1 dX6_leave_147 hl (by decide) rfl (fun ls hl => ?_)
        refine lv_iinc (v := x5 + 1) (lv' := [(5, .int (x5 + 1)), (4, .int 1), (6, .int t0), (0, .ref (ad 97)), (1, .int x1), (2, .int x2), (3, .int x3)]) F.1 F.2.1 dX6_leave_149 hl (k := 6) rfl (by rfl) (by decide) rfl (fun ls hl => ?_)
        refine lv_goto (tgt := 58) F.1 F.2.1 dX6_leave_152 (by decide) ?_
        exact h_58 b lb x1 x2 x3 1 (x5 + 1) _ _ _ hf Z (lv_sub hl [3, 4, 5, 6, 1, 0] rfl)
set_option maxHeartbeats 4000000 in
set_option maxRecDepth 100000 in
theorem wm_X6_leave_237 (F : CallFix p m c cX6_leave 7 s args ig_all RX6) (E : ig_E D kk ad bs s) (hr : meth.sig.returnType = none) (hk : meth.locks = false) (post : ig_M → Int64 → Prop) :
    ∀ (b : ig_M) (lb : Int64) (t0 : Int32) (H : Heap) (locs : List Loc) (ls : Array Slot), wp_X6_leave_237 post b lb t0 → ig_Z D kk ad bs s H locs a la b lb lo → lv_has ls 7 [] → W p l e (k2_rm 3 66) s m args below meth c H locs 0 0 (MQ below (va_Qv (fun u : ig_M × Int64 => post u.1 u.2) (fun u t => ig_Wd D kk ad bs a la u.1 u.2 lo t) (ig_A bs)) args s 0 0 (ig_A bs)) (F0 m 237 ls [.int t0, .ref (ad 97)]) := by
  intro b lb t0 H locs ls hf Z hl
  refine pf_X6_103 F E Z dX6_leave_237 (fun H locs b33 hb33 Z => ?_)
  have hf := hf b33 hb33
  exact W.vret F.1 F.2.1 hr (fun t ht hW => ⟨⟨(b33, lb), rfl, hf, Z.wd E ht hW⟩, Z.fr ht⟩) Z.2.2.2 dX6_leave_240
set_option maxHeartbeats 4000000 in
set_option maxRecDepth 100000 in
theorem wm_X6_leave_220 (F : CallFix p m c cX6_leave 7 s args ig_all RX6) (E : ig_E D kk ad bs s) (hr : meth.sig.returnType = none) (hk : meth.locks = false) (post : ig_M → Int64 → Prop) :
    ∀ (b : ig_M) (lb : Int64) (x4 : Int32) (t0 : Int32) (H : Heap) (locs : List Loc) (ls : Array Slot), wp_X6_leave_220 post b lb x4 t0 → ig_Z D kk ad bs s H locs a la b lb lo → lv_has ls 7 [(0, .ref (ad 97)), (4, .int x4)] → W p l e (k2_rm 3 66) s m args below meth c H locs 0 0 (MQ below (va_Qv (fun u : ig_M × Int64 => post u.1 u.2) (fun u t => ig_Wd D kk ad bs a la u.1 u.2 lo t) (ig_A bs)) args s 0 0 (ig_A bs)) (F0 m 220 ls [.int t0, .ref (ad 97)]) := by
  intro b lb x4 t0 H locs ls hf Z hl
  refine pf_X6_106 F E Z dX6_leave_220 (fun H locs b31 hb31 Z => ?_)
  have hf := hf b31 hb31
  refine lv_aload_n F.1 F.2.1 dX6_leave_223 rfl (lv_at hl 0 rfl) ?_
  refine lv_iload F.1 F.2.1 dX6_leave_224 (lv_at hl 1 rfl) ?_
  refine lv_if_eq (tgt := 233) F.1 F.2.1 dX6_leave_226 (by decide) (fun c_32 => ?_) (fun c_32 => ?_)
  · have hf := hf.1 c_32
    refine lv_aload_n F.1 F.2.1 dX6_leave_233 rfl (lv_at hl 0 rfl) ?_
    refine gf_X6_103 F E Z dX6_leave_234 ?_
    exact wm_X6_leave_237 F E hr hk post b31 lb (b31 97 9) _ _ _ hf Z (lv_sub hl [] rfl)
  · have hf := hf.2 c_32
    refine lv_iconst (v := 1) F.1 F.2.1 dX6_leave_229 (by decide) ?_
    refine lv_goto (tgt := 237) F.1 F.2.1 dX6_leave_230 (by decide) ?_
    exact wm_X6_leave_237 F E hr hk post b31 lb 1 _ _ _ hf Z (lv_sub hl [] rfl)
set_option maxHeartbeats 4000000 in
set_option maxRecDepth 100000 in
theorem wm_X6_leave_206 (F : CallFix p m c cX6_leave 7 s args ig_all RX6) (E : ig_E D kk ad bs s) (hr : meth.sig.returnType = none) (hk : meth.locks = false) (post : ig_M → Int64 → Prop) :
    ∀ (b : ig_M) (lb : Int64) (x2 : Int32) (x4 : Int32) (H : Heap) (locs : List Loc) (ls : Array Slot), wp_X6_leave_206 post b lb x2 x4 → ig_Z D kk ad bs s H locs a la b lb lo → lv_has ls 7 [(0, .ref (ad 97)), (2, .int x2), (4, .int x4)] → W p l e (k2_rm 3 66) s m args below meth c H locs 0 0 (MQ below (va_Qv (fun u : ig_M × Int64 => post u.1 u.2) (fun u t => ig_Wd D kk ad bs a la u.1 u.2 lo t) (ig_A bs)) args s 0 0 (ig_A bs)) (F0 m 206 ls []) := by
  intro b lb x2 x4 H locs ls hf Z hl
  refine lv_aload_n F.1 F.2.1 dX6_leave_206 rfl (lv_at hl 0 rfl) ?_
  refine lv_iload F.1 F.2.1 dX6_leave_207 (lv_at hl 2 rfl) ?_
  refine lv_if_eq (tgt := 216) F.1 F.2.1 dX6_leave_209 (by decide) (fun c_30 => ?_) (fun c_30 => ?_)
  · have hf := hf.1 c_30
    refine lv_aload_n F.1 F.2.1 dX6_leave_216 rfl (lv_at hl 0 rfl) ?_
    refine gf_X6_106 F E Z dX6_leave_217 ?_
    exact wm_X6_leave_220 F E hr hk post b lb x4 (b 97 10) _ _ _ hf Z (lv_sub hl [0, 2] rfl)
  · have hf := hf.2 c_30
    refine lv_iload_n F.1 F.2.1 dX6_leave_212 rfl (lv_at hl 1 rfl) ?_
    refine lv_goto (tgt := 220) F.1 F.2.1 dX6_leave_213 (by decide) ?_
    exact wm_X6_leave_220 F E hr hk post b lb x4 x2 _ _ _ hf Z (lv_sub hl [0, 2] rfl)
set_option maxHeartbeats 4000000 in
set_option maxRecDepth 100000 in
theorem wm_X6_leave_158 (F : CallFix p m c cX6_leave 7 s args ig_all RX6) (E : ig_E D kk ad bs s) (hr : meth.sig.returnType = none) (hk : meth.locks = false) (post : ig_M → Int64 → Prop) :
    ∀ (n : Nat) (b : ig_M) (lb : Int64) (x2 : Int32) (x3 : Int32) (x4 : Int32) (x5 : Int32) (H : Heap) (locs : List Loc) (ls : Array Slot), wp_X6_leave_158 post n b lb x2 x3 x4 x5 → ig_Z D kk ad bs s H locs a la b lb lo → lv_has ls 7 [(0, .ref (ad 97)), (2, .int x2), (3, .int x3), (4, .int x4), (5, .int x5)] → W p l e (k2_rm 3 66) s m args below meth c H locs 0 0 (MQ below (va_Qv (fun u : ig_M × Int64 => post u.1 u.2) (fun u t => ig_Wd D kk ad bs a la u.1 u.2 lo t) (ig_A bs)) args s 0 0 (ig_A bs)) (F0 m 158 ls []) := by
  intro n
  induction n with
  | zero => intro b lb x2 x3 x4 x5 H locs ls hf Z hl; exact False.elim hf
  | succ n ih =>
    intro b lb x2 x3 x4 x5 H locs ls hf Z hl
    refine lv_iload F.1 F.2.1 dX6_leave_158 (lv_at hl 4 rfl) ?_
    refine lv_aload_n F.1 F.2.1 dX6_leave_160 rfl (lv_at hl 0 rfl) ?_
    refine gf_X6_69 F E Z dX6_leave_161 ?_
    refine lv_icmp_ge (tgt := 206) F.1 F.2.1 dX6_leave_164 (by decide) (fun c_22 => ?_) (fun c_22 => ?_)
    · have hf := hf.1 c_22
      exact wm_X6_leave_206 F E hr hk post b lb x2 x4 _ _ _ hf Z (lv_sub hl [0, 1, 3] rfl)
    · have hf := hf.2 c_22
      refine lv_iload F.1 F.2.1 dX6_leave_167 (lv_at hl 3 rfl) ?_
      refine lv_if_eq (tgt := 206) F.1 F.2.1 dX6_leave_169 (by decide) (fun c_23 => ?_) (fun c_23 => ?_)
      · have hf := hf.1 c_23
        exact wm_X6_leave_206 F E hr hk post b lb x2 x4 _ _ _ hf Z (lv_sub hl [0, 1, 3] rfl)
      · have hf := hf.2 c_23
        refine lv_iload_n F.1 F.2.1 dX6_leave_172 rfl (lv_at hl 2 rfl) ?_
        refine lv_iload F.1 F.2.1 dX6_leave_173 (lv_at hl 4 rfl) ?_
        have hM := k_X6_has l (D := D) (kk := kk) (ad := ad) (bs := bs) (a := a) (la := la) (b := b) (lb := lb) (lo := lo) x3 x5 hf
        refine ig_calli E Z (ig_runS (As := [.int x3, .int x5]) (rest := []) F E Z hl G_X6_87 hM rfl md_X6_has rfl ⟨rfl, rfl⟩ ⟨Nat.le_of_ble_eq_true rfl, Nat.le_of_ble_eq_true rfl⟩ (Nat.le_of_ble_eq_true rfl) dX6_leave_175 ⟨Nat.le_of_ble_eq_true rfl, Nat.le_of_ble_eq_true rfl⟩) (fun r24 u H locs hf Z => ?_)
        refine lv_if_eq (tgt := 200) F.1 F.2.1 dX6_leave_178 (by decide) (fun c_25 => ?_) (fun c_25 => ?_)
        · have hf := hf.1 c_25
          refine lv_iinc (v := x5 + 1) (lv' := [(5, .int (x5 + 1)), (0, .ref (ad 97)), (2, .int x2), (3, .int x3), (4, .int x4)]) F.1 F.2.1 dX6_leave_200 hl (k := 4) rfl (by rfl) (by decide) rfl (fun ls hl => ?_)
          refine lv_goto (tgt := 158) F.1 F.2.1 dX6_leave_203 (by decide) ?_
          exact ih b lb x2 x3 x4 (x5 + 1) _ _ _ hf Z (lv_sub hl [1, 2, 3, 4, 0] rfl)
        · have hf := hf.2 c_25
          refine lv_aload_n F.1 F.2.1 dX6_leave_181 rfl (lv_at hl 0 rfl) ?_
          refine gf_X6_25 F E Z dX6_leave_182 ?_
          refine lv_iload F.1 F.2.1 dX6_leave_185 (lv_at hl 4 rfl) ?_
          refine lv_iconst (v := 2) F.1 F.2.1 dX6_leave_187 (by decide) ?_
          have hv26 := hf.1
          have hf := hf.2
          refine ig_iastB (n := 8) F E Z (by decide) (by decide) (fun r => ig_k_103 _ _ _ _ _ r) hv26 dX6_leave_188 (fun H locs b27 hb27 Z => ?_)
          have hf := hf b27 hb27
          refine lv_aload_n F.1 F.2.1 dX6_leave_189 rfl (lv_at hl 0 rfl) ?_
          refine gf_X6_28 F E Z dX6_leave_190 ?_
          refine lv_iload F.1 F.2.1 dX6_leave_193 (lv_at hl 4 rfl) ?_
          refine lv_aload_n F.1 F.2.1 dX6_leave_195 rfl (lv_at hl 0 rfl) ?_
          refine gf_X6_109 F E Z dX6_leave_196 ?_
          have hv28 := hf.1
          have hf := hf.2
          refine ig_iastB (n := 8) F E Z (by decide) (by decide) (fun r => ig_k_104 _ _ _ _ _ r) hv28 dX6_leave_199 (fun H locs b29 hb29 Z => ?_)
          have hf := hf b29 hb29
          refine lv_iinc (v := x5 + 1) (lv' := [(5, .int (x5 + 1)), (0, .ref (ad 97)), (2, .int x2), (3, .int x3), (4, .int x4)]) F.1 F.2.1 dX6_leave_200 hl (k := 4) rfl (by rfl) (by decide) rfl (fun ls hl => ?_)
          refine lv_goto (tgt := 158) F.1 F.2.1 dX6_leave_203 (by decide) ?_
          exact ih b29 lb x2 x3 x4 (x5 + 1) _ _ _ hf Z (lv_sub hl [1, 2, 3, 4, 0] rfl)
set_option maxHeartbeats 4000000 in
set_option maxRecDepth 100000 in
theorem wm_X6_leave_58 (F : CallFix p m c cX6_leave 7 s args ig_all RX6) (E : ig_E D kk ad bs s) (hr : meth.sig.returnType = none) (hk : meth.locks = false) (post : ig_M → Int64 → Prop) :
    ∀ (n : Nat) (b : ig_M) (lb : Int64) (x1 : Int32) (x2 : Int32) (x3 : Int32) (x4 : Int32) (x5 : Int32) (H : Heap) (locs : List Loc) (ls : Array Slot), wp_X6_leave_58 post n b lb x1 x2 x3 x4 x5 → ig_Z D kk ad bs s H locs a la b lb lo → lv_has ls 7 [(0, .ref (ad 97)), (1, .int x1), (2, .int x2), (3, .int x3), (4, .int x4), (5, .int x5)] → W p l e (k2_rm 3 66) s m args below meth c H locs 0 0 (MQ below (va_Qv (fun u : ig_M × Int64 => post u.1 u.2) (fun u t => ig_Wd D kk ad bs a la u.1 u.2 lo t) (ig_A bs)) args s 0 0 (ig_A bs)) (F0 m 58 ls []) := by
  intro n
  induction n with
  | zero => intro b lb x1 x2 x3 x4 x5 H locs ls hf Z hl; exact False.elim hf
  | succ n ih =>
    intro b lb x1 x2 x3 x4 x5 H locs ls hf Z hl
    refine lv_iload F.1 F.2.1 dX6_leave_58 (lv_at hl 5 rfl) ?_
    refine lv_aload_n F.1 F.2.1 dX6_leave_60 rfl (lv_at hl 0 rfl) ?_
    refine gf_X6_69 F E Z dX6_leave_61 ?_
    refine lv_icmp_ge (tgt := 155) F.1 F.2.1 dX6_leave_64 (by decide) (fun c_8 => ?_) (fun c_8 => ?_)
    · have hf := hf.1 c_8
      refine lv_iconst (v := 0) F.1 F.2.1 dX6_leave_155 (by decide) ?_
      refine lv_istore (lv' := [(5, .int 0), (0, .ref (ad 97)), (1, .int x1), (2, .int x2), (3, .int x3), (4, .int x4)]) F.1 F.2.1 dX6_leave_156 hl (by decide) rfl (fun ls hl => ?_)
      obtain ⟨n1, hf⟩ := hf
      exact wm_X6_leave_158 F E hr hk post n1 b lb x2 x3 x4 0 _ _ _ hf Z (lv_sub hl [1, 3, 4, 5, 0] rfl)
    · have hf := hf.2 c_8
      refine lv_aload_n F.1 F.2.1 dX6_leave_67 rfl (lv_at hl 0 rfl) ?_
      refine gf_X6_31 F E Z dX6_leave_68 ?_
      refine lv_iload F.1 F.2.1 dX6_leave_71 (lv_at hl 5 rfl) ?_
      have hv9 := hf.1
      have hf := hf.2
      refine ig_iald (f := b 105) F E Z (by decide) (by rw [ig_mm_b _ _ (by decide)]; exact (ig_k_105 _ _ _ _ _ _)) hv9 dX6_leave_73 ?_
      refine lv_aload_n F.1 F.2.1 dX6_leave_74 rfl (lv_at hl 0 rfl) ?_
      refine gf_X6_7 F E Z dX6_leave_75 ?_
      refine lv_iload F.1 F.2.1 dX6_leave_78 (lv_at hl 5 rfl) ?_
      have hv10 := hf.1
      have hf := hf.2
      refine ig_iald (f := b 98) F E Z (by decide) (by rw [ig_mm_b _ _ (by decide)]; exact (ig_k_98 _ _ _ _ _ _)) hv10 dX6_leave_80 ?_
      refine lv_icmp_lt (tgt := 120) F.1 F.2.1 dX6_leave_81 (by decide) (fun c_11 => ?_) (fun c_11 => ?_)
      · have hf := hf.1 c_11
        exact wm_X6_leave_120 F E hr hk (wp_X6_leave_121 (fun (z0 : ig_M) (z1 : Int64) (z2 : Int32) (z3 : Int32) (z4 : Int32) (z5 : Int32) (z6 : Int32) => wp_X6_leave_58 post n z0 z1 z2 z3 z4 z5 z6) post) post (fun v0 v1 v2 v3 v4 v5 v6 v7 H locs ls  hf Z hl => wm_X6_leave_121 F E hr hk (fun (z0 : ig_M) (z1 : Int64) (z2 : Int32) (z3 : Int32) (z4 : Int32) (z5 : Int32) (z6 : Int32) => wp_X6_leave_58 post n z0 z1 z2 z3 z4 z5 z6) post ih v0 v1 v2 v3 v4 v5 v6 v7 H locs ls  hf Z hl) b lb x1 x2 x3 x4 x5 _ _ _ hf Z (lv_sub hl [0, 1, 2, 3, 4, 5] rfl)
      · have hf := hf.2 c_11
        refine lv_aload_n F.1 F.2.1 dX6_leave_84 rfl (lv_at hl 0 rfl) ?_
        refine gf_X6_34 F E Z dX6_leave_85 ?_
        refine lv_iload F.1 F.2.1 dX6_leave_88 (lv_at hl 5 rfl) ?_
        have hv12 := hf.1
        have hf := hf.2
        refine ig_iald (f := b 106) F E Z (by decide) (by rw [ig_mm_b _ _ (by decide)]; exact (ig_k_106 _ _ _ _ _ _)) hv12 dX6_leave_90 ?_
        refine lv_if_eq (tgt := 116) F.1 F.2.1 dX6_leave_91 (by decide) (fun c_13 => ?_) (fun c_13 => ?_)
        · have hf := hf.1 c_13
          exact wm_X6_leave_116 F E hr hk (wp_X6_leave_121 (fun (z0 : ig_M) (z1 : Int64) (z2 : Int32) (z3 : Int32) (z4 : Int32) (z5 : Int32) (z6 : Int32) => wp_X6_leave_58 post n z0 z1 z2 z3 z4 z5 z6) post) post (fun v0 v1 v2 v3 v4 v5 v6 v7 H locs ls  hf Z hl => wm_X6_leave_121 F E hr hk (fun (z0 : ig_M) (z1 : Int64) (z2 : Int32) (z3 : Int32) (z4 : Int32) (z5 : Int32) (z6 : Int32) => wp_X6_leave_58 post n z0 z1 z2 z3 z4 z5 z6) post ih v0 v1 v2 v3 v4 v5 v6 v7 H locs ls  hf Z hl) b lb x1 x2 x3 x4 x5 _ _ _ hf Z (lv_sub hl [0, 1, 2, 3, 4, 5] rfl)
        · have hf := hf.2 c_13
          refine lv_aload_n F.1 F.2.1 dX6_leave_94 rfl (lv_at hl 0 rfl) ?_
          refine gf_X6_31 F E Z dX6_leave_95 ?_
          refine lv_iload F.1 F.2.1 dX6_leave_98 (lv_at hl 5 rfl) ?_
          have hv14 := hf.1
          have hf := hf.2
          refine ig_iald (f := b 105) F E Z (by decide) (by rw [ig_mm_b _ _ (by decide)]; exact (ig_k_105 _ _ _ _ _ _)) hv14 dX6_leave_100 ?_
          refine lv_aload_n F.1 F.2.1 dX6_leave_101 rfl (lv_at hl 0 rfl) ?_
          refine gf_X6_13 F E Z dX6_leave_102 ?_
          refine lv_iload F.1 F.2.1 dX6_leave_105 (lv_at hl 5 rfl) ?_
          have hv15 := hf.1
          have hf := hf.2
          refine ig_iald (f := b 99) F E Z (by decide) (by rw [ig_mm_b _ _ (by decide)]; exact (ig_k_99 _ _ _ _ _ _)) hv15 dX6_leave_107 ?_
          refine lv_icmp_ge (tgt := 116) F.1 F.2.1 dX6_leave_108 (by decide) (fun c_16 => ?_) (fun c_16 => ?_)
          · have hf := hf.1 c_16
            exact wm_X6_leave_116 F E hr hk (wp_X6_leave_121 (fun (z0 : ig_M) (z1 : Int64) (z2 : Int32) (z3 : Int32) (z4 : Int32) (z5 : Int32) (z6 : Int32) => wp_X6_leave_58 post n z0 z1 z2 z3 z4 z5 z6) post) post (fun v0 v1 v2 v3 v4 v5 v6 v7 H locs ls  hf Z hl => wm_X6_leave_121 F E hr hk (fun (z0 : ig_M) (z1 : Int64) (z2 : Int32) (z3 : Int32) (z4 : Int32) (z5 : Int32) (z6 : Int32) => wp_X6_leave_58 post n z0 z1 z2 z3 z4 z5 z6) post ih v0 v1 v2 v3 v4 v5 v6 v7 H locs ls  hf Z hl) b lb x1 x2 x3 x4 x5 _ _ _ hf Z (lv_sub hl [0, 1, 2, 3, 4, 5] rfl)
          · have hf := hf.2 c_16
            refine lv_iload_n F.1 F.2.1 dX6_leave_111 rfl (lv_at hl 1 rfl) ?_
            refine lv_iconst (v := (-1)) F.1 F.2.1 dX6_leave_112 (by decide) ?_
            refine lv_icmp_eq (tgt := 120) F.1 F.2.1 dX6_leave_113 (by decide) (fun c_17 => ?_) (fun c_17 => ?_)
            · have hf := hf.1 c_17
              exact wm_X6_leave_120 F E hr hk (wp_X6_leave_121 (fun (z0 : ig_M) (z1 : Int64) (z2 : Int32) (z3 : Int32) (z4 : Int32) (z5 : Int32) (z6 : Int32) => wp_X6_leave_58 post n z0 z1 z2 z3 z4 z5 z6) post) post (fun v0 v1 v2 v3 v4 v5 v6 v7 H locs ls  hf Z hl => wm_X6_leave_121 F E hr hk (fun (z0 : ig_M) (z1 : Int64) (z2 : Int32) (z3 : Int32) (z4 : Int32) (z5 : Int32) (z6 : Int32) => wp_X6_leave_58 post n z0 z1 z2 z3 z4 z5 z6) post ih v0 v1 v2 v3 v4 v5 v6 v7 H locs ls  hf Z hl) b lb x1 x2 x3 x4 x5 _ _ _ hf Z (lv_sub hl [0, 1, 2, 3, 4, 5] rfl)
            · have hf := hf.2 c_17
              exact wm_X6_leave_116 F E hr hk (wp_X6_leave_121 (fun (z0 : ig_M) (z1 : Int64) (z2 : Int32) (z3 : Int32) (z4 : Int32) (z5 : Int32) (z6 : Int32) => wp_X6_leave_58 post n z0 z1 z2 z3 z4 z5 z6) post) post (fun v0 v1 v2 v3 v4 v5 v6 v7 H locs ls  hf Z hl => wm_X6_leave_121 F E hr hk (fun (z0 : ig_M) (z1 : Int64) (z2 : Int32) (z3 : Int32) (z4 : Int32) (z5 : Int32) (z6 : Int32) => wp_X6_leave_58 post n z0 z1 z2 z3 z4 z5 z6) post ih v0 v1 v2 v3 v4 v5 v6 v7 H locs ls  hf Z hl) b lb x1 x2 x3 x4 x5 _ _ _ hf Z (lv_sub hl [0, 1, 2, 3, 4, 5] rfl)
set_option maxHeartbeats 4000000 in
set_option maxRecDepth 100000 in
theorem wm_X6_leave_18 (F : CallFix p m c cX6_leave 7 s args ig_all RX6) (E : ig_E D kk ad bs s) (hr : meth.sig.returnType = none) (hk : meth.locks = false) (post : ig_M → Int64 → Prop) :
    ∀ (b : ig_M) (lb : Int64) (x1 : Int32) (t0 : Int32) (H : Heap) (locs : List Loc) (ls : Array Slot), wp_X6_leave_18 post b lb x1 t0 → ig_Z D kk ad bs s H locs a la b lb lo → lv_has ls 7 [(0, .ref (ad 97)), (1, .int x1)] → W p l e (k2_rm 3 66) s m args below meth c H locs 0 0 (MQ below (va_Qv (fun u : ig_M × Int64 => post u.1 u.2) (fun u t => ig_Wd D kk ad bs a la u.1 u.2 lo t) (ig_A bs)) args s 0 0 (ig_A bs)) (F0 m 18 ls [.int t0]) := by
  intro b lb x1 t0 H locs ls hf Z hl
  refine lv_istore_n (lv' := [(2, .int t0), (0, .ref (ad 97)), (1, .int x1)]) F.1 F.2.1 dX6_leave_18 rfl hl (by decide) rfl (fun ls hl => ?_)
  refine lv_iload_n F.1 F.2.1 dX6_leave_19 rfl (lv_at hl 0 rfl) ?_
  refine lv_iconst (v := (-1)) F.1 F.2.1 dX6_leave_20 (by decide) ?_
  refine lv_icmp_eq (tgt := 32) F.1 F.2.1 dX6_leave_21 (by decide) (fun c_4 => ?_) (fun c_4 => ?_)
  · have hf := hf.1 c_4
    exact W.vret F.1 F.2.1 hr (fun t ht hW => ⟨⟨(b, lb), rfl, hf, Z.wd E ht hW⟩, Z.fr ht⟩) Z.2.2.2 dX6_leave_32
  · have hf := hf.2 c_4
    refine lv_iload_n F.1 F.2.1 dX6_leave_24 rfl (lv_at hl 0 rfl) ?_
    refine lv_aload_n F.1 F.2.1 dX6_leave_25 rfl (lv_at hl 1 rfl) ?_
    refine gf_X6_106 F E Z dX6_leave_26 ?_
    refine lv_icmp_ne (tgt := 33) F.1 F.2.1 dX6_leave_29 (by decide) (fun c_5 => ?_) (fun c_5 => ?_)
    · have hf := hf.1 c_5
      refine lv_aload_n F.1 F.2.1 dX6_leave_33 rfl (lv_at hl 1 rfl) ?_
      refine gf_X6_22 F E Z dX6_leave_34 ?_
      refine lv_aload_n F.1 F.2.1 dX6_leave_37 rfl (lv_at hl 1 rfl) ?_
      refine gf_X6_106 F E Z dX6_leave_38 ?_
      have hv6 := hf.1
      have hf := hf.2
      refine ig_iald (f := b 102) F E Z (by decide) (by rw [ig_mm_b _ _ (by decide)]; exact (ig_k_102 _ _ _ _ _ _)) hv6 dX6_leave_41 ?_
      refine lv_aload_n F.1 F.2.1 dX6_leave_42 rfl (lv_at hl 1 rfl) ?_
      refine gf_X6_22 F E Z dX6_leave_43 ?_
      refine lv_iload_n F.1 F.2.1 dX6_leave_46 rfl (lv_at hl 0 rfl) ?_
      have hv7 := hf.1
      have hf := hf.2
      refine ig_iald (f := b 102) F E Z (by decide) (by rw [ig_mm_b _ _ (by decide)]; exact (ig_k_102 _ _ _ _ _ _)) hv7 dX6_leave_47 ?_
      refine lv_iconst (v := (-1)) F.1 F.2.1 dX6_leave_48 (by decide) ?_
      refine lv_ixor F.1 F.2.1 dX6_leave_49 ?_
      refine lv_iand F.1 F.2.1 dX6_leave_50 ?_
      refine lv_istore_n (lv' := [(3, .int ((b 102 (b 97 10).toNatClampNeg) &&& ((b 102 t0.toNatClampNeg) ^^^ ((-1))))), (2, .int t0), (0, .ref (ad 97)), (1, .int x1)]) F.1 F.2.1 dX6_leave_51 rfl hl (by decide) rfl (fun ls hl => ?_)
      refine lv_iconst (v := 1) F.1 F.2.1 dX6_leave_52 (by decide) ?_
      refine lv_istore (lv' := [(4, .int 1), (3, .int ((b 102 (b 97 10).toNatClampNeg) &&& ((b 102 t0.toNatClampNeg) ^^^ ((-1))))), (2, .int t0), (0, .ref (ad 97)), (1, .int x1)]) F.1 F.2.1 dX6_leave_53 hl (by decide) rfl (fun ls hl => ?_)
      refine lv_iconst (v := 0) F.1 F.2.1 dX6_leave_55 (by decide) ?_
      refine lv_istore (lv' := [(5, .int 0), (4, .int 1), (3, .int ((b 102 (b 97 10).toNatClampNeg) &&& ((b 102 t0.toNatClampNeg) ^^^ ((-1))))), (2, .int t0), (0, .ref (ad 97)), (1, .int x1)]) F.1 F.2.1 dX6_leave_56 hl (by decide) rfl (fun ls hl => ?_)
      obtain ⟨n1, hf⟩ := hf
      exact wm_X6_leave_58 F E hr hk post n1 b lb x1 t0 ((b 102 (b 97 10).toNatClampNeg) &&& ((b 102 t0.toNatClampNeg) ^^^ ((-1)))) 1 0 _ _ _ hf Z (lv_sub hl [4, 5, 3, 2, 1, 0] rfl)
    · have hf := hf.2 c_5
      exact W.vret F.1 F.2.1 hr (fun t ht hW => ⟨⟨(b, lb), rfl, hf, Z.wd E ht hW⟩, Z.fr ht⟩) Z.2.2.2 dX6_leave_32
set_option maxHeartbeats 4000000 in
set_option maxRecDepth 100000 in
theorem k_X6_leave (l : Launch) {D : va_G} {kk : Nat → ClassId} {ad : Nat → Nat} {bs : Nat} {a : ig_M} {la : Int64} {b : ig_M} {lb lo : Int64} {post : ig_M → Int64 → Prop} (hf : wp_X6_leave b lb post) : Met l yX6_leave (ig_ws yX6_leave cX6_leave 7 none) (k2_rm 3 66) (va_Pc [.ref (ad 97)] (ig_Wd D kk ad bs a la b lb lo)) (va_Qv (fun u : ig_M × Int64 => post u.1 u.2) (fun u t => ig_Wd D kk ad bs a la u.1 u.2 lo t) (ig_A bs)) 0 0 (ig_A bs) := by
  refine Met.ofW (cc := cX6_leave) (maxL := 7) (ret := none) (by decide) rfl ?_
  intro p e s m args below meth c s₁ B hml hv
  obtain ⟨rfl, E, hP⟩ := hv
  have hk := B.notSynchronized
  have hr := B.returns
  have F : CallFix p m c cX6_leave 7 s _ ig_all RX6 := ⟨B.exec, B.bytes, hml, findClass_of_methodNamed B.named, fun w hw => atoms_spec B.pre w (List.mem_cons_of_mem _ hw)⟩
  have Z : ig_Z D kk ad bs s s.heap [] a la b lb lo := ig_Z.rf hP
  have hl := lv_entry ([.ref (ad 97)]) (n := 7) (Nat.le_of_ble_eq_true rfl)
  rw [lg_entry_eq]
  generalize (lg_sl ([.ref (ad 97)]) ++ List.replicate (7 - (lg_sl ([.ref (ad 97)])).length) Slot.unset).toArray = ls at hl ⊢
  have hl : lv_has ls 7 [(0, .ref (ad 97))] := hl
  refine lv_aload_n F.1 F.2.1 dX6_leave_0 rfl (lv_at hl 0 rfl) ?_
  have hM := k_X6_askedStage l (D := D) (kk := kk) (ad := ad) (bs := bs) (a := a) (la := la) (b := b) (lb := lb) (lo := lo) hf
  refine ig_calli E Z (ig_runV (As := []) (rest := []) F E Z hl G_X6_122 hM (i := 97) (by decide) (ig_k_97 _ _ _ _ _ _) rfl rfl md_X6_askedStage rfl ⟨rfl, rfl⟩ ⟨Nat.le_of_ble_eq_true rfl, Nat.le_of_ble_eq_true rfl⟩ (Nat.le_of_ble_eq_true rfl) dX6_leave_1 ⟨Nat.le_of_ble_eq_true rfl, Nat.le_of_ble_eq_true rfl⟩) (fun r1 u H locs hf Z => ?_)
  refine lv_istore_n (lv' := [(1, .int r1), (0, .ref (ad 97))]) F.1 F.2.1 dX6_leave_4 rfl hl (by decide) rfl (fun ls hl => ?_)
  refine lv_iload_n F.1 F.2.1 dX6_leave_5 rfl (lv_at hl 0 rfl) ?_
  refine lv_iconst (v := (-1)) F.1 F.2.1 dX6_leave_6 (by decide) ?_
  refine lv_icmp_eq (tgt := 14) F.1 F.2.1 dX6_leave_7 (by decide) (fun c_2 => ?_) (fun c_2 => ?_)
  · have hf := hf.1 c_2
    refine lv_aload_n F.1 F.2.1 dX6_leave_14 rfl (lv_at hl 1 rfl) ?_
    have hM := k_X6_demandedStage l (D := D) (kk := kk) (ad := ad) (bs := bs) (a := a) (la := la) (b := b) (lb := lb) (lo := lo) hf
    refine ig_calli E Z (ig_runV (As := []) (rest := []) F E Z hl G_X6_126 hM (i := 97) (by decide) (ig_k_97 _ _ _ _ _ _) rfl rfl md_X6_demandedStage rfl ⟨rfl, rfl⟩ ⟨Nat.le_of_ble_eq_true rfl, Nat.le_of_ble_eq_true rfl⟩ (Nat.le_of_ble_eq_true rfl) dX6_leave_15 ⟨Nat.le_of_ble_eq_true rfl, Nat.le_of_ble_eq_true rfl⟩) (fun r3 u H locs hf Z => ?_)
    exact wm_X6_leave_18 F E hr hk post b lb r1 r3 _ _ _ hf Z (lv_sub hl [1, 0] rfl)
  · have hf := hf.2 c_2
    refine lv_iload_n F.1 F.2.1 dX6_leave_10 rfl (lv_at hl 0 rfl) ?_
    refine lv_goto (tgt := 18) F.1 F.2.1 dX6_leave_11 (by decide) ?_
    exact wm_X6_leave_18 F E hr hk post b lb r1 r1 _ _ _ hf Z (lv_sub hl [1, 0] rfl)
set_option maxHeartbeats 4000000 in
set_option maxRecDepth 100000 in
theorem wm_X6_canBegin_4 (F : CallFix p m c cX6_canBegin 5 s args ig_all RX6) (E : ig_E D kk ad bs s) (hr : meth.sig.returnType = (some .boolean)) (hk : meth.locks = false) (post : Int32 → Prop) :
    ∀ (n : Nat) (x1 : Int32) (x2 : Int32) (x3 : Int32) (H : Heap) (locs : List Loc) (ls : Array Slot), wp_X6_canBegin_4 b lb post n x1 x2 x3 → ig_Z D kk ad bs s H locs a la b lb lo → lv_has ls 5 [(0, .ref (ad 97)), (1, .int x1), (2, .int x2), (3, .int x3)] → W p l e (k2_rm 0 0) s m args below meth c H locs 0 0 (MQ below (va_Qi (fun (r : Int32) (_ : Unit) => post r) (fun _ t => ig_Wd D kk ad bs a la b lb lo t) (ig_A bs)) args s 0 0 (ig_A bs)) (F0 m 4 ls []) := by
  intro n
  induction n with
  | zero => intro x1 x2 x3 H locs ls hf Z hl; exact False.elim hf
  | succ n ih =>
    intro x1 x2 x3 H locs ls hf Z hl
    refine lv_iload_n F.1 F.2.1 dX6_canBegin_4 rfl (lv_at hl 3 rfl) ?_
    refine lv_aload_n F.1 F.2.1 dX6_canBegin_5 rfl (lv_at hl 0 rfl) ?_
    refine gf_X6_69 F E Z dX6_canBegin_6 ?_
    refine lv_icmp_ge (tgt := 82) F.1 F.2.1 dX6_canBegin_9 (by decide) (fun c_1 => ?_) (fun c_1 => ?_)
    · have hf := hf.1 c_1
      refine lv_iload_n F.1 F.2.1 dX6_canBegin_82 rfl (lv_at hl 2 rfl) ?_
      exact W.zret (v := x2) F.1 F.2.1 hr (ig_narrow hf.1) (fun t ht hW => ⟨⟨_, (), rfl, hf.2, Z.wd E ht hW⟩, Z.fr ht⟩) Z.2.2.2 dX6_canBegin_83
    · have hf := hf.2 c_1
      refine lv_aload_n F.1 F.2.1 dX6_canBegin_12 rfl (lv_at hl 0 rfl) ?_
      refine gf_X6_19 F E Z dX6_canBegin_13 ?_
      refine lv_bipush (v := 8) F.1 F.2.1 dX6_canBegin_16 (by decide) ?_
      refine lv_iload_n F.1 F.2.1 dX6_canBegin_18 rfl (lv_at hl 3 rfl) ?_
      refine lv_imul F.1 F.2.1 dX6_canBegin_19 ?_
      refine lv_iload_n F.1 F.2.1 dX6_canBegin_20 rfl (lv_at hl 1 rfl) ?_
      refine lv_iadd F.1 F.2.1 dX6_canBegin_21 ?_
      have hv2 := hf.1
      have hf := hf.2
      refine ig_iald (f := b 101) F E Z (by decide) (by rw [ig_mm_b _ _ (by decide)]; exact (ig_k_101 _ _ _ _ _ _)) hv2 dX6_canBegin_22 ?_
      refine lv_istore (lv' := [(4, .int (b 101 ((8 * x3) + x1).toNatClampNeg)), (0, .ref (ad 97)), (1, .int x1), (2, .int x2), (3, .int x3)]) F.1 F.2.1 dX6_canBegin_23 hl (by decide) rfl (fun ls hl => ?_)
      refine lv_iload_n F.1 F.2.1 dX6_canBegin_25 rfl (lv_at hl 3 rfl) ?_
      refine lv_if_eq (tgt := 74) F.1 F.2.1 dX6_canBegin_26 (by decide) (fun c_3 => ?_) (fun c_3 => ?_)
      · have hf := hf.1 c_3
        refine lv_iconst (v := 0) F.1 F.2.1 dX6_canBegin_74 (by decide) ?_
        refine lv_istore_n (lv' := [(2, .int 0), (4, .int (b 101 ((8 * x3) + x1).toNatClampNeg)), (0, .ref (ad 97)), (1, .int x1), (3, .int x3)]) F.1 F.2.1 dX6_canBegin_75 rfl hl (by decide) rfl (fun ls hl => ?_)
        refine lv_iinc (v := x3 + 1) (lv' := [(3, .int (x3 + 1)), (2, .int 0), (4, .int (b 101 ((8 * x3) + x1).toNatClampNeg)), (0, .ref (ad 97)), (1, .int x1)]) F.1 F.2.1 dX6_canBegin_76 hl (k := 4) rfl (by rfl) (by decide) rfl (fun ls hl => ?_)
        refine lv_goto (tgt := 4) F.1 F.2.1 dX6_canBegin_79 (by decide) ?_
        exact ih x1 0 (x3 + 1) _ _ _ hf Z (lv_sub hl [3, 4, 1, 0] rfl)
      · have hf := hf.2 c_3
        refine lv_iload F.1 F.2.1 dX6_canBegin_29 (lv_at hl 0 rfl) ?_
        refine lv_if_eq (tgt := 70) F.1 F.2.1 dX6_canBegin_31 (by decide) (fun c_4 => ?_) (fun c_4 => ?_)
        · have hf := hf.1 c_4
          refine lv_iconst (v := 1) F.1 F.2.1 dX6_canBegin_70 (by decide) ?_
          refine lv_goto (tgt := 75) F.1 F.2.1 dX6_canBegin_71 (by decide) ?_
          refine lv_istore_n (lv' := [(2, .int 1), (4, .int (b 101 ((8 * x3) + x1).toNatClampNeg)), (0, .ref (ad 97)), (1, .int x1), (3, .int x3)]) F.1 F.2.1 dX6_canBegin_75 rfl hl (by decide) rfl (fun ls hl => ?_)
          refine lv_iinc (v := x3 + 1) (lv' := [(3, .int (x3 + 1)), (2, .int 1), (4, .int (b 101 ((8 * x3) + x1).toNatClampNeg)), (0, .ref (ad 97)), (1, .int x1)]) F.1 F.2.1 dX6_canBegin_76 hl (k := 4) rfl (by rfl) (by decide) rfl (fun ls hl => ?_)
          refine lv_goto (tgt := 4) F.1 F.2.1 dX6_canBegin_79 (by decide) ?_
          exact ih x1 1 (x3 + 1) _ _ _ hf Z (lv_sub hl [3, 4, 1, 0] rfl)
        · have hf := hf.2 c_4
          refine lv_aload_n F.1 F.2.1 dX6_canBegin_34 rfl (lv_at hl 1 rfl) ?_
          refine gf_X6_25 F E Z dX6_canBegin_35 ?_
          refine lv_iload_n F.1 F.2.1 dX6_canBegin_38 rfl (lv_at hl 4 rfl) ?_
          have hv5 := hf.1
          have hf := hf.2
          refine ig_iald (f := b 103) F E Z (by decide) (by rw [ig_mm_b _ _ (by decide)]; exact (ig_k_103 _ _ _ _ _ _)) hv5 dX6_canBegin_39 ?_
          refine lv_iconst (v := 1) F.1 F.2.1 dX6_canBegin_40 (by decide) ?_
          refine lv_icmp_eq (tgt := 74) F.1 F.2.1 dX6_canBegin_41 (by decide) (fun c_6 => ?_) (fun c_6 => ?_)
          · have hf := hf.1 c_6
            refine lv_iconst (v := 0) F.1 F.2.1 dX6_canBegin_74 (by decide) ?_
            refine lv_istore_n (lv' := [(2, .int 0), (4, .int (b 101 ((8 * x3) + x1).toNatClampNeg)), (0, .ref (ad 97)), (1, .int x1), (3, .int x3)]) F.1 F.2.1 dX6_canBegin_75 rfl hl (by decide) rfl (fun ls hl => ?_)
            refine lv_iinc (v := x3 + 1) (lv' := [(3, .int (x3 + 1)), (2, .int 0), (4, .int (b 101 ((8 * x3) + x1).toNatClampNeg)), (0, .ref (ad 97)), (1, .int x1)]) F.1 F.2.1 dX6_canBegin_76 hl (k := 4) rfl (by rfl) (by decide) rfl (fun ls hl => ?_)
            refine lv_goto (tgt := 4) F.1 F.2.1 dX6_canBegin_79 (by decide) ?_
            exact ih x1 0 (x3 + 1) _ _ _ hf Z (lv_sub hl [3, 4, 1, 0] rfl)
          · have hf := hf.2 c_6
            refine lv_aload_n F.1 F.2.1 dX6_canBegin_44 rfl (lv_at hl 1 rfl) ?_
            refine gf_X6_28 F E Z dX6_canBegin_45 ?_
            refine lv_iload_n F.1 F.2.1 dX6_canBegin_48 rfl (lv_at hl 4 rfl) ?_
            have hv7 := hf.1
            have hf := hf.2
            refine ig_iald (f := b 104) F E Z (by decide) (by rw [ig_mm_b _ _ (by decide)]; exact (ig_k_104 _ _ _ _ _ _)) hv7 dX6_canBegin_49 ?_
            refine lv_iconst (v := (-1)) F.1 F.2.1 dX6_canBegin_50 (by decide) ?_
            refine lv_icmp_eq (tgt := 70) F.1 F.2.1 dX6_canBegin_51 (by decide) (fun c_8 => ?_) (fun c_8 => ?_)
            · have hf := hf.1 c_8
              refine lv_iconst (v := 1) F.1 F.2.1 dX6_canBegin_70 (by decide) ?_
              refine lv_goto (tgt := 75) F.1 F.2.1 dX6_canBegin_71 (by decide) ?_
              refine lv_istore_n (lv' := [(2, .int 1), (4, .int (b 101 ((8 * x3) + x1).toNatClampNeg)), (0, .ref (ad 97)), (1, .int x1), (3, .int x3)]) F.1 F.2.1 dX6_canBegin_75 rfl hl (by decide) rfl (fun ls hl => ?_)
              refine lv_iinc (v := x3 + 1) (lv' := [(3, .int (x3 + 1)), (2, .int 1), (4, .int (b 101 ((8 * x3) + x1).toNatClampNeg)), (0, .ref (ad 97)), (1, .int x1)]) F.1 F.2.1 dX6_canBegin_76 hl (k := 4) rfl (by rfl) (by decide) rfl (fun ls hl => ?_)
              refine lv_goto (tgt := 4) F.1 F.2.1 dX6_canBegin_79 (by decide) ?_
              exact ih x1 1 (x3 + 1) _ _ _ hf Z (lv_sub hl [3, 4, 1, 0] rfl)
            · have hf := hf.2 c_8
              refine lv_aload_n F.1 F.2.1 dX6_canBegin_54 rfl (lv_at hl 1 rfl) ?_
              refine gf_X6_109 F E Z dX6_canBegin_55 ?_
              refine lv_aload_n F.1 F.2.1 dX6_canBegin_58 rfl (lv_at hl 1 rfl) ?_
              refine gf_X6_28 F E Z dX6_canBegin_59 ?_
              refine lv_iload_n F.1 F.2.1 dX6_canBegin_62 rfl (lv_at hl 4 rfl) ?_
              have hv9 := hf.1
              have hf := hf.2
              refine ig_iald (f := b 104) F E Z (by decide) (by rw [ig_mm_b _ _ (by decide)]; exact (ig_k_104 _ _ _ _ _ _)) hv9 dX6_canBegin_63 ?_
              refine lv_isub F.1 F.2.1 dX6_canBegin_64 ?_
              refine lv_iload F.1 F.2.1 dX6_canBegin_65 (lv_at hl 0 rfl) ?_
              refine lv_icmp_lt (tgt := 74) F.1 F.2.1 dX6_canBegin_67 (by decide) (fun c_10 => ?_) (fun c_10 => ?_)
              · have hf := hf.1 c_10
                refine lv_iconst (v := 0) F.1 F.2.1 dX6_canBegin_74 (by decide) ?_
                refine lv_istore_n (lv' := [(2, .int 0), (4, .int (b 101 ((8 * x3) + x1).toNatClampNeg)), (0, .ref (ad 97)), (1, .int x1), (3, .int x3)]) F.1 F.2.1 dX6_canBegin_75 rfl hl (by decide) rfl (fun ls hl => ?_)
                refine lv_iinc (v := x3 + 1) (lv' := [(3, .int (x3 + 1)), (2, .int 0), (4, .int (b 101 ((8 * x3) + x1).toNatClampNeg)), (0, .ref (ad 97)), (1, .int x1)]) F.1 F.2.1 dX6_canBegin_76 hl (k := 4) rfl (by rfl) (by decide) rfl (fun ls hl => ?_)
                refine lv_goto (tgt := 4) F.1 F.2.1 dX6_canBegin_79 (by decide) ?_
                exact ih x1 0 (x3 + 1) _ _ _ hf Z (lv_sub hl [3, 4, 1, 0] rfl)
              · have hf := hf.2 c_10
                refine lv_iconst (v := 1) F.1 F.2.1 dX6_canBegin_70 (by decide) ?_
                refine lv_goto (tgt := 75) F.1 F.2.1 dX6_canBegin_71 (by decide) ?_
                refine lv_istore_n (lv' := [(2, .int 1), (4, .int (b 101 ((8 * x3) + x1).toNatClampNeg)), (0, .ref (ad 97)), (1, .int x1), (3, .int x3)]) F.1 F.2.1 dX6_canBegin_75 rfl hl (by decide) rfl (fun ls hl => ?_)
                refine lv_iinc (v := x3 + 1) (lv' := [(3, .int (x3 + 1)), (2, .int 1), (4, .int (b 101 ((8 * x3) + x1).toNatClampNeg)), (0, .ref (ad 97)), (1, .int x1)]) F.1 F.2.1 dX6_canBegin_76 hl (k := 4) rfl (by rfl) (by decide) rfl (fun ls hl => ?_)
                refine lv_goto (tgt := 4) F.1 F.2.1 dX6_canBegin_79 (by decide) ?_
                exact ih x1 1 (x3 + 1) _ _ _ hf Z (lv_sub hl [3, 4, 1, 0] rfl)
set_option maxHeartbeats 4000000 in
set_option maxRecDepth 100000 in
theorem k_X6_canBegin (l : Launch) {D : va_G} {kk : Nat → ClassId} {ad : Nat → Nat} {bs : Nat} {a : ig_M} {la : Int64} {b : ig_M} {lb lo : Int64} (x1 : Int32) {post : Int32 → Prop} (hf : wp_X6_canBegin b lb x1 post) : Met l yX6_canBegin (ig_ws yX6_canBegin cX6_canBegin 5 (some .boolean)) (k2_rm 0 0) (va_Pc [.ref (ad 97), .int x1] (ig_Wd D kk ad bs a la b lb lo)) (va_Qi (fun (r : Int32) (_ : Unit) => post r) (fun _ t => ig_Wd D kk ad bs a la b lb lo t) (ig_A bs)) 0 0 (ig_A bs) := by
  refine Met.ofW (cc := cX6_canBegin) (maxL := 5) (ret := (some .boolean)) (by decide) rfl ?_
  intro p e s m args below meth c s₁ B hml hv
  obtain ⟨rfl, E, hP⟩ := hv
  have hk := B.notSynchronized
  have hr := B.returns
  have F : CallFix p m c cX6_canBegin 5 s _ ig_all RX6 := ⟨B.exec, B.bytes, hml, findClass_of_methodNamed B.named, fun w hw => atoms_spec B.pre w (List.mem_cons_of_mem _ hw)⟩
  have Z : ig_Z D kk ad bs s s.heap [] a la b lb lo := ig_Z.rf hP
  have hl := lv_entry ([.ref (ad 97), .int x1]) (n := 5) (Nat.le_of_ble_eq_true rfl)
  rw [lg_entry_eq]
  generalize (lg_sl ([.ref (ad 97), .int x1]) ++ List.replicate (5 - (lg_sl ([.ref (ad 97), .int x1])).length) Slot.unset).toArray = ls at hl ⊢
  have hl : lv_has ls 5 [(0, .ref (ad 97)), (1, .int x1)] := hl
  refine lv_iconst (v := 1) F.1 F.2.1 dX6_canBegin_0 (by decide) ?_
  refine lv_istore_n (lv' := [(2, .int 1), (0, .ref (ad 97)), (1, .int x1)]) F.1 F.2.1 dX6_canBegin_1 rfl hl (by decide) rfl (fun ls hl => ?_)
  refine lv_iconst (v := 0) F.1 F.2.1 dX6_canBegin_2 (by decide) ?_
  refine lv_istore_n (lv' := [(3, .int 0), (2, .int 1), (0, .ref (ad 97)), (1, .int x1)]) F.1 F.2.1 dX6_canBegin_3 rfl hl (by decide) rfl (fun ls hl => ?_)
  obtain ⟨n1, hf⟩ := hf
  exact wm_X6_canBegin_4 F E hr hk post n1 x1 1 0 _ _ _ hf Z (lv_sub hl [2, 3, 1, 0] rfl)
set_option maxHeartbeats 4000000 in
set_option maxRecDepth 100000 in
theorem wm_X6_begin_141 (F : CallFix p m c cX6_begin 3 s args ig_all RX6) (E : ig_E D kk ad bs s) (hr : meth.sig.returnType = none) (hk : meth.locks = false) (post : ig_M → Int64 → Prop) :
    ∀ (b : ig_M) (lb : Int64) (t0 : Int32) (H : Heap) (locs : List Loc) (ls : Array Slot), wp_X6_begin_141 post b lb t0 → ig_Z D kk ad bs s H locs a la b lb lo → lv_has ls 3 [] → W p l e (k2_rm 1 24) s m args below meth c H locs 0 0 (MQ below (va_Qv (fun u : ig_M × Int64 => post u.1 u.2) (fun u t => ig_Wd D kk ad bs a la u.1 u.2 lo t) (ig_A bs)) args s 0 0 (ig_A bs)) (F0 m 141 ls [.int t0, .ref (ad 97)]) := by
  intro b lb t0 H locs ls hf Z hl
  refine pf_X6_103 F E Z dX6_begin_141 (fun H locs b27 hb27 Z => ?_)
  have hf := hf b27 hb27
  exact W.vret F.1 F.2.1 hr (fun t ht hW => ⟨⟨(b27, lb), rfl, hf, Z.wd E ht hW⟩, Z.fr ht⟩) Z.2.2.2 dX6_begin_144
set_option maxHeartbeats 4000000 in
set_option maxRecDepth 100000 in
theorem wm_X6_begin_86 (F : CallFix p m c cX6_begin 3 s args ig_all RX6) (E : ig_E D kk ad bs s) (hr : meth.sig.returnType = none) (hk : meth.locks = false) (k_4 : ig_M → Int64 → Int32 → Int32 → Prop) (post : ig_M → Int64 → Prop) (h_4 : ∀ (b : ig_M) (lb : Int64) (x1 : Int32) (x2 : Int32) (H : Heap) (locs : List Loc) (ls : Array Slot), k_4 b lb x1 x2 → ig_Z D kk ad bs s H locs a la b lb lo → lv_has ls 3 [(0, .ref (ad 97)), (1, .int x1), (2, .int x2)] → W p l e (k2_rm 1 24) s m args below meth c H locs 0 0 (MQ below (va_Qv (fun u : ig_M × Int64 => post u.1 u.2) (fun u t => ig_Wd D kk ad bs a la u.1 u.2 lo t) (ig_A bs)) args s 0 0 (ig_A bs)) (F0 m 4 ls [])) :
    ∀ (b : ig_M) (lb : Int64) (x1 : Int32) (x2 : Int32) (H : Heap) (locs : List Loc) (ls : Array Slot), wp_X6_begin_86 k_4 post b lb x1 x2 → ig_Z D kk ad bs s H locs a la b lb lo → lv_has ls 3 [(0, .ref (ad 97)), (1, .int x1), (2, .int x2)] → W p l e (k2_rm 1 24) s m args below meth c H locs 0 0 (MQ below (va_Qv (fun u : ig_M × Int64 => post u.1 u.2) (fun u t => ig_Wd D kk ad bs a la u.1 u.2 lo t) (ig_A bs)) args s 0 0 (ig_A bs)) (F0 m 86 ls []) := by
  intro b lb x1 x2 H locs ls hf Z hl
  refine lv_iload_n F.1 F.2.1 dX6_begin_86 rfl (lv_at hl 1 rfl) ?_
  refine lv_if_eq (tgt := 120) F.1 F.2.1 dX6_begin_87 (by decide) (fun c_21 => ?_) (fun c_21 => ?_)
  · have hf := hf.1 c_21
    refine lv_iconst (v := 0) F.1 F.2.1 dX6_begin_120 (by decide) ?_
    refine lv_istore_n (lv' := [(1, .int 0), (0, .ref (ad 97)), (2, .int x2)]) F.1 F.2.1 dX6_begin_121 rfl hl (by decide) rfl (fun ls hl => ?_)
    refine lv_iinc (v := x2 + 1) (lv' := [(2, .int (x2 + 1)), (1, .int 0), (0, .ref (ad 97))]) F.1 F.2.1 dX6_begin_122 hl (k := 2) rfl (by rfl) (by decide) rfl (fun ls hl => ?_)
    refine lv_goto (tgt := 4) F.1 F.2.1 dX6_begin_125 (by decide) ?_
    exact h_4 b lb 0 (x2 + 1) _ _ _ hf Z (lv_sub hl [2, 1, 0] rfl)
  · have hf := hf.2 c_21
    refine lv_aload_n F.1 F.2.1 dX6_begin_90 rfl (lv_at hl 0 rfl) ?_
    refine gf_X6_22 F E Z dX6_begin_91 ?_
    refine lv_aload_n F.1 F.2.1 dX6_begin_94 rfl (lv_at hl 0 rfl) ?_
    refine gf_X6_106 F E Z dX6_begin_95 ?_
    have hv22 := hf.1
    have hf := hf.2
    refine ig_iald (f := b 102) F E Z (by decide) (by rw [ig_mm_b _ _ (by decide)]; exact (ig_k_102 _ _ _ _ _ _)) hv22 dX6_begin_98 ?_
    refine lv_iload_n F.1 F.2.1 dX6_begin_99 rfl (lv_at hl 2 rfl) ?_
    have hM := k_X6_has l (D := D) (kk := kk) (ad := ad) (bs := bs) (a := a) (la := la) (b := b) (lb := lb) (lo := lo) (b 102 (b 97 10).toNatClampNeg) x2 hf
    refine ig_calli E Z (ig_runS (As := [.int (b 102 (b 97 10).toNatClampNeg), .int x2]) (rest := []) F E Z hl G_X6_87 hM rfl md_X6_has rfl ⟨rfl, rfl⟩ ⟨Nat.le_of_ble_eq_true rfl, Nat.le_of_ble_eq_true rfl⟩ (Nat.le_of_ble_eq_true rfl) dX6_begin_100 ⟨Nat.le_of_ble_eq_true rfl, Nat.le_of_ble_eq_true rfl⟩) (fun r23 u H locs hf Z => ?_)
    refine lv_if_eq (tgt := 116) F.1 F.2.1 dX6_begin_103 (by decide) (fun c_24 => ?_) (fun c_24 => ?_)
    · have hf := hf.1 c_24
      refine lv_iconst (v := 1) F.1 F.2.1 dX6_begin_116 (by decide) ?_
      refine lv_goto (tgt := 121) F.1 F.2.1 dX6_begin_117 (by decide) ?_
      refine lv_istore_n (lv' := [(1, .int 1), (0, .ref (ad 97)), (2, .int x2)]) F.1 F.2.1 dX6_begin_121 rfl hl (by decide) rfl (fun ls hl => ?_)
      refine lv_iinc (v := x2 + 1) (lv' := [(2, .int (x2 + 1)), (1, .int 1), (0, .ref (ad 97))]) F.1 F.2.1 dX6_begin_122 hl (k := 2) rfl (by rfl) (by decide) rfl (fun ls hl => ?_)
      refine lv_goto (tgt := 4) F.1 F.2.1 dX6_begin_125 (by decide) ?_
      exact h_4 b lb 1 (x2 + 1) _ _ _ hf Z (lv_sub hl [2, 1, 0] rfl)
    · have hf := hf.2 c_24
      refine lv_aload_n F.1 F.2.1 dX6_begin_106 rfl (lv_at hl 0 rfl) ?_
      refine gf_X6_25 F E Z dX6_begin_107 ?_
      refine lv_iload_n F.1 F.2.1 dX6_begin_110 rfl (lv_at hl 2 rfl) ?_
      have hv25 := hf.1
      have hf := hf.2
      refine ig_iald (f := b 103) F E Z (by decide) (by rw [ig_mm_b _ _ (by decide)]; exact (ig_k_103 _ _ _ _ _ _)) hv25 dX6_begin_111 ?_
      refine lv_iconst (v := 1) F.1 F.2.1 dX6_begin_112 (by decide) ?_
      refine lv_icmp_ne (tgt := 120) F.1 F.2.1 dX6_begin_113 (by decide) (fun c_26 => ?_) (fun c_26 => ?_)
      · have hf := hf.1 c_26
        refine lv_iconst (v := 0) F.1 F.2.1 dX6_begin_120 (by decide) ?_
        refine lv_istore_n (lv' := [(1, .int 0), (0, .ref (ad 97)), (2, .int x2)]) F.1 F.2.1 dX6_begin_121 rfl hl (by decide) rfl (fun ls hl => ?_)
        refine lv_iinc (v := x2 + 1) (lv' := [(2, .int (x2 + 1)), (1, .int 0), (0, .ref (ad 97))]) F.1 F.2.1 dX6_begin_122 hl (k := 2) rfl (by rfl) (by decide) rfl (fun ls hl => ?_)
        refine lv_goto (tgt := 4) F.1 F.2.1 dX6_begin_125 (by decide) ?_
        exact h_4 b lb 0 (x2 + 1) _ _ _ hf Z (lv_sub hl [2, 1, 0] rfl)
      · have hf := hf.2 c_26
        refine lv_iconst (v := 1) F.1 F.2.1 dX6_begin_116 (by decide) ?_
        refine lv_goto (tgt := 121) F.1 F.2.1 dX6_begin_117 (by decide) ?_
        refine lv_istore_n (lv' := [(1, .int 1), (0, .ref (ad 97)), (2, .int x2)]) F.1 F.2.1 dX6_begin_121 rfl hl (by decide) rfl (fun ls hl => ?_)
        refine lv_iinc (v := x2 + 1) (lv' := [(2, .int (x2 + 1)), (1, .int 1), (0, .ref (ad 97))]) F.1 F.2.1 dX6_begin_122 hl (k := 2) rfl (by rfl) (by decide) rfl (fun ls hl => ?_)
        refine lv_goto (tgt := 4) F.1 F.2.1 dX6_begin_125 (by decide) ?_
        exact h_4 b lb 1 (x2 + 1) _ _ _ hf Z (lv_sub hl [2, 1, 0] rfl)
set_option maxHeartbeats 4000000 in
set_option maxRecDepth 100000 in
theorem wm_X6_begin_4 (F : CallFix p m c cX6_begin 3 s args ig_all RX6) (E : ig_E D kk ad bs s) (hr : meth.sig.returnType = none) (hk : meth.locks = false) (post : ig_M → Int64 → Prop) :
    ∀ (n : Nat) (b : ig_M) (lb : Int64) (x1 : Int32) (x2 : Int32) (H : Heap) (locs : List Loc) (ls : Array Slot), wp_X6_begin_4 post n b lb x1 x2 → ig_Z D kk ad bs s H locs a la b lb lo → lv_has ls 3 [(0, .ref (ad 97)), (1, .int x1), (2, .int x2)] → W p l e (k2_rm 1 24) s m args below meth c H locs 0 0 (MQ below (va_Qv (fun u : ig_M × Int64 => post u.1 u.2) (fun u t => ig_Wd D kk ad bs a la u.1 u.2 lo t) (ig_A bs)) args s 0 0 (ig_A bs)) (F0 m 4 ls []) := by
  intro n
  induction n with
  | zero => intro b lb x1 x2 H locs ls hf Z hl; exact False.elim hf
  | succ n ih =>
    intro b lb x1 x2 H locs ls hf Z hl
    refine lv_iload_n F.1 F.2.1 dX6_begin_4 rfl (lv_at hl 2 rfl) ?_
    refine lv_aload_n F.1 F.2.1 dX6_begin_5 rfl (lv_at hl 0 rfl) ?_
    refine gf_X6_69 F E Z dX6_begin_6 ?_
    refine lv_icmp_ge (tgt := 128) F.1 F.2.1 dX6_begin_9 (by decide) (fun c_1 => ?_) (fun c_1 => ?_)
    · have hf := hf.1 c_1
      refine lv_aload_n F.1 F.2.1 dX6_begin_128 rfl (lv_at hl 0 rfl) ?_
      refine lv_iload_n F.1 F.2.1 dX6_begin_129 rfl (lv_at hl 1 rfl) ?_
      refine lv_if_eq (tgt := 137) F.1 F.2.1 dX6_begin_130 (by decide) (fun c_2 => ?_) (fun c_2 => ?_)
      · have hf := hf.1 c_2
        refine lv_aload_n F.1 F.2.1 dX6_begin_137 rfl (lv_at hl 0 rfl) ?_
        refine gf_X6_103 F E Z dX6_begin_138 ?_
        exact wm_X6_begin_141 F E hr hk post b lb (b 97 9) _ _ _ hf Z (lv_sub hl [] rfl)
      · have hf := hf.2 c_2
        refine lv_iconst (v := 2) F.1 F.2.1 dX6_begin_133 (by decide) ?_
        refine lv_goto (tgt := 141) F.1 F.2.1 dX6_begin_134 (by decide) ?_
        exact wm_X6_begin_141 F E hr hk post b lb 2 _ _ _ hf Z (lv_sub hl [] rfl)
    · have hf := hf.2 c_1
      refine lv_aload_n F.1 F.2.1 dX6_begin_12 rfl (lv_at hl 0 rfl) ?_
      refine gf_X6_22 F E Z dX6_begin_13 ?_
      refine lv_aload_n F.1 F.2.1 dX6_begin_16 rfl (lv_at hl 0 rfl) ?_
      refine gf_X6_106 F E Z dX6_begin_17 ?_
      have hv3 := hf.1
      have hf := hf.2
      refine ig_iald (f := b 102) F E Z (by decide) (by rw [ig_mm_b _ _ (by decide)]; exact (ig_k_102 _ _ _ _ _ _)) hv3 dX6_begin_20 ?_
      refine lv_iload_n F.1 F.2.1 dX6_begin_21 rfl (lv_at hl 2 rfl) ?_
      have hM := k_X6_has l (D := D) (kk := kk) (ad := ad) (bs := bs) (a := a) (la := la) (b := b) (lb := lb) (lo := lo) (b 102 (b 97 10).toNatClampNeg) x2 hf
      refine ig_calli E Z (ig_runS (As := [.int (b 102 (b 97 10).toNatClampNeg), .int x2]) (rest := []) F E Z hl G_X6_87 hM rfl md_X6_has rfl ⟨rfl, rfl⟩ ⟨Nat.le_of_ble_eq_true rfl, Nat.le_of_ble_eq_true rfl⟩ (Nat.le_of_ble_eq_true rfl) dX6_begin_22 ⟨Nat.le_of_ble_eq_true rfl, Nat.le_of_ble_eq_true rfl⟩) (fun r4 u H locs hf Z => ?_)
      refine lv_if_eq (tgt := 86) F.1 F.2.1 dX6_begin_25 (by decide) (fun c_5 => ?_) (fun c_5 => ?_)
      · have hf := hf.1 c_5
        exact wm_X6_begin_86 F E hr hk (fun (z0 : ig_M) (z1 : Int64) (z2 : Int32) (z3 : Int32) => wp_X6_begin_4 post n z0 z1 z2 z3) post ih b lb x1 x2 _ _ _ hf Z (lv_sub hl [0, 1, 2] rfl)
      · have hf := hf.2 c_5
        refine lv_aload_n F.1 F.2.1 dX6_begin_28 rfl (lv_at hl 0 rfl) ?_
        refine gf_X6_25 F E Z dX6_begin_29 ?_
        refine lv_iload_n F.1 F.2.1 dX6_begin_32 rfl (lv_at hl 2 rfl) ?_
        have hv6 := hf.1
        have hf := hf.2
        refine ig_iald (f := b 103) F E Z (by decide) (by rw [ig_mm_b _ _ (by decide)]; exact (ig_k_103 _ _ _ _ _ _)) hv6 dX6_begin_33 ?_
        refine lv_iconst (v := 1) F.1 F.2.1 dX6_begin_34 (by decide) ?_
        refine lv_icmp_eq (tgt := 86) F.1 F.2.1 dX6_begin_35 (by decide) (fun c_7 => ?_) (fun c_7 => ?_)
        · have hf := hf.1 c_7
          exact wm_X6_begin_86 F E hr hk (fun (z0 : ig_M) (z1 : Int64) (z2 : Int32) (z3 : Int32) => wp_X6_begin_4 post n z0 z1 z2 z3) post ih b lb x1 x2 _ _ _ hf Z (lv_sub hl [0, 1, 2] rfl)
        · have hf := hf.2 c_7
          refine lv_aload_n F.1 F.2.1 dX6_begin_38 rfl (lv_at hl 0 rfl) ?_
          refine lv_iload_n F.1 F.2.1 dX6_begin_39 rfl (lv_at hl 2 rfl) ?_
          have hM := k_X6_canBegin l (D := D) (kk := kk) (ad := ad) (bs := bs) (a := a) (la := la) (b := b) (lb := lb) (lo := lo) x2 hf
          refine ig_calli E Z (ig_runV (As := [.int x2]) (rest := []) F E Z hl G_X6_129 hM (i := 97) (by decide) (ig_k_97 _ _ _ _ _ _) rfl rfl md_X6_canBegin rfl ⟨rfl, rfl⟩ ⟨Nat.le_of_ble_eq_true rfl, Nat.le_of_ble_eq_true rfl⟩ (Nat.le_of_ble_eq_true rfl) dX6_begin_40 ⟨Nat.le_of_ble_eq_true rfl, Nat.le_of_ble_eq_true rfl⟩) (fun r8 u H locs hf Z => ?_)
          refine lv_if_eq (tgt := 86) F.1 F.2.1 dX6_begin_43 (by decide) (fun c_9 => ?_) (fun c_9 => ?_)
          · have hf := hf.1 c_9
            exact wm_X6_begin_86 F E hr hk (fun (z0 : ig_M) (z1 : Int64) (z2 : Int32) (z3 : Int32) => wp_X6_begin_4 post n z0 z1 z2 z3) post ih b lb x1 x2 _ _ _ hf Z (lv_sub hl [0, 1, 2] rfl)
          · have hf := hf.2 c_9
            refine lv_aload_n F.1 F.2.1 dX6_begin_46 rfl (lv_at hl 0 rfl) ?_
            refine gf_X6_25 F E Z dX6_begin_47 ?_
            refine lv_iload_n F.1 F.2.1 dX6_begin_50 rfl (lv_at hl 2 rfl) ?_
            refine lv_iconst (v := 1) F.1 F.2.1 dX6_begin_51 (by decide) ?_
            have hv10 := hf.1
            have hf := hf.2
            refine ig_iastB (n := 8) F E Z (by decide) (by decide) (fun r => ig_k_103 _ _ _ _ _ r) hv10 dX6_begin_52 (fun H locs b11 hb11 Z => ?_)
            have hf := hf b11 hb11
            refine lv_aload_n F.1 F.2.1 dX6_begin_53 rfl (lv_at hl 0 rfl) ?_
            refine gf_X6_31 F E Z dX6_begin_54 ?_
            refine lv_iload_n F.1 F.2.1 dX6_begin_57 rfl (lv_at hl 2 rfl) ?_
            refine lv_iconst (v := 0) F.1 F.2.1 dX6_begin_58 (by decide) ?_
            have hv12 := hf.1
            have hf := hf.2
            refine ig_iastB (n := 8) F E Z (by decide) (by decide) (fun r => ig_k_105 _ _ _ _ _ r) hv12 dX6_begin_59 (fun H locs b13 hb13 Z => ?_)
            have hf := hf b13 hb13
            refine lv_aload_n F.1 F.2.1 dX6_begin_60 rfl (lv_at hl 0 rfl) ?_
            refine gf_X6_34 F E Z dX6_begin_61 ?_
            refine lv_iload_n F.1 F.2.1 dX6_begin_64 rfl (lv_at hl 2 rfl) ?_
            refine lv_aload_n F.1 F.2.1 dX6_begin_65 rfl (lv_at hl 0 rfl) ?_
            refine gf_X6_16 F E Z dX6_begin_66 ?_
            refine lv_iload_n F.1 F.2.1 dX6_begin_69 rfl (lv_at hl 2 rfl) ?_
            have hv14 := hf.1
            have hf := hf.2
            refine ig_iald (f := b13 100) F E Z (by decide) (by rw [ig_mm_b _ _ (by decide)]; exact (ig_k_100 _ _ _ _ _ _)) hv14 dX6_begin_70 ?_
            have hv15 := hf.1
            have hf := hf.2
            refine ig_iastB (n := 8) F E Z (by decide) (by decide) (fun r => ig_k_106 _ _ _ _ _ r) hv15 dX6_begin_71 (fun H locs b16 hb16 Z => ?_)
            have hf := hf b16 hb16
            refine lv_aload_n F.1 F.2.1 dX6_begin_72 rfl (lv_at hl 0 rfl) ?_
            refine gf_X6_40 F E Z dX6_begin_73 ?_
            refine lv_iload_n F.1 F.2.1 dX6_begin_76 rfl (lv_at hl 2 rfl) ?_
            refine lv_iconst (v := 0) F.1 F.2.1 dX6_begin_77 (by decide) ?_
            have hv17 := hf.1
            have hf := hf.2
            refine ig_iastB (n := 8) F E Z (by decide) (by decide) (fun r => ig_k_108 _ _ _ _ _ r) hv17 dX6_begin_78 (fun H locs b18 hb18 Z => ?_)
            have hf := hf b18 hb18
            refine lv_aload_n F.1 F.2.1 dX6_begin_79 rfl (lv_at hl 0 rfl) ?_
            refine gf_X6_46 F E Z dX6_begin_80 ?_
            refine lv_iload_n F.1 F.2.1 dX6_begin_83 rfl (lv_at hl 2 rfl) ?_
            refine lv_iconst (v := 0) F.1 F.2.1 dX6_begin_84 (by decide) ?_
            have hv19 := hf.1
            have hf := hf.2
            refine ig_zastB (n := 8) F E Z (by decide) (by decide) (fun r => ig_k_110 _ _ _ _ _ r) hv19 dX6_begin_85 (fun H locs b20 hb20 Z => ?_)
            have hf := hf b20 hb20
            exact wm_X6_begin_86 F E hr hk (fun (z0 : ig_M) (z1 : Int64) (z2 : Int32) (z3 : Int32) => wp_X6_begin_4 post n z0 z1 z2 z3) post ih b20 lb x1 x2 _ _ _ hf Z (lv_sub hl [0, 1, 2] rfl)
set_option maxHeartbeats 4000000 in
set_option maxRecDepth 100000 in
theorem k_X6_begin (l : Launch) {D : va_G} {kk : Nat → ClassId} {ad : Nat → Nat} {bs : Nat} {a : ig_M} {la : Int64} {b : ig_M} {lb lo : Int64} {post : ig_M → Int64 → Prop} (hf : wp_X6_begin b lb post) : Met l yX6_begin (ig_ws yX6_begin cX6_begin 3 none) (k2_rm 1 24) (va_Pc [.ref (ad 97)] (ig_Wd D kk ad bs a la b lb lo)) (va_Qv (fun u : ig_M × Int64 => post u.1 u.2) (fun u t => ig_Wd D kk ad bs a la u.1 u.2 lo t) (ig_A bs)) 0 0 (ig_A bs) := by
  refine Met.ofW (cc := cX6_begin) (maxL := 3) (ret := none) (by decide) rfl ?_
  intro p e s m args below meth c s₁ B hml hv
  obtain ⟨rfl, E, hP⟩ := hv
  have hk := B.notSynchronized
  have hr := B.returns
  have F : CallFix p m c cX6_begin 3 s _ ig_all RX6 := ⟨B.exec, B.bytes, hml, findClass_of_methodNamed B.named, fun w hw => atoms_spec B.pre w (List.mem_cons_of_mem _ hw)⟩
  have Z : ig_Z D kk ad bs s s.heap [] a la b lb lo := ig_Z.rf hP
  have hl := lv_entry ([.ref (ad 97)]) (n := 3) (Nat.le_of_ble_eq_true rfl)
  rw [lg_entry_eq]
  generalize (lg_sl ([.ref (ad 97)]) ++ List.replicate (3 - (lg_sl ([.ref (ad 97)])).length) Slot.unset).toArray = ls at hl ⊢
  have hl : lv_has ls 3 [(0, .ref (ad 97))] := hl
  refine lv_iconst (v := 1) F.1 F.2.1 dX6_begin_0 (by decide) ?_
  refine lv_istore_n (lv' := [(1, .int 1), (0, .ref (ad 97))]) F.1 F.2.1 dX6_begin_1 rfl hl (by decide) rfl (fun ls hl => ?_)
  refine lv_iconst (v := 0) F.1 F.2.1 dX6_begin_2 (by decide) ?_
  refine lv_istore_n (lv' := [(2, .int 0), (1, .int 1), (0, .ref (ad 97))]) F.1 F.2.1 dX6_begin_3 rfl hl (by decide) rfl (fun ls hl => ?_)
  obtain ⟨n1, hf⟩ := hf
  exact wm_X6_begin_4 F E hr hk post n1 b lb 1 0 _ _ _ hf Z (lv_sub hl [2, 1, 0] rfl)
set_option maxHeartbeats 4000000 in
set_option maxRecDepth 100000 in
theorem wm_X6_isDangerous_14 (F : CallFix p m c cX6_isDangerous 4 s args ig_all RX6) (E : ig_E D kk ad bs s) (hr : meth.sig.returnType = (some .boolean)) (hk : meth.locks = false) (k_4 : Int32 → Int32 → Prop) (post : Int32 → Prop) (h_4 : ∀ (x1 : Int32) (x2 : Int32) (H : Heap) (locs : List Loc) (ls : Array Slot), k_4 x1 x2 → ig_Z D kk ad bs s H locs a la b lb lo → lv_has ls 4 [(0, .ref (ad 97)), (1, .int x1), (2, .int x2)] → W p l e (k2_rm 0 0) s m args below meth c H locs 0 0 (MQ below (va_Qi (fun (r : Int32) (_ : Unit) => post r) (fun _ t => ig_Wd D kk ad bs a la b lb lo t) (ig_A bs)) args s 0 0 (ig_A bs)) (F0 m 4 ls [])) :
    ∀ (n : Nat) (x1 : Int32) (x2 : Int32) (x3 : Int32) (H : Heap) (locs : List Loc) (ls : Array Slot), wp_X6_isDangerous_14 b lb k_4 post n x1 x2 x3 → ig_Z D kk ad bs s H locs a la b lb lo → lv_has ls 4 [(0, .ref (ad 97)), (1, .int x1), (2, .int x2), (3, .int x3)] → W p l e (k2_rm 0 0) s m args below meth c H locs 0 0 (MQ below (va_Qi (fun (r : Int32) (_ : Unit) => post r) (fun _ t => ig_Wd D kk ad bs a la b lb lo t) (ig_A bs)) args s 0 0 (ig_A bs)) (F0 m 14 ls []) := by
  intro n
  induction n with
  | zero => intro x1 x2 x3 H locs ls hf Z hl; exact False.elim hf
  | succ n ih =>
    intro x1 x2 x3 H locs ls hf Z hl
    refine lv_iload_n F.1 F.2.1 dX6_isDangerous_14 rfl (lv_at hl 3 rfl) ?_
    refine lv_aload_n F.1 F.2.1 dX6_isDangerous_15 rfl (lv_at hl 0 rfl) ?_
    refine gf_X6_69 F E Z dX6_isDangerous_16 ?_
    refine lv_icmp_ge (tgt := 81) F.1 F.2.1 dX6_isDangerous_19 (by decide) (fun c_2 => ?_) (fun c_2 => ?_)
    · have hf := hf.1 c_2
      refine lv_iinc (v := x2 + 1) (lv' := [(2, .int (x2 + 1)), (0, .ref (ad 97)), (1, .int x1), (3, .int x3)]) F.1 F.2.1 dX6_isDangerous_81 hl (k := 2) rfl (by rfl) (by decide) rfl (fun ls hl => ?_)
      refine lv_goto (tgt := 4) F.1 F.2.1 dX6_isDangerous_84 (by decide) ?_
      exact h_4 x1 (x2 + 1) _ _ _ hf Z (lv_sub hl [1, 2, 0] rfl)
    · have hf := hf.2 c_2
      refine lv_iload_n F.1 F.2.1 dX6_isDangerous_22 rfl (lv_at hl 1 rfl) ?_
      refine lv_if_ne (tgt := 69) F.1 F.2.1 dX6_isDangerous_23 (by decide) (fun c_3 => ?_) (fun c_3 => ?_)
      · have hf := hf.1 c_3
        refine lv_iconst (v := 1) F.1 F.2.1 dX6_isDangerous_69 (by decide) ?_
        refine lv_goto (tgt := 74) F.1 F.2.1 dX6_isDangerous_70 (by decide) ?_
        refine lv_istore_n (lv' := [(1, .int 1), (0, .ref (ad 97)), (2, .int x2), (3, .int x3)]) F.1 F.2.1 dX6_isDangerous_74 rfl hl (by decide) rfl (fun ls hl => ?_)
        refine lv_iinc (v := x3 + 1) (lv' := [(3, .int (x3 + 1)), (1, .int 1), (0, .ref (ad 97)), (2, .int x2)]) F.1 F.2.1 dX6_isDangerous_75 hl (k := 3) rfl (by rfl) (by decide) rfl (fun ls hl => ?_)
        refine lv_goto (tgt := 14) F.1 F.2.1 dX6_isDangerous_78 (by decide) ?_
        exact ih 1 x2 (x3 + 1) _ _ _ hf Z (lv_sub hl [2, 1, 3, 0] rfl)
      · have hf := hf.2 c_3
        refine lv_aload_n F.1 F.2.1 dX6_isDangerous_26 rfl (lv_at hl 0 rfl) ?_
        refine gf_X6_25 F E Z dX6_isDangerous_27 ?_
        refine lv_iload_n F.1 F.2.1 dX6_isDangerous_30 rfl (lv_at hl 2 rfl) ?_
        have hv4 := hf.1
        have hf := hf.2
        refine ig_iald (f := b 103) F E Z (by decide) (by rw [ig_mm_b _ _ (by decide)]; exact (ig_k_103 _ _ _ _ _ _)) hv4 dX6_isDangerous_31 ?_
        refine lv_if_ne (tgt := 73) F.1 F.2.1 dX6_isDangerous_32 (by decide) (fun c_5 => ?_) (fun c_5 => ?_)
        · have hf := hf.1 c_5
          refine lv_iconst (v := 0) F.1 F.2.1 dX6_isDangerous_73 (by decide) ?_
          refine lv_istore_n (lv' := [(1, .int 0), (0, .ref (ad 97)), (2, .int x2), (3, .int x3)]) F.1 F.2.1 dX6_isDangerous_74 rfl hl (by decide) rfl (fun ls hl => ?_)
          refine lv_iinc (v := x3 + 1) (lv' := [(3, .int (x3 + 1)), (1, .int 0), (0, .ref (ad 97)), (2, .int x2)]) F.1 F.2.1 dX6_isDangerous_75 hl (k := 3) rfl (by rfl) (by decide) rfl (fun ls hl => ?_)
          refine lv_goto (tgt := 14) F.1 F.2.1 dX6_isDangerous_78 (by decide) ?_
          exact ih 0 x2 (x3 + 1) _ _ _ hf Z (lv_sub hl [2, 1, 3, 0] rfl)
        · have hf := hf.2 c_5
          refine lv_aload_n F.1 F.2.1 dX6_isDangerous_35 rfl (lv_at hl 0 rfl) ?_
          refine gf_X6_50 F E Z dX6_isDangerous_36 ?_
          refine lv_iconst (v := 3) F.1 F.2.1 dX6_isDangerous_39 (by decide) ?_
          refine lv_iload_n F.1 F.2.1 dX6_isDangerous_40 rfl (lv_at hl 2 rfl) ?_
          refine lv_imul F.1 F.2.1 dX6_isDangerous_41 ?_
          have hv6 := hf.1
          have hf := hf.2
          refine ig_zald (f := b 111) F E Z (by decide) (by rw [ig_mm_b _ _ (by decide)]; exact (ig_k_111 _ _ _ _ _ _)) hv6 dX6_isDangerous_42 ?_
          refine lv_if_eq (tgt := 73) F.1 F.2.1 dX6_isDangerous_43 (by decide) (fun c_7 => ?_) (fun c_7 => ?_)
          · have hf := hf.1 c_7
            refine lv_iconst (v := 0) F.1 F.2.1 dX6_isDangerous_73 (by decide) ?_
            refine lv_istore_n (lv' := [(1, .int 0), (0, .ref (ad 97)), (2, .int x2), (3, .int x3)]) F.1 F.2.1 dX6_isDangerous_74 rfl hl (by decide) rfl (fun ls hl => ?_)
            refine lv_iinc (v := x3 + 1) (lv' := [(3, .int (x3 + 1)), (1, .int 0), (0, .ref (ad 97)), (2, .int x2)]) F.1 F.2.1 dX6_isDangerous_75 hl (k := 3) rfl (by rfl) (by decide) rfl (fun ls hl => ?_)
            refine lv_goto (tgt := 14) F.1 F.2.1 dX6_isDangerous_78 (by decide) ?_
            exact ih 0 x2 (x3 + 1) _ _ _ hf Z (lv_sub hl [2, 1, 3, 0] rfl)
          · have hf := hf.2 c_7
            refine lv_aload_n F.1 F.2.1 dX6_isDangerous_46 rfl (lv_at hl 0 rfl) ?_
            refine gf_X6_19 F E Z dX6_isDangerous_47 ?_
            refine lv_bipush (v := 8) F.1 F.2.1 dX6_isDangerous_50 (by decide) ?_
            refine lv_iload_n F.1 F.2.1 dX6_isDangerous_52 rfl (lv_at hl 2 rfl) ?_
            refine lv_imul F.1 F.2.1 dX6_isDangerous_53 ?_
            refine lv_iload_n F.1 F.2.1 dX6_isDangerous_54 rfl (lv_at hl 3 rfl) ?_
            refine lv_iadd F.1 F.2.1 dX6_isDangerous_55 ?_
            have hv8 := hf.1
            have hf := hf.2
            refine ig_iald (f := b 101) F E Z (by decide) (by rw [ig_mm_b _ _ (by decide)]; exact (ig_k_101 _ _ _ _ _ _)) hv8 dX6_isDangerous_56 ?_
            refine lv_if_le (tgt := 73) F.1 F.2.1 dX6_isDangerous_57 (by decide) (fun c_9 => ?_) (fun c_9 => ?_)
            · have hf := hf.1 c_9
              refine lv_iconst (v := 0) F.1 F.2.1 dX6_isDangerous_73 (by decide) ?_
              refine lv_istore_n (lv' := [(1, .int 0), (0, .ref (ad 97)), (2, .int x2), (3, .int x3)]) F.1 F.2.1 dX6_isDangerous_74 rfl hl (by decide) rfl (fun ls hl => ?_)
              refine lv_iinc (v := x3 + 1) (lv' := [(3, .int (x3 + 1)), (1, .int 0), (0, .ref (ad 97)), (2, .int x2)]) F.1 F.2.1 dX6_isDangerous_75 hl (k := 3) rfl (by rfl) (by decide) rfl (fun ls hl => ?_)
              refine lv_goto (tgt := 14) F.1 F.2.1 dX6_isDangerous_78 (by decide) ?_
              exact ih 0 x2 (x3 + 1) _ _ _ hf Z (lv_sub hl [2, 1, 3, 0] rfl)
            · have hf := hf.2 c_9
              refine lv_aload_n F.1 F.2.1 dX6_isDangerous_60 rfl (lv_at hl 0 rfl) ?_
              refine gf_X6_25 F E Z dX6_isDangerous_61 ?_
              refine lv_iload_n F.1 F.2.1 dX6_isDangerous_64 rfl (lv_at hl 3 rfl) ?_
              have hv10 := hf.1
              have hf := hf.2
              refine ig_iald (f := b 103) F E Z (by decide) (by rw [ig_mm_b _ _ (by decide)]; exact (ig_k_103 _ _ _ _ _ _)) hv10 dX6_isDangerous_65 ?_
              refine lv_if_eq (tgt := 73) F.1 F.2.1 dX6_isDangerous_66 (by decide) (fun c_11 => ?_) (fun c_11 => ?_)
              · have hf := hf.1 c_11
                refine lv_iconst (v := 0) F.1 F.2.1 dX6_isDangerous_73 (by decide) ?_
                refine lv_istore_n (lv' := [(1, .int 0), (0, .ref (ad 97)), (2, .int x2), (3, .int x3)]) F.1 F.2.1 dX6_isDangerous_74 rfl hl (by decide) rfl (fun ls hl => ?_)
                refine lv_iinc (v := x3 + 1) (lv' := [(3, .int (x3 + 1)), (1, .int 0), (0, .ref (ad 97)), (2, .int x2)]) F.1 F.2.1 dX6_isDangerous_75 hl (k := 3) rfl (by rfl) (by decide) rfl (fun ls hl => ?_)
                refine lv_goto (tgt := 14) F.1 F.2.1 dX6_isDangerous_78 (by decide) ?_
                exact ih 0 x2 (x3 + 1) _ _ _ hf Z (lv_sub hl [2, 1, 3, 0] rfl)
              · have hf := hf.2 c_11
                refine lv_iconst (v := 1) F.1 F.2.1 dX6_isDangerous_69 (by decide) ?_
                refine lv_goto (tgt := 74) F.1 F.2.1 dX6_isDangerous_70 (by decide) ?_
                refine lv_istore_n (lv' := [(1, .int 1), (0, .ref (ad 97)), (2, .int x2), (3, .int x3)]) F.1 F.2.1 dX6_isDangerous_74 rfl hl (by decide) rfl (fun ls hl => ?_)
                refine lv_iinc (v := x3 + 1) (lv' := [(3, .int (x3 + 1)), (1, .int 1), (0, .ref (ad 97)), (2, .int x2)]) F.1 F.2.1 dX6_isDangerous_75 hl (k := 3) rfl (by rfl) (by decide) rfl (fun ls hl => ?_)
                refine lv_goto (tgt := 14) F.1 F.2.1 dX6_isDangerous_78 (by decide) ?_
                exact ih 1 x2 (x3 + 1) _ _ _ hf Z (lv_sub hl [2, 1, 3, 0] rfl)
set_option maxHeartbeats 4000000 in
set_option maxRecDepth 100000 in
theorem wm_X6_isDangerous_4 (F : CallFix p m c cX6_isDangerous 4 s args ig_all RX6) (E : ig_E D kk ad bs s) (hr : meth.sig.returnType = (some .boolean)) (hk : meth.locks = false) (post : Int32 → Prop) :
    ∀ (n : Nat) (x1 : Int32) (x2 : Int32) (H : Heap) (locs : List Loc) (ls : Array Slot), wp_X6_isDangerous_4 b lb post n x1 x2 → ig_Z D kk ad bs s H locs a la b lb lo → lv_has ls 4 [(0, .ref (ad 97)), (1, .int x1), (2, .int x2)] → W p l e (k2_rm 0 0) s m args below meth c H locs 0 0 (MQ below (va_Qi (fun (r : Int32) (_ : Unit) => post r) (fun _ t => ig_Wd D kk ad bs a la b lb lo t) (ig_A bs)) args s 0 0 (ig_A bs)) (F0 m 4 ls []) := by
  intro n
  induction n with
  | zero => intro x1 x2 H locs ls hf Z hl; exact False.elim hf
  | succ n ih =>
    intro x1 x2 H locs ls hf Z hl
    refine lv_iload_n F.1 F.2.1 dX6_isDangerous_4 rfl (lv_at hl 2 rfl) ?_
    refine lv_aload_n F.1 F.2.1 dX6_isDangerous_5 rfl (lv_at hl 0 rfl) ?_
    refine gf_X6_69 F E Z dX6_isDangerous_6 ?_
    refine lv_icmp_ge (tgt := 87) F.1 F.2.1 dX6_isDangerous_9 (by decide) (fun c_1 => ?_) (fun c_1 => ?_)
    · have hf := hf.1 c_1
      refine lv_iload_n F.1 F.2.1 dX6_isDangerous_87 rfl (lv_at hl 1 rfl) ?_
      exact W.zret (v := x1) F.1 F.2.1 hr (ig_narrow hf.1) (fun t ht hW => ⟨⟨_, (), rfl, hf.2, Z.wd E ht hW⟩, Z.fr ht⟩) Z.2.2.2 dX6_isDangerous_88
    · have hf := hf.2 c_1
      refine lv_iconst (v := 0) F.1 F.2.1 dX6_isDangerous_12 (by decide) ?_
      refine lv_istore_n (lv' := [(3, .int 0), (0, .ref (ad 97)), (1, .int x1), (2, .int x2)]) F.1 F.2.1 dX6_isDangerous_13 rfl hl (by decide) rfl (fun ls hl => ?_)
      obtain ⟨n1, hf⟩ := hf
      exact wm_X6_isDangerous_14 F E hr hk (fun (z0 : Int32) (z1 : Int32) => wp_X6_isDangerous_4 b lb post n z0 z1) post ih n1 x1 x2 0 _ _ _ hf Z (lv_sub hl [1, 2, 3, 0] rfl)
set_option maxHeartbeats 4000000 in
set_option maxRecDepth 100000 in
theorem k_X6_isDangerous (l : Launch) {D : va_G} {kk : Nat → ClassId} {ad : Nat → Nat} {bs : Nat} {a : ig_M} {la : Int64} {b : ig_M} {lb lo : Int64} {post : Int32 → Prop} (hf : wp_X6_isDangerous b lb post) : Met l yX6_isDangerous (ig_ws yX6_isDangerous cX6_isDangerous 4 (some .boolean)) (k2_rm 0 0) (va_Pc [.ref (ad 97)] (ig_Wd D kk ad bs a la b lb lo)) (va_Qi (fun (r : Int32) (_ : Unit) => post r) (fun _ t => ig_Wd D kk ad bs a la b lb lo t) (ig_A bs)) 0 0 (ig_A bs) := by
  refine Met.ofW (cc := cX6_isDangerous) (maxL := 4) (ret := (some .boolean)) (by decide) rfl ?_
  intro p e s m args below meth c s₁ B hml hv
  obtain ⟨rfl, E, hP⟩ := hv
  have hk := B.notSynchronized
  have hr := B.returns
  have F : CallFix p m c cX6_isDangerous 4 s _ ig_all RX6 := ⟨B.exec, B.bytes, hml, findClass_of_methodNamed B.named, fun w hw => atoms_spec B.pre w (List.mem_cons_of_mem _ hw)⟩
  have Z : ig_Z D kk ad bs s s.heap [] a la b lb lo := ig_Z.rf hP
  have hl := lv_entry ([.ref (ad 97)]) (n := 4) (Nat.le_of_ble_eq_true rfl)
  rw [lg_entry_eq]
  generalize (lg_sl ([.ref (ad 97)]) ++ List.replicate (4 - (lg_sl ([.ref (ad 97)])).length) Slot.unset).toArray = ls at hl ⊢
  have hl : lv_has ls 4 [(0, .ref (ad 97))] := hl
  refine lv_iconst (v := 0) F.1 F.2.1 dX6_isDangerous_0 (by decide) ?_
  refine lv_istore_n (lv' := [(1, .int 0), (0, .ref (ad 97))]) F.1 F.2.1 dX6_isDangerous_1 rfl hl (by decide) rfl (fun ls hl => ?_)
  refine lv_iconst (v := 0) F.1 F.2.1 dX6_isDangerous_2 (by decide) ?_
  refine lv_istore_n (lv' := [(2, .int 0), (1, .int 0), (0, .ref (ad 97))]) F.1 F.2.1 dX6_isDangerous_3 rfl hl (by decide) rfl (fun ls hl => ?_)
  obtain ⟨n1, hf⟩ := hf
  exact wm_X6_isDangerous_4 F E hr hk post n1 0 0 _ _ _ hf Z (lv_sub hl [2, 1, 0] rfl)
set_option maxHeartbeats 4000000 in
set_option maxRecDepth 100000 in
theorem wm_X6_write_50 (F : CallFix p m c cX6_write 4 s args ig_all RX6) (E : ig_E D kk ad bs s) (hr : meth.sig.returnType = none) (hk : meth.locks = false) (k_55 : ig_M → Int64 → Int32 → Int32 → Int32 → Prop) (post : ig_M → Int64 → Prop) (h_55 : ∀ (b : ig_M) (lb : Int64) (x1 : Int32) (x2 : Int32) (t0 : Int32) (H : Heap) (locs : List Loc) (ls : Array Slot), k_55 b lb x1 x2 t0 → ig_Z D kk ad bs s H locs a la b lb lo → lv_has ls 4 [(0, .ref (ad 97)), (1, .int x1), (2, .int x2)] → W p l e (k2_rm 0 0) s m args below meth c H locs 0 0 (MQ below (va_Qv (fun u : ig_M × Int64 => post u.1 u.2) (fun u t => ig_Wd D kk ad bs a la u.1 u.2 lo t) (ig_A bs)) args s 0 0 (ig_A bs)) (F0 m 55 ls [.int t0])) :
    ∀ (b : ig_M) (lb : Int64) (x1 : Int32) (x2 : Int32) (H : Heap) (locs : List Loc) (ls : Array Slot), wp_X6_write_50 k_55 post b lb x1 x2 → ig_Z D kk ad bs s H locs a la b lb lo → lv_has ls 4 [(0, .ref (ad 97)), (1, .int x1), (2, .int x2)] → W p l e (k2_rm 0 0) s m args below meth c H locs 0 0 (MQ below (va_Qv (fun u : ig_M × Int64 => post u.1 u.2) (fun u t => ig_Wd D kk ad bs a la u.1 u.2 lo t) (ig_A bs)) args s 0 0 (ig_A bs)) (F0 m 50 ls []) := by
  intro b lb x1 x2 H locs ls hf Z hl
  refine lv_iconst (v := 1) F.1 F.2.1 dX6_write_50 (by decide) ?_
  refine lv_goto (tgt := 55) F.1 F.2.1 dX6_write_51 (by decide) ?_
  exact h_55 b lb x1 x2 1 _ _ _ hf Z (lv_sub hl [0, 1, 2] rfl)
set_option maxHeartbeats 4000000 in
set_option maxRecDepth 100000 in
theorem wm_X6_write_55 (F : CallFix p m c cX6_write 4 s args ig_all RX6) (E : ig_E D kk ad bs s) (hr : meth.sig.returnType = none) (hk : meth.locks = false) (k_5 : ig_M → Int64 → Int32 → Int32 → Prop) (post : ig_M → Int64 → Prop) (h_5 : ∀ (b : ig_M) (lb : Int64) (x1 : Int32) (x2 : Int32) (H : Heap) (locs : List Loc) (ls : Array Slot), k_5 b lb x1 x2 → ig_Z D kk ad bs s H locs a la b lb lo → lv_has ls 4 [(0, .ref (ad 97)), (1, .int x1), (2, .int x2)] → W p l e (k2_rm 0 0) s m args below meth c H locs 0 0 (MQ below (va_Qv (fun u : ig_M × Int64 => post u.1 u.2) (fun u t => ig_Wd D kk ad bs a la u.1 u.2 lo t) (ig_A bs)) args s 0 0 (ig_A bs)) (F0 m 5 ls [])) :
    ∀ (b : ig_M) (lb : Int64) (x1 : Int32) (x2 : Int32) (t0 : Int32) (H : Heap) (locs : List Loc) (ls : Array Slot), wp_X6_write_55 k_5 post b lb x1 x2 t0 → ig_Z D kk ad bs s H locs a la b lb lo → lv_has ls 4 [(0, .ref (ad 97)), (1, .int x1), (2, .int x2)] → W p l e (k2_rm 0 0) s m args below meth c H locs 0 0 (MQ below (va_Qv (fun u : ig_M × Int64 => post u.1 u.2) (fun u t => ig_Wd D kk ad bs a la u.1 u.2 lo t) (ig_A bs)) args s 0 0 (ig_A bs)) (F0 m 55 ls [.int t0]) := by
  intro b lb x1 x2 t0 H locs ls hf Z hl
  refine lv_istore_n (lv' := [(3, .int t0), (0, .ref (ad 97)), (1, .int x1), (2, .int x2)]) F.1 F.2.1 dX6_write_55 rfl hl (by decide) rfl (fun ls hl => ?_)
  refine lv_iconst (v := 4) F.1 F.2.1 dX6_write_56 (by decide) ?_
  refine lv_iload_n F.1 F.2.1 dX6_write_57 rfl (lv_at hl 2 rfl) ?_
  refine lv_imul F.1 F.2.1 dX6_write_58 ?_
  refine lv_iload_n F.1 F.2.1 dX6_write_59 rfl (lv_at hl 0 rfl) ?_
  refine lv_if_eq (tgt := 67) F.1 F.2.1 dX6_write_60 (by decide) (fun c_10 => ?_) (fun c_10 => ?_)
  · have hf := hf.1 c_10
    refine lv_aload_n F.1 F.2.1 dX6_write_67 rfl (lv_at hl 1 rfl) ?_
    refine gf_X6_25 F E Z dX6_write_68 ?_
    refine lv_iload_n F.1 F.2.1 dX6_write_71 rfl (lv_at hl 3 rfl) ?_
    have hv11 := hf.1
    have hf := hf.2
    refine ig_iald (f := b 103) F E Z (by decide) (by rw [ig_mm_b _ _ (by decide)]; exact (ig_k_103 _ _ _ _ _ _)) hv11 dX6_write_72 ?_
    refine lv_iadd F.1 F.2.1 dX6_write_73 ?_
    refine lv_istore_n (lv' := [(1, .int ((4 * x1) + (b 103 x2.toNatClampNeg))), (3, .int t0), (0, .ref (ad 97)), (2, .int x2)]) F.1 F.2.1 dX6_write_74 rfl hl (by decide) rfl (fun ls hl => ?_)
    refine lv_iinc (v := x2 + (-1)) (lv' := [(2, .int (x2 + (-1))), (1, .int ((4 * x1) + (b 103 x2.toNatClampNeg))), (3, .int t0), (0, .ref (ad 97))]) F.1 F.2.1 dX6_write_75 hl (k := 3) rfl (by rfl) (by decide) rfl (fun ls hl => ?_)
    refine lv_goto (tgt := 5) F.1 F.2.1 dX6_write_78 (by decide) ?_
    exact h_5 b lb ((4 * x1) + (b 103 x2.toNatClampNeg)) (x2 + (-1)) _ _ _ hf Z (lv_sub hl [3, 1, 0] rfl)
  · have hf := hf.2 c_10
    refine lv_iconst (v := 3) F.1 F.2.1 dX6_write_63 (by decide) ?_
    refine lv_goto (tgt := 73) F.1 F.2.1 dX6_write_64 (by decide) ?_
    refine lv_iadd F.1 F.2.1 dX6_write_73 ?_
    refine lv_istore_n (lv' := [(1, .int ((4 * x1) + 3)), (3, .int t0), (0, .ref (ad 97)), (2, .int x2)]) F.1 F.2.1 dX6_write_74 rfl hl (by decide) rfl (fun ls hl => ?_)
    refine lv_iinc (v := x2 + (-1)) (lv' := [(2, .int (x2 + (-1))), (1, .int ((4 * x1) + 3)), (3, .int t0), (0, .ref (ad 97))]) F.1 F.2.1 dX6_write_75 hl (k := 3) rfl (by rfl) (by decide) rfl (fun ls hl => ?_)
    refine lv_goto (tgt := 5) F.1 F.2.1 dX6_write_78 (by decide) ?_
    exact h_5 b lb ((4 * x1) + 3) (x2 + (-1)) _ _ _ hf Z (lv_sub hl [3, 1, 0] rfl)
set_option maxHeartbeats 4000000 in
set_option maxRecDepth 100000 in
theorem wm_X6_write_5 (F : CallFix p m c cX6_write 4 s args ig_all RX6) (E : ig_E D kk ad bs s) (hr : meth.sig.returnType = none) (hk : meth.locks = false) (post : ig_M → Int64 → Prop) :
    ∀ (n : Nat) (b : ig_M) (lb : Int64) (x1 : Int32) (x2 : Int32) (H : Heap) (locs : List Loc) (ls : Array Slot), wp_X6_write_5 post n b lb x1 x2 → ig_Z D kk ad bs s H locs a la b lb lo → lv_has ls 4 [(0, .ref (ad 97)), (1, .int x1), (2, .int x2)] → W p l e (k2_rm 0 0) s m args below meth c H locs 0 0 (MQ below (va_Qv (fun u : ig_M × Int64 => post u.1 u.2) (fun u t => ig_Wd D kk ad bs a la u.1 u.2 lo t) (ig_A bs)) args s 0 0 (ig_A bs)) (F0 m 5 ls []) := by
  intro n
  induction n with
  | zero => intro b lb x1 x2 H locs ls hf Z hl; exact False.elim hf
  | succ n ih =>
    intro b lb x1 x2 H locs ls hf Z hl
    refine lv_iload_n F.1 F.2.1 dX6_write_5 rfl (lv_at hl 2 rfl) ?_
    refine lv_if_lt (tgt := 81) F.1 F.2.1 dX6_write_6 (by decide) (fun c_1 => ?_) (fun c_1 => ?_)
    · have hf := hf.1 c_1
      refine lv_aload_n F.1 F.2.1 dX6_write_81 rfl (lv_at hl 0 rfl) ?_
      refine gf_X6_57 F E Z dX6_write_82 ?_
      refine lv_aload_n F.1 F.2.1 dX6_write_85 rfl (lv_at hl 0 rfl) ?_
      refine gf_X6_109 F E Z dX6_write_86 ?_
      refine lv_iload_n F.1 F.2.1 dX6_write_89 rfl (lv_at hl 1 rfl) ?_
      have hv2 := hf.1
      have hf := hf.2
      refine ig_iastB (n := 5000) F E Z (by decide) (by decide) (fun r => ig_k_112 _ _ _ _ _ r) hv2 dX6_write_90 (fun H locs b3 hb3 Z => ?_)
      have hf := hf b3 hb3
      exact W.vret F.1 F.2.1 hr (fun t ht hW => ⟨⟨(b3, lb), rfl, hf, Z.wd E ht hW⟩, Z.fr ht⟩) Z.2.2.2 dX6_write_91
    · have hf := hf.2 c_1
      refine lv_iload_n F.1 F.2.1 dX6_write_9 rfl (lv_at hl 2 rfl) ?_
      refine lv_aload_n F.1 F.2.1 dX6_write_10 rfl (lv_at hl 0 rfl) ?_
      refine gf_X6_69 F E Z dX6_write_11 ?_
      refine lv_icmp_ge (tgt := 50) F.1 F.2.1 dX6_write_14 (by decide) (fun c_4 => ?_) (fun c_4 => ?_)
      · have hf := hf.1 c_4
        exact wm_X6_write_50 F E hr hk (wp_X6_write_55 (fun (z0 : ig_M) (z1 : Int64) (z2 : Int32) (z3 : Int32) => wp_X6_write_5 post n z0 z1 z2 z3) post) post (fun v0 v1 v2 v3 v4 H locs ls  hf Z hl => wm_X6_write_55 F E hr hk (fun (z0 : ig_M) (z1 : Int64) (z2 : Int32) (z3 : Int32) => wp_X6_write_5 post n z0 z1 z2 z3) post ih v0 v1 v2 v3 v4 H locs ls  hf Z hl) b lb x1 x2 _ _ _ hf Z (lv_sub hl [0, 1, 2] rfl)
      · have hf := hf.2 c_4
        refine lv_aload_n F.1 F.2.1 dX6_write_17 rfl (lv_at hl 0 rfl) ?_
        refine gf_X6_103 F E Z dX6_write_18 ?_
        refine lv_if_eq (tgt := 50) F.1 F.2.1 dX6_write_21 (by decide) (fun c_5 => ?_) (fun c_5 => ?_)
        · have hf := hf.1 c_5
          exact wm_X6_write_50 F E hr hk (wp_X6_write_55 (fun (z0 : ig_M) (z1 : Int64) (z2 : Int32) (z3 : Int32) => wp_X6_write_5 post n z0 z1 z2 z3) post) post (fun v0 v1 v2 v3 v4 H locs ls  hf Z hl => wm_X6_write_55 F E hr hk (fun (z0 : ig_M) (z1 : Int64) (z2 : Int32) (z3 : Int32) => wp_X6_write_5 post n z0 z1 z2 z3) post ih v0 v1 v2 v3 v4 H locs ls  hf Z hl) b lb x1 x2 _ _ _ hf Z (lv_sub hl [0, 1, 2] rfl)
        · have hf := hf.2 c_5
          refine lv_aload_n F.1 F.2.1 dX6_write_24 rfl (lv_at hl 0 rfl) ?_
          refine gf_X6_103 F E Z dX6_write_25 ?_
          refine lv_iconst (v := 3) F.1 F.2.1 dX6_write_28 (by decide) ?_
          refine lv_icmp_eq (tgt := 50) F.1 F.2.1 dX6_write_29 (by decide) (fun c_6 => ?_) (fun c_6 => ?_)
          · have hf := hf.1 c_6
            exact wm_X6_write_50 F E hr hk (wp_X6_write_55 (fun (z0 : ig_M) (z1 : Int64) (z2 : Int32) (z3 : Int32) => wp_X6_write_5 post n z0 z1 z2 z3) post) post (fun v0 v1 v2 v3 v4 H locs ls  hf Z hl => wm_X6_write_55 F E hr hk (fun (z0 : ig_M) (z1 : Int64) (z2 : Int32) (z3 : Int32) => wp_X6_write_5 post n z0 z1 z2 z3) post ih v0 v1 v2 v3 v4 H locs ls  hf Z hl) b lb x1 x2 _ _ _ hf Z (lv_sub hl [0, 1, 2] rfl)
          · have hf := hf.2 c_6
            refine lv_aload_n F.1 F.2.1 dX6_write_32 rfl (lv_at hl 0 rfl) ?_
            refine gf_X6_50 F E Z dX6_write_33 ?_
            refine lv_iconst (v := 3) F.1 F.2.1 dX6_write_36 (by decide) ?_
            refine lv_iload_n F.1 F.2.1 dX6_write_37 rfl (lv_at hl 2 rfl) ?_
            refine lv_imul F.1 F.2.1 dX6_write_38 ?_
            refine lv_aload_n F.1 F.2.1 dX6_write_39 rfl (lv_at hl 0 rfl) ?_
            refine gf_X6_25 F E Z dX6_write_40 ?_
            refine lv_iload_n F.1 F.2.1 dX6_write_43 rfl (lv_at hl 2 rfl) ?_
            have hv7 := hf.1
            have hf := hf.2
            refine ig_iald (f := b 103) F E Z (by decide) (by rw [ig_mm_b _ _ (by decide)]; exact (ig_k_103 _ _ _ _ _ _)) hv7 dX6_write_44 ?_
            refine lv_iadd F.1 F.2.1 dX6_write_45 ?_
            have hv8 := hf.1
            have hf := hf.2
            refine ig_zald (f := b 111) F E Z (by decide) (by rw [ig_mm_b _ _ (by decide)]; exact (ig_k_111 _ _ _ _ _ _)) hv8 dX6_write_46 ?_
            refine lv_if_eq (tgt := 54) F.1 F.2.1 dX6_write_47 (by decide) (fun c_9 => ?_) (fun c_9 => ?_)
            · have hf := hf.1 c_9
              refine lv_iconst (v := 0) F.1 F.2.1 dX6_write_54 (by decide) ?_
              exact wm_X6_write_55 F E hr hk (fun (z0 : ig_M) (z1 : Int64) (z2 : Int32) (z3 : Int32) => wp_X6_write_5 post n z0 z1 z2 z3) post ih b lb x1 x2 0 _ _ _ hf Z (lv_sub hl [0, 1, 2] rfl)
            · have hf := hf.2 c_9
              exact wm_X6_write_50 F E hr hk (wp_X6_write_55 (fun (z0 : ig_M) (z1 : Int64) (z2 : Int32) (z3 : Int32) => wp_X6_write_5 post n z0 z1 z2 z3) post) post (fun v0 v1 v2 v3 v4 H locs ls  hf Z hl => wm_X6_write_55 F E hr hk (fun (z0 : ig_M) (z1 : Int64) (z2 : Int32) (z3 : Int32) => wp_X6_write_5 post n z0 z1 z2 z3) post ih v0 v1 v2 v3 v4 H locs ls  hf Z hl) b lb x1 x2 _ _ _ hf Z (lv_sub hl [0, 1, 2] rfl)
set_option maxHeartbeats 4000000 in
set_option maxRecDepth 100000 in
theorem k_X6_write (l : Launch) {D : va_G} {kk : Nat → ClassId} {ad : Nat → Nat} {bs : Nat} {a : ig_M} {la : Int64} {b : ig_M} {lb lo : Int64} {post : ig_M → Int64 → Prop} (hf : wp_X6_write b lb post) : Met l yX6_write (ig_ws yX6_write cX6_write 4 none) (k2_rm 0 0) (va_Pc [.ref (ad 97)] (ig_Wd D kk ad bs a la b lb lo)) (va_Qv (fun u : ig_M × Int64 => post u.1 u.2) (fun u t => ig_Wd D kk ad bs a la u.1 u.2 lo t) (ig_A bs)) 0 0 (ig_A bs) := by
  refine Met.ofW (cc := cX6_write) (maxL := 4) (ret := none) (by decide) rfl ?_
  intro p e s m args below meth c s₁ B hml hv
  obtain ⟨rfl, E, hP⟩ := hv
  have hk := B.notSynchronized
  have hr := B.returns
  have F : CallFix p m c cX6_write 4 s _ ig_all RX6 := ⟨B.exec, B.bytes, hml, findClass_of_methodNamed B.named, fun w hw => atoms_spec B.pre w (List.mem_cons_of_mem _ hw)⟩
  have Z : ig_Z D kk ad bs s s.heap [] a la b lb lo := ig_Z.rf hP
  have hl := lv_entry ([.ref (ad 97)]) (n := 4) (Nat.le_of_ble_eq_true rfl)
  rw [lg_entry_eq]
  generalize (lg_sl ([.ref (ad 97)]) ++ List.replicate (4 - (lg_sl ([.ref (ad 97)])).length) Slot.unset).toArray = ls at hl ⊢
  have hl : lv_has ls 4 [(0, .ref (ad 97))] := hl
  refine lv_iconst (v := 0) F.1 F.2.1 dX6_write_0 (by decide) ?_
  refine lv_istore_n (lv' := [(1, .int 0), (0, .ref (ad 97))]) F.1 F.2.1 dX6_write_1 rfl hl (by decide) rfl (fun ls hl => ?_)
  refine lv_bipush (v := 7) F.1 F.2.1 dX6_write_2 (by decide) ?_
  refine lv_istore_n (lv' := [(2, .int 7), (1, .int 0), (0, .ref (ad 97))]) F.1 F.2.1 dX6_write_4 rfl hl (by decide) rfl (fun ls hl => ?_)
  obtain ⟨n1, hf⟩ := hf
  exact wm_X6_write_5 F E hr hk post n1 b lb 0 7 _ _ _ hf Z (lv_sub hl [2, 1, 0] rfl)
set_option maxHeartbeats 4000000 in
set_option maxRecDepth 100000 in
theorem wm_X6_move_117 (F : CallFix p m c cX6_move 2 s args ig_all RX6) (E : ig_E D kk ad bs s) (hr : meth.sig.returnType = none) (hk : meth.locks = false) (post : ig_M → Int64 → Prop) :
    ∀ (b : ig_M) (lb : Int64) (t0 : Int32) (t1 : Int32) (t2 : Int32) (H : Heap) (locs : List Loc) (ls : Array Slot), wp_X6_move_117 post b lb t0 t1 t2 → ig_Z D kk ad bs s H locs a la b lb lo → lv_has ls 2 [] → W p l e (k2_rm 1 21) s m args below meth c H locs 0 0 (MQ below (va_Qv (fun u : ig_M × Int64 => post u.1 u.2) (fun u t => ig_Wd D kk ad bs a la u.1 u.2 lo t) (ig_A bs)) args s 0 0 (ig_A bs)) (F0 m 117 ls [.int t0, .int t1, .int t2, .ref (ad 107)]) := by
  intro b lb t0 t1 t2 H locs ls hf Z hl
  refine lv_isub F.1 F.2.1 dX6_move_117 ?_
  have hv26 := hf.1
  have hf := hf.2
  refine ig_iastB (n := 8) F E Z (by decide) (by decide) (fun r => ig_k_107 _ _ _ _ _ r) hv26 dX6_move_118 (fun H locs b27 hb27 Z => ?_)
  have hf := hf b27 hb27
  refine lv_goto (tgt := 180) F.1 F.2.1 dX6_move_119 (by decide) ?_
  exact W.vret F.1 F.2.1 hr (fun t ht hW => ⟨⟨(b27, lb), rfl, hf, Z.wd E ht hW⟩, Z.fr ht⟩) Z.2.2.2 dX6_move_180
set_option maxHeartbeats 4000000 in
set_option maxRecDepth 100000 in
theorem wm_X6_move_92 (F : CallFix p m c cX6_move 2 s args ig_all RX6) (E : ig_E D kk ad bs s) (hr : meth.sig.returnType = none) (hk : meth.locks = false) (post : ig_M → Int64 → Prop) :
    ∀ (b : ig_M) (lb : Int64) (x1 : Int32) (t0 : Int32) (t1 : Int32) (H : Heap) (locs : List Loc) (ls : Array Slot), wp_X6_move_92 post b lb x1 t0 t1 → ig_Z D kk ad bs s H locs a la b lb lo → lv_has ls 2 [(0, .ref (ad 97)), (1, .int x1)] → W p l e (k2_rm 1 21) s m args below meth c H locs 0 0 (MQ below (va_Qv (fun u : ig_M × Int64 => post u.1 u.2) (fun u t => ig_Wd D kk ad bs a la u.1 u.2 lo t) (ig_A bs)) args s 0 0 (ig_A bs)) (F0 m 92 ls [.int t0, .int t1, .ref (ad 97)]) := by
  intro b lb x1 t0 t1 H locs ls hf Z hl
  refine lv_iadd F.1 F.2.1 dX6_move_92 ?_
  refine pf_X6_132 F E Z dX6_move_93 (fun H locs b22 hb22 Z => ?_)
  have hf := hf b22 hb22
  refine lv_aload_n F.1 F.2.1 dX6_move_96 rfl (lv_at hl 0 rfl) ?_
  refine gf_X6_37 F E Z dX6_move_97 ?_
  refine lv_iload_n F.1 F.2.1 dX6_move_100 rfl (lv_at hl 1 rfl) ?_
  refine lv_dup2_11 F.1 F.2.1 dX6_move_101 rfl rfl ?_
  have hv23 := hf.1
  have hf := hf.2
  refine ig_iald (f := b22 107) F E Z (by decide) (by rw [ig_mm_b _ _ (by decide)]; exact (ig_k_107 _ _ _ _ _ _)) hv23 dX6_move_102 ?_
  refine lv_aload_n F.1 F.2.1 dX6_move_103 rfl (lv_at hl 0 rfl) ?_
  refine gf_X6_37 F E Z dX6_move_104 ?_
  refine lv_iload_n F.1 F.2.1 dX6_move_107 rfl (lv_at hl 1 rfl) ?_
  have hv24 := hf.1
  have hf := hf.2
  refine ig_iald (f := b22 107) F E Z (by decide) (by rw [ig_mm_b _ _ (by decide)]; exact (ig_k_107 _ _ _ _ _ _)) hv24 dX6_move_108 ?_
  refine lv_if_le (tgt := 116) F.1 F.2.1 dX6_move_109 (by decide) (fun c_25 => ?_) (fun c_25 => ?_)
  · have hf := hf.1 c_25
    refine lv_iconst (v := 0) F.1 F.2.1 dX6_move_116 (by decide) ?_
    exact wm_X6_move_117 F E hr hk post b22 lb 0 (b22 107 x1.toNatClampNeg) x1 _ _ _ hf Z (lv_sub hl [] rfl)
  · have hf := hf.2 c_25
    refine lv_iconst (v := 1) F.1 F.2.1 dX6_move_112 (by decide) ?_
    refine lv_goto (tgt := 117) F.1 F.2.1 dX6_move_113 (by decide) ?_
    exact wm_X6_move_117 F E hr hk post b22 lb 1 (b22 107 x1.toNatClampNeg) x1 _ _ _ hf Z (lv_sub hl [] rfl)
set_option maxHeartbeats 4000000 in
set_option maxRecDepth 100000 in
theorem wm_X6_move_72 (F : CallFix p m c cX6_move 2 s args ig_all RX6) (E : ig_E D kk ad bs s) (hr : meth.sig.returnType = none) (hk : meth.locks = false) (post : ig_M → Int64 → Prop) :
    ∀ (b : ig_M) (lb : Int64) (x1 : Int32) (t0 : Int32) (t1 : Int32) (H : Heap) (locs : List Loc) (ls : Array Slot), wp_X6_move_72 post b lb x1 t0 t1 → ig_Z D kk ad bs s H locs a la b lb lo → lv_has ls 2 [(0, .ref (ad 97)), (1, .int x1)] → W p l e (k2_rm 1 21) s m args below meth c H locs 0 0 (MQ below (va_Qv (fun u : ig_M × Int64 => post u.1 u.2) (fun u t => ig_Wd D kk ad bs a la u.1 u.2 lo t) (ig_A bs)) args s 0 0 (ig_A bs)) (F0 m 72 ls [.int t0, .int t1, .ref (ad 106)]) := by
  intro b lb x1 t0 t1 H locs ls hf Z hl
  have hv18 := hf.1
  have hf := hf.2
  refine ig_iastB (n := 8) F E Z (by decide) (by decide) (fun r => ig_k_106 _ _ _ _ _ r) hv18 dX6_move_72 (fun H locs b19 hb19 Z => ?_)
  have hf := hf b19 hb19
  refine lv_aload_n F.1 F.2.1 dX6_move_73 rfl (lv_at hl 0 rfl) ?_
  refine lv_dup F.1 F.2.1 dX6_move_74 rfl ?_
  refine gf_X6_132 F E Z dX6_move_75 ?_
  refine lv_aload_n F.1 F.2.1 dX6_move_78 rfl (lv_at hl 0 rfl) ?_
  refine gf_X6_37 F E Z dX6_move_79 ?_
  refine lv_iload_n F.1 F.2.1 dX6_move_82 rfl (lv_at hl 1 rfl) ?_
  have hv20 := hf.1
  have hf := hf.2
  refine ig_iald (f := b19 107) F E Z (by decide) (by rw [ig_mm_b _ _ (by decide)]; exact (ig_k_107 _ _ _ _ _ _)) hv20 dX6_move_83 ?_
  refine lv_if_le (tgt := 91) F.1 F.2.1 dX6_move_84 (by decide) (fun c_21 => ?_) (fun c_21 => ?_)
  · have hf := hf.1 c_21
    refine lv_iconst (v := 0) F.1 F.2.1 dX6_move_91 (by decide) ?_
    exact wm_X6_move_92 F E hr hk post b19 lb x1 0 (b19 97 22) _ _ _ hf Z (lv_sub hl [0, 1] rfl)
  · have hf := hf.2 c_21
    refine lv_iconst (v := 1) F.1 F.2.1 dX6_move_87 (by decide) ?_
    refine lv_goto (tgt := 92) F.1 F.2.1 dX6_move_88 (by decide) ?_
    exact wm_X6_move_92 F E hr hk post b19 lb x1 1 (b19 97 22) _ _ _ hf Z (lv_sub hl [0, 1] rfl)
set_option maxHeartbeats 4000000 in
set_option maxRecDepth 100000 in
theorem wm_X6_move_41 (F : CallFix p m c cX6_move 2 s args ig_all RX6) (E : ig_E D kk ad bs s) (hr : meth.sig.returnType = none) (hk : meth.locks = false) (post : ig_M → Int64 → Prop) :
    ∀ (b : ig_M) (lb : Int64) (x1 : Int32) (t0 : Int32) (t1 : Int32) (t2 : Int32) (H : Heap) (locs : List Loc) (ls : Array Slot), wp_X6_move_41 post b lb x1 t0 t1 t2 → ig_Z D kk ad bs s H locs a la b lb lo → lv_has ls 2 [(0, .ref (ad 97)), (1, .int x1)] → W p l e (k2_rm 1 21) s m args below meth c H locs 0 0 (MQ below (va_Qv (fun u : ig_M × Int64 => post u.1 u.2) (fun u t => ig_Wd D kk ad bs a la u.1 u.2 lo t) (ig_A bs)) args s 0 0 (ig_A bs)) (F0 m 41 ls [.int t0, .int t1, .int t2, .ref (ad 106)]) := by
  intro b lb x1 t0 t1 t2 H locs ls hf Z hl
  refine lv_isub F.1 F.2.1 dX6_move_41 ?_
  have hv12 := hf.1
  have hf := hf.2
  refine ig_iastB (n := 8) F E Z (by decide) (by decide) (fun r => ig_k_106 _ _ _ _ _ r) hv12 dX6_move_42 (fun H locs b13 hb13 Z => ?_)
  have hf := hf b13 hb13
  refine lv_aload_n F.1 F.2.1 dX6_move_43 rfl (lv_at hl 0 rfl) ?_
  refine gf_X6_34 F E Z dX6_move_44 ?_
  refine lv_iload_n F.1 F.2.1 dX6_move_47 rfl (lv_at hl 1 rfl) ?_
  refine lv_aload_n F.1 F.2.1 dX6_move_48 rfl (lv_at hl 0 rfl) ?_
  refine gf_X6_37 F E Z dX6_move_49 ?_
  refine lv_iload_n F.1 F.2.1 dX6_move_52 rfl (lv_at hl 1 rfl) ?_
  have hv14 := hf.1
  have hf := hf.2
  refine ig_iald (f := b13 107) F E Z (by decide) (by rw [ig_mm_b _ _ (by decide)]; exact (ig_k_107 _ _ _ _ _ _)) hv14 dX6_move_53 ?_
  refine lv_if_le (tgt := 66) F.1 F.2.1 dX6_move_54 (by decide) (fun c_15 => ?_) (fun c_15 => ?_)
  · have hf := hf.1 c_15
    refine lv_aload_n F.1 F.2.1 dX6_move_66 rfl (lv_at hl 0 rfl) ?_
    refine gf_X6_34 F E Z dX6_move_67 ?_
    refine lv_iload_n F.1 F.2.1 dX6_move_70 rfl (lv_at hl 1 rfl) ?_
    have hv16 := hf.1
    have hf := hf.2
    refine ig_iald (f := b13 106) F E Z (by decide) (by rw [ig_mm_b _ _ (by decide)]; exact (ig_k_106 _ _ _ _ _ _)) hv16 dX6_move_71 ?_
    exact wm_X6_move_72 F E hr hk post b13 lb x1 (b13 106 x1.toNatClampNeg) x1 _ _ _ hf Z (lv_sub hl [0, 1] rfl)
  · have hf := hf.2 c_15
    refine lv_aload_n F.1 F.2.1 dX6_move_57 rfl (lv_at hl 0 rfl) ?_
    refine gf_X6_16 F E Z dX6_move_58 ?_
    refine lv_iload_n F.1 F.2.1 dX6_move_61 rfl (lv_at hl 1 rfl) ?_
    have hv17 := hf.1
    have hf := hf.2
    refine ig_iald (f := b13 100) F E Z (by decide) (by rw [ig_mm_b _ _ (by decide)]; exact (ig_k_100 _ _ _ _ _ _)) hv17 dX6_move_62 ?_
    refine lv_goto (tgt := 72) F.1 F.2.1 dX6_move_63 (by decide) ?_
    exact wm_X6_move_72 F E hr hk post b13 lb x1 (b13 100 x1.toNatClampNeg) x1 _ _ _ hf Z (lv_sub hl [0, 1] rfl)
set_option maxHeartbeats 4000000 in
set_option maxRecDepth 100000 in
theorem wm_X6_move_179 (F : CallFix p m c cX6_move 2 s args ig_all RX6) (E : ig_E D kk ad bs s) (hr : meth.sig.returnType = none) (hk : meth.locks = false) (post : ig_M → Int64 → Prop) :
    ∀ (b : ig_M) (lb : Int64) (t0 : Int32) (t1 : Int32) (H : Heap) (locs : List Loc) (ls : Array Slot), wp_X6_move_179 post b lb t0 t1 → ig_Z D kk ad bs s H locs a la b lb lo → lv_has ls 2 [] → W p l e (k2_rm 1 21) s m args below meth c H locs 0 0 (MQ below (va_Qv (fun u : ig_M × Int64 => post u.1 u.2) (fun u t => ig_Wd D kk ad bs a la u.1 u.2 lo t) (ig_A bs)) args s 0 0 (ig_A bs)) (F0 m 179 ls [.int t0, .int t1, .ref (ad 109)]) := by
  intro b lb t0 t1 H locs ls hf Z hl
  have hv35 := hf.1
  have hf := hf.2
  refine ig_iastB (n := 8) F E Z (by decide) (by decide) (fun r => ig_k_109 _ _ _ _ _ r) hv35 dX6_move_179 (fun H locs b36 hb36 Z => ?_)
  have hf := hf b36 hb36
  exact W.vret F.1 F.2.1 hr (fun t ht hW => ⟨⟨(b36, lb), rfl, hf, Z.wd E ht hW⟩, Z.fr ht⟩) Z.2.2.2 dX6_move_180
set_option maxHeartbeats 4000000 in
set_option maxRecDepth 100000 in
theorem wm_X6_move_142 (F : CallFix p m c cX6_move 2 s args ig_all RX6) (E : ig_E D kk ad bs s) (hr : meth.sig.returnType = none) (hk : meth.locks = false) (post : ig_M → Int64 → Prop) :
    ∀ (b : ig_M) (lb : Int64) (x1 : Int32) (t0 : Int32) (t1 : Int32) (t2 : Int32) (H : Heap) (locs : List Loc) (ls : Array Slot), wp_X6_move_142 post b lb x1 t0 t1 t2 → ig_Z D kk ad bs s H locs a la b lb lo → lv_has ls 2 [(0, .ref (ad 97)), (1, .int x1)] → W p l e (k2_rm 1 21) s m args below meth c H locs 0 0 (MQ below (va_Qv (fun u : ig_M × Int64 => post u.1 u.2) (fun u t => ig_Wd D kk ad bs a la u.1 u.2 lo t) (ig_A bs)) args s 0 0 (ig_A bs)) (F0 m 142 ls [.int t0, .int t1, .int t2, .ref (ad 108)]) := by
  intro b lb x1 t0 t1 t2 H locs ls hf Z hl
  refine lv_iadd F.1 F.2.1 dX6_move_142 ?_
  have hv28 := hf.1
  have hf := hf.2
  refine ig_iastB (n := 8) F E Z (by decide) (by decide) (fun r => ig_k_108 _ _ _ _ _ r) hv28 dX6_move_143 (fun H locs b29 hb29 Z => ?_)
  have hf := hf b29 hb29
  refine lv_aload_n F.1 F.2.1 dX6_move_144 rfl (lv_at hl 0 rfl) ?_
  refine gf_X6_43 F E Z dX6_move_145 ?_
  refine lv_iload_n F.1 F.2.1 dX6_move_148 rfl (lv_at hl 1 rfl) ?_
  refine lv_aload_n F.1 F.2.1 dX6_move_149 rfl (lv_at hl 0 rfl) ?_
  refine gf_X6_40 F E Z dX6_move_150 ?_
  refine lv_iload_n F.1 F.2.1 dX6_move_153 rfl (lv_at hl 1 rfl) ?_
  have hv30 := hf.1
  have hf := hf.2
  refine ig_iald (f := b29 108) F E Z (by decide) (by rw [ig_mm_b _ _ (by decide)]; exact (ig_k_108 _ _ _ _ _ _)) hv30 dX6_move_154 ?_
  refine lv_aload_n F.1 F.2.1 dX6_move_155 rfl (lv_at hl 0 rfl) ?_
  refine gf_X6_43 F E Z dX6_move_156 ?_
  refine lv_iload_n F.1 F.2.1 dX6_move_159 rfl (lv_at hl 1 rfl) ?_
  have hv31 := hf.1
  have hf := hf.2
  refine ig_iald (f := b29 109) F E Z (by decide) (by rw [ig_mm_b _ _ (by decide)]; exact (ig_k_109 _ _ _ _ _ _)) hv31 dX6_move_160 ?_
  refine lv_icmp_le (tgt := 173) F.1 F.2.1 dX6_move_161 (by decide) (fun c_32 => ?_) (fun c_32 => ?_)
  · have hf := hf.1 c_32
    refine lv_aload_n F.1 F.2.1 dX6_move_173 rfl (lv_at hl 0 rfl) ?_
    refine gf_X6_43 F E Z dX6_move_174 ?_
    refine lv_iload_n F.1 F.2.1 dX6_move_177 rfl (lv_at hl 1 rfl) ?_
    have hv33 := hf.1
    have hf := hf.2
    refine ig_iald (f := b29 109) F E Z (by decide) (by rw [ig_mm_b _ _ (by decide)]; exact (ig_k_109 _ _ _ _ _ _)) hv33 dX6_move_178 ?_
    exact wm_X6_move_179 F E hr hk post b29 lb (b29 109 x1.toNatClampNeg) x1 _ _ _ hf Z (lv_sub hl [] rfl)
  · have hf := hf.2 c_32
    refine lv_aload_n F.1 F.2.1 dX6_move_164 rfl (lv_at hl 0 rfl) ?_
    refine gf_X6_40 F E Z dX6_move_165 ?_
    refine lv_iload_n F.1 F.2.1 dX6_move_168 rfl (lv_at hl 1 rfl) ?_
    have hv34 := hf.1
    have hf := hf.2
    refine ig_iald (f := b29 108) F E Z (by decide) (by rw [ig_mm_b _ _ (by decide)]; exact (ig_k_108 _ _ _ _ _ _)) hv34 dX6_move_169 ?_
    refine lv_goto (tgt := 179) F.1 F.2.1 dX6_move_170 (by decide) ?_
    exact wm_X6_move_179 F E hr hk post b29 lb (b29 108 x1.toNatClampNeg) x1 _ _ _ hf Z (lv_sub hl [] rfl)
set_option maxHeartbeats 4000000 in
set_option maxRecDepth 100000 in
theorem k_X6_move (l : Launch) {D : va_G} {kk : Nat → ClassId} {ad : Nat → Nat} {bs : Nat} {a : ig_M} {la : Int64} {b : ig_M} {lb lo : Int64} (x1 : Int32) {post : ig_M → Int64 → Prop} (hf : wp_X6_move b lb x1 post) : Met l yX6_move (ig_ws yX6_move cX6_move 2 none) (k2_rm 1 21) (va_Pc [.ref (ad 97), .int x1] (ig_Wd D kk ad bs a la b lb lo)) (va_Qv (fun u : ig_M × Int64 => post u.1 u.2) (fun u t => ig_Wd D kk ad bs a la u.1 u.2 lo t) (ig_A bs)) 0 0 (ig_A bs) := by
  refine Met.ofW (cc := cX6_move) (maxL := 2) (ret := none) (by decide) rfl ?_
  intro p e s m args below meth c s₁ B hml hv
  obtain ⟨rfl, E, hP⟩ := hv
  have hk := B.notSynchronized
  have hr := B.returns
  have F : CallFix p m c cX6_move 2 s _ ig_all RX6 := ⟨B.exec, B.bytes, hml, findClass_of_methodNamed B.named, fun w hw => atoms_spec B.pre w (List.mem_cons_of_mem _ hw)⟩
  have Z : ig_Z D kk ad bs s s.heap [] a la b lb lo := ig_Z.rf hP
  have hl := lv_entry ([.ref (ad 97), .int x1]) (n := 2) (Nat.le_of_ble_eq_true rfl)
  rw [lg_entry_eq]
  generalize (lg_sl ([.ref (ad 97), .int x1]) ++ List.replicate (2 - (lg_sl ([.ref (ad 97), .int x1])).length) Slot.unset).toArray = ls at hl ⊢
  have hl : lv_has ls 2 [(0, .ref (ad 97)), (1, .int x1)] := hl
  refine lv_aload_n F.1 F.2.1 dX6_move_0 rfl (lv_at hl 0 rfl) ?_
  refine gf_X6_25 F E Z dX6_move_1 ?_
  refine lv_iload_n F.1 F.2.1 dX6_move_4 rfl (lv_at hl 1 rfl) ?_
  have hv1 := hf.1
  have hf := hf.2
  refine ig_iald (f := b 103) F E Z (by decide) (by rw [ig_mm_b _ _ (by decide)]; exact (ig_k_103 _ _ _ _ _ _)) hv1 dX6_move_5 ?_
  refine lv_iconst (v := 1) F.1 F.2.1 dX6_move_6 (by decide) ?_
  refine lv_icmp_ne (tgt := 122) F.1 F.2.1 dX6_move_7 (by decide) (fun c_2 => ?_) (fun c_2 => ?_)
  · have hf := hf.1 c_2
    refine lv_aload_n F.1 F.2.1 dX6_move_122 rfl (lv_at hl 0 rfl) ?_
    refine gf_X6_40 F E Z dX6_move_123 ?_
    refine lv_iload_n F.1 F.2.1 dX6_move_126 rfl (lv_at hl 1 rfl) ?_
    refine lv_dup2_11 F.1 F.2.1 dX6_move_127 rfl rfl ?_
    have hv3 := hf.1
    have hf := hf.2
    refine ig_iald (f := b 108) F E Z (by decide) (by rw [ig_mm_b _ _ (by decide)]; exact (ig_k_108 _ _ _ _ _ _)) hv3 dX6_move_128 ?_
    refine lv_aload_n F.1 F.2.1 dX6_move_129 rfl (lv_at hl 0 rfl) ?_
    refine lv_iload_n F.1 F.2.1 dX6_move_130 rfl (lv_at hl 1 rfl) ?_
    have hM := k_X6_isDemanded l (D := D) (kk := kk) (ad := ad) (bs := bs) (a := a) (la := la) (b := b) (lb := lb) (lo := lo) x1 hf
    refine ig_calli E Z (ig_runV (As := [.int x1]) (rest := [.int (b 108 x1.toNatClampNeg), .int x1, .ref (ad 108)]) F E Z hl G_X6_116 hM (i := 97) (by decide) (ig_k_97 _ _ _ _ _ _) rfl rfl md_X6_isDemanded rfl ⟨rfl, rfl⟩ ⟨Nat.le_of_ble_eq_true rfl, Nat.le_of_ble_eq_true rfl⟩ (Nat.le_of_ble_eq_true rfl) dX6_move_131 ⟨Nat.le_of_ble_eq_true rfl, Nat.le_of_ble_eq_true rfl⟩) (fun r4 u H locs hf Z => ?_)
    refine lv_if_eq (tgt := 141) F.1 F.2.1 dX6_move_134 (by decide) (fun c_5 => ?_) (fun c_5 => ?_)
    · have hf := hf.1 c_5
      refine lv_iconst (v := 0) F.1 F.2.1 dX6_move_141 (by decide) ?_
      exact wm_X6_move_142 F E hr hk post b lb x1 0 (b 108 x1.toNatClampNeg) x1 _ _ _ hf Z (lv_sub hl [0, 1] rfl)
    · have hf := hf.2 c_5
      refine lv_iconst (v := 1) F.1 F.2.1 dX6_move_137 (by decide) ?_
      refine lv_goto (tgt := 142) F.1 F.2.1 dX6_move_138 (by decide) ?_
      exact wm_X6_move_142 F E hr hk post b lb x1 1 (b 108 x1.toNatClampNeg) x1 _ _ _ hf Z (lv_sub hl [0, 1] rfl)
  · have hf := hf.2 c_2
    refine lv_aload_n F.1 F.2.1 dX6_move_10 rfl (lv_at hl 0 rfl) ?_
    refine gf_X6_31 F E Z dX6_move_11 ?_
    refine lv_iload_n F.1 F.2.1 dX6_move_14 rfl (lv_at hl 1 rfl) ?_
    refine lv_dup2_11 F.1 F.2.1 dX6_move_15 rfl rfl ?_
    have hv6 := hf.1
    have hf := hf.2
    refine ig_iald (f := b 105) F E Z (by decide) (by rw [ig_mm_b _ _ (by decide)]; exact (ig_k_105 _ _ _ _ _ _)) hv6 dX6_move_16 ?_
    refine lv_iconst (v := 1) F.1 F.2.1 dX6_move_17 (by decide) ?_
    refine lv_iadd F.1 F.2.1 dX6_move_18 ?_
    have hv7 := hf.1
    have hf := hf.2
    refine ig_iastB (n := 8) F E Z (by decide) (by decide) (fun r => ig_k_105 _ _ _ _ _ r) hv7 dX6_move_19 (fun H locs b8 hb8 Z => ?_)
    have hf := hf b8 hb8
    refine lv_aload_n F.1 F.2.1 dX6_move_20 rfl (lv_at hl 0 rfl) ?_
    refine gf_X6_34 F E Z dX6_move_21 ?_
    refine lv_iload_n F.1 F.2.1 dX6_move_24 rfl (lv_at hl 1 rfl) ?_
    refine lv_dup2_11 F.1 F.2.1 dX6_move_25 rfl rfl ?_
    have hv9 := hf.1
    have hf := hf.2
    refine ig_iald (f := b8 106) F E Z (by decide) (by rw [ig_mm_b _ _ (by decide)]; exact (ig_k_106 _ _ _ _ _ _)) hv9 dX6_move_26 ?_
    refine lv_aload_n F.1 F.2.1 dX6_move_27 rfl (lv_at hl 0 rfl) ?_
    refine gf_X6_34 F E Z dX6_move_28 ?_
    refine lv_iload_n F.1 F.2.1 dX6_move_31 rfl (lv_at hl 1 rfl) ?_
    have hv10 := hf.1
    have hf := hf.2
    refine ig_iald (f := b8 106) F E Z (by decide) (by rw [ig_mm_b _ _ (by decide)]; exact (ig_k_106 _ _ _ _ _ _)) hv10 dX6_move_32 ?_
    refine lv_if_le (tgt := 40) F.1 F.2.1 dX6_move_33 (by decide) (fun c_11 => ?_) (fun c_11 => ?_)
    · have hf := hf.1 c_11
      refine lv_iconst (v := 0) F.1 F.2.1 dX6_move_40 (by decide) ?_
      exact wm_X6_move_41 F E hr hk post b8 lb x1 0 (b8 106 x1.toNatClampNeg) x1 _ _ _ hf Z (lv_sub hl [0, 1] rfl)
    · have hf := hf.2 c_11
      refine lv_iconst (v := 1) F.1 F.2.1 dX6_move_36 (by decide) ?_
      refine lv_goto (tgt := 41) F.1 F.2.1 dX6_move_37 (by decide) ?_
      exact wm_X6_move_41 F E hr hk post b8 lb x1 1 (b8 106 x1.toNatClampNeg) x1 _ _ _ hf Z (lv_sub hl [0, 1] rfl)
set_option maxHeartbeats 4000000 in
set_option maxRecDepth 100000 in
theorem wm_X6_goOne_97 (F : CallFix p m c cX6_goOne 2 s args ig_all RX6) (E : ig_E D kk ad bs s) (hr : meth.sig.returnType = none) (hk : meth.locks = false) (k_109 : ig_M → Int64 → Prop) (post : ig_M → Int64 → Prop) (h_109 : ∀ (b : ig_M) (lb : Int64) (H : Heap) (locs : List Loc) (ls : Array Slot), k_109 b lb → ig_Z D kk ad bs s H locs a la b lb lo → lv_has ls 2 [(0, .ref (ad 97))] → W p l e (k2_rm 4 92) s m args below meth c H locs 0 0 (MQ below (va_Qv (fun u : ig_M × Int64 => post u.1 u.2) (fun u t => ig_Wd D kk ad bs a la u.1 u.2 lo t) (ig_A bs)) args s 0 0 (ig_A bs)) (F0 m 109 ls [])) :
    ∀ (b : ig_M) (lb : Int64) (H : Heap) (locs : List Loc) (ls : Array Slot), wp_X6_goOne_97 k_109 post b lb → ig_Z D kk ad bs s H locs a la b lb lo → lv_has ls 2 [(0, .ref (ad 97))] → W p l e (k2_rm 4 92) s m args below meth c H locs 0 0 (MQ below (va_Qv (fun u : ig_M × Int64 => post u.1 u.2) (fun u t => ig_Wd D kk ad bs a la u.1 u.2 lo t) (ig_A bs)) args s 0 0 (ig_A bs)) (F0 m 97 ls []) := by
  intro b lb H locs ls hf Z hl
  refine lv_aload_n F.1 F.2.1 dX6_goOne_97 rfl (lv_at hl 0 rfl) ?_
  have hM := k_X6_isDangerous l (D := D) (kk := kk) (ad := ad) (bs := bs) (a := a) (la := la) (b := b) (lb := lb) (lo := lo) hf
  refine ig_calli E Z (ig_runV (As := []) (rest := []) F E Z hl G_X6_141 hM (i := 97) (by decide) (ig_k_97 _ _ _ _ _ _) rfl rfl md_X6_isDangerous rfl ⟨rfl, rfl⟩ ⟨Nat.le_of_ble_eq_true rfl, Nat.le_of_ble_eq_true rfl⟩ (Nat.le_of_ble_eq_true rfl) dX6_goOne_98 ⟨Nat.le_of_ble_eq_true rfl, Nat.le_of_ble_eq_true rfl⟩) (fun r17 u H locs hf Z => ?_)
  refine lv_if_eq (tgt := 109) F.1 F.2.1 dX6_goOne_101 (by decide) (fun c_18 => ?_) (fun c_18 => ?_)
  · have hf := hf.1 c_18
    exact h_109 b lb _ _ _ hf Z (lv_sub hl [0] rfl)
  · have hf := hf.2 c_18
    refine lv_aload_n F.1 F.2.1 dX6_goOne_104 rfl (lv_at hl 0 rfl) ?_
    refine lv_iconst (v := 3) F.1 F.2.1 dX6_goOne_105 (by decide) ?_
    have hM := k_X6_darken l (D := D) (kk := kk) (ad := ad) (bs := bs) (a := a) (la := la) (b := b) (lb := lb) (lo := lo) 3 hf
    refine ig_callv E Z (ig_runV (As := [.int 3]) (rest := []) F E Z hl G_X6_112 hM (i := 97) (by decide) (ig_k_97 _ _ _ _ _ _) rfl rfl md_X6_darken rfl ⟨rfl, rfl⟩ ⟨Nat.le_of_ble_eq_true rfl, Nat.le_of_ble_eq_true rfl⟩ (Nat.le_of_ble_eq_true rfl) dX6_goOne_106 ⟨Nat.le_of_ble_eq_true rfl, Nat.le_of_ble_eq_true rfl⟩) (fun u H locs hf Z => ?_)
    obtain ⟨b19, lb20⟩ := u
    have Z : ig_Z D kk ad bs s H locs a la b19 lb20 lo := Z
    exact h_109 b19 lb20 _ _ _ hf Z (lv_sub hl [0] rfl)
set_option maxHeartbeats 4000000 in
set_option maxRecDepth 100000 in
theorem wm_X6_goOne_68 (F : CallFix p m c cX6_goOne 2 s args ig_all RX6) (E : ig_E D kk ad bs s) (hr : meth.sig.returnType = none) (hk : meth.locks = false) (k_74 : ig_M → Int64 → Int32 → Int32 → Int32 → Prop) (post : ig_M → Int64 → Prop) (h_74 : ∀ (b : ig_M) (lb : Int64) (x1 : Int32) (t0 : Int32) (t1 : Int32) (H : Heap) (locs : List Loc) (ls : Array Slot), k_74 b lb x1 t0 t1 → ig_Z D kk ad bs s H locs a la b lb lo → lv_has ls 2 [(0, .ref (ad 97)), (1, .int x1)] → W p l e (k2_rm 4 92) s m args below meth c H locs 0 0 (MQ below (va_Qv (fun u : ig_M × Int64 => post u.1 u.2) (fun u t => ig_Wd D kk ad bs a la u.1 u.2 lo t) (ig_A bs)) args s 0 0 (ig_A bs)) (F0 m 74 ls [.int t0, .int t1, .ref (ad 103)])) :
    ∀ (b : ig_M) (lb : Int64) (x1 : Int32) (t0 : Int32) (H : Heap) (locs : List Loc) (ls : Array Slot), wp_X6_goOne_68 k_74 post b lb x1 t0 → ig_Z D kk ad bs s H locs a la b lb lo → lv_has ls 2 [(0, .ref (ad 97)), (1, .int x1)] → W p l e (k2_rm 4 92) s m args below meth c H locs 0 0 (MQ below (va_Qv (fun u : ig_M × Int64 => post u.1 u.2) (fun u t => ig_Wd D kk ad bs a la u.1 u.2 lo t) (ig_A bs)) args s 0 0 (ig_A bs)) (F0 m 68 ls [.int t0, .ref (ad 103)]) := by
  intro b lb x1 t0 H locs ls hf Z hl
  refine lv_aload_n F.1 F.2.1 dX6_goOne_68 rfl (lv_at hl 0 rfl) ?_
  refine gf_X6_25 F E Z dX6_goOne_69 ?_
  refine lv_iload_n F.1 F.2.1 dX6_goOne_72 rfl (lv_at hl 1 rfl) ?_
  have hv14 := hf.1
  have hf := hf.2
  refine ig_iald (f := b 103) F E Z (by decide) (by rw [ig_mm_b _ _ (by decide)]; exact (ig_k_103 _ _ _ _ _ _)) hv14 dX6_goOne_73 ?_
  exact h_74 b lb x1 (b 103 x1.toNatClampNeg) t0 _ _ _ hf Z (lv_sub hl [0, 1] rfl)
set_option maxHeartbeats 4000000 in
set_option maxRecDepth 100000 in
theorem wm_X6_goOne_74 (F : CallFix p m c cX6_goOne 2 s args ig_all RX6) (E : ig_E D kk ad bs s) (hr : meth.sig.returnType = none) (hk : meth.locks = false) (k_26 : ig_M → Int64 → Int32 → Prop) (post : ig_M → Int64 → Prop) (h_26 : ∀ (b : ig_M) (lb : Int64) (x1 : Int32) (H : Heap) (locs : List Loc) (ls : Array Slot), k_26 b lb x1 → ig_Z D kk ad bs s H locs a la b lb lo → lv_has ls 2 [(0, .ref (ad 97)), (1, .int x1)] → W p l e (k2_rm 4 92) s m args below meth c H locs 0 0 (MQ below (va_Qv (fun u : ig_M × Int64 => post u.1 u.2) (fun u t => ig_Wd D kk ad bs a la u.1 u.2 lo t) (ig_A bs)) args s 0 0 (ig_A bs)) (F0 m 26 ls [])) :
    ∀ (b : ig_M) (lb : Int64) (x1 : Int32) (t0 : Int32) (t1 : Int32) (H : Heap) (locs : List Loc) (ls : Array Slot), wp_X6_goOne_74 k_26 post b lb x1 t0 t1 → ig_Z D kk ad bs s H locs a la b lb lo → lv_has ls 2 [(0, .ref (ad 97)), (1, .int x1)] → W p l e (k2_rm 4 92) s m args below meth c H locs 0 0 (MQ below (va_Qv (fun u : ig_M × Int64 => post u.1 u.2) (fun u t => ig_Wd D kk ad bs a la u.1 u.2 lo t) (ig_A bs)) args s 0 0 (ig_A bs)) (F0 m 74 ls [.int t0, .int t1, .ref (ad 103)]) := by
  intro b lb x1 t0 t1 H locs ls hf Z hl
  have hv15 := hf.1
  have hf := hf.2
  refine ig_iastB (n := 8) F E Z (by decide) (by decide) (fun r => ig_k_103 _ _ _ _ _ r) hv15 dX6_goOne_74 (fun H locs b16 hb16 Z => ?_)
  have hf := hf b16 hb16
  refine lv_iinc (v := x1 + 1) (lv' := [(1, .int (x1 + 1)), (0, .ref (ad 97))]) F.1 F.2.1 dX6_goOne_75 hl (k := 1) rfl (by rfl) (by decide) rfl (fun ls hl => ?_)
  refine lv_goto (tgt := 26) F.1 F.2.1 dX6_goOne_78 (by decide) ?_
  exact h_26 b16 lb (x1 + 1) _ _ _ hf Z (lv_sub hl [1, 0] rfl)
set_option maxHeartbeats 4000000 in
set_option maxRecDepth 100000 in
theorem wm_X6_goOne_115 (F : CallFix p m c cX6_goOne 2 s args ig_all RX6) (E : ig_E D kk ad bs s) (hr : meth.sig.returnType = none) (hk : meth.locks = false) (post : ig_M → Int64 → Prop) :
    ∀ (n : Nat) (b : ig_M) (lb : Int64) (x1 : Int32) (H : Heap) (locs : List Loc) (ls : Array Slot), wp_X6_goOne_115 post n b lb x1 → ig_Z D kk ad bs s H locs a la b lb lo → lv_has ls 2 [(0, .ref (ad 97)), (1, .int x1)] → W p l e (k2_rm 4 92) s m args below meth c H locs 0 0 (MQ below (va_Qv (fun u : ig_M × Int64 => post u.1 u.2) (fun u t => ig_Wd D kk ad bs a la u.1 u.2 lo t) (ig_A bs)) args s 0 0 (ig_A bs)) (F0 m 115 ls []) := by
  intro n
  induction n with
  | zero => intro b lb x1 H locs ls hf Z hl; exact False.elim hf
  | succ n ih =>
    intro b lb x1 H locs ls hf Z hl
    refine lv_iload_n F.1 F.2.1 dX6_goOne_115 rfl (lv_at hl 1 rfl) ?_
    refine lv_aload_n F.1 F.2.1 dX6_goOne_116 rfl (lv_at hl 0 rfl) ?_
    refine gf_X6_69 F E Z dX6_goOne_117 ?_
    refine lv_icmp_ge (tgt := 150) F.1 F.2.1 dX6_goOne_120 (by decide) (fun c_23 => ?_) (fun c_23 => ?_)
    · have hf := hf.1 c_23
      refine lv_aload_n F.1 F.2.1 dX6_goOne_150 rfl (lv_at hl 0 rfl) ?_
      refine lv_dup F.1 F.2.1 dX6_goOne_151 rfl ?_
      refine gf_X6_109 F E Z dX6_goOne_152 ?_
      refine lv_iconst (v := 1) F.1 F.2.1 dX6_goOne_155 (by decide) ?_
      refine lv_iadd F.1 F.2.1 dX6_goOne_156 ?_
      refine pf_X6_109 F E Z dX6_goOne_157 (fun H locs b24 hb24 Z => ?_)
      have hf := hf b24 hb24
      exact W.vret F.1 F.2.1 hr (fun t ht hW => ⟨⟨(b24, lb), rfl, hf, Z.wd E ht hW⟩, Z.fr ht⟩) Z.2.2.2 dX6_goOne_160
    · have hf := hf.2 c_23
      refine lv_aload_n F.1 F.2.1 dX6_goOne_123 rfl (lv_at hl 0 rfl) ?_
      refine lv_iload_n F.1 F.2.1 dX6_goOne_124 rfl (lv_at hl 1 rfl) ?_
      have hM := k_X6_move l (D := D) (kk := kk) (ad := ad) (bs := bs) (a := a) (la := la) (b := b) (lb := lb) (lo := lo) x1 hf
      refine ig_callv E Z (ig_runV (As := [.int x1]) (rest := []) F E Z hl G_X6_148 hM (i := 97) (by decide) (ig_k_97 _ _ _ _ _ _) rfl rfl md_X6_move rfl ⟨rfl, rfl⟩ ⟨Nat.le_of_ble_eq_true rfl, Nat.le_of_ble_eq_true rfl⟩ (Nat.le_of_ble_eq_true rfl) dX6_goOne_125 ⟨Nat.le_of_ble_eq_true rfl, Nat.le_of_ble_eq_true rfl⟩) (fun u H locs hf Z => ?_)
      obtain ⟨b25, lb26⟩ := u
      have Z : ig_Z D kk ad bs s H locs a la b25 lb26 lo := Z
      refine lv_aload_n F.1 F.2.1 dX6_goOne_128 rfl (lv_at hl 0 rfl) ?_
      refine lv_dup F.1 F.2.1 dX6_goOne_129 rfl ?_
      refine gf_X6_151 F E Z dX6_goOne_130 ?_
      refine lv_aload_n F.1 F.2.1 dX6_goOne_133 rfl (lv_at hl 0 rfl) ?_
      refine gf_X6_37 F E Z dX6_goOne_134 ?_
      refine lv_iload_n F.1 F.2.1 dX6_goOne_137 rfl (lv_at hl 1 rfl) ?_
      have hv27 := hf.1
      have hf := hf.2
      refine ig_iald (f := b25 107) F E Z (by decide) (by rw [ig_mm_b _ _ (by decide)]; exact (ig_k_107 _ _ _ _ _ _)) hv27 dX6_goOne_138 ?_
      refine lv_i2l F.1 F.2.1 dX6_goOne_139 rfl ?_
      refine lv_ladd F.1 F.2.1 dX6_goOne_140 ?_
      refine pf_X6_151 F E Z dX6_goOne_141 (fun H locs Z => ?_)
      refine lv_iinc (v := x1 + 1) (lv' := [(1, .int (x1 + 1)), (0, .ref (ad 97))]) F.1 F.2.1 dX6_goOne_144 hl (k := 1) rfl (by rfl) (by decide) rfl (fun ls hl => ?_)
      refine lv_goto (tgt := 115) F.1 F.2.1 dX6_goOne_147 (by decide) ?_
      exact ih b25 (lb26 + ((b25 107 x1.toNatClampNeg).toInt64)) (x1 + 1) _ _ _ hf Z (lv_sub hl [1, 0] rfl)
set_option maxHeartbeats 4000000 in
set_option maxRecDepth 100000 in
theorem wm_X6_goOne_109 (F : CallFix p m c cX6_goOne 2 s args ig_all RX6) (E : ig_E D kk ad bs s) (hr : meth.sig.returnType = none) (hk : meth.locks = false) (post : ig_M → Int64 → Prop) :
    ∀ (b : ig_M) (lb : Int64) (H : Heap) (locs : List Loc) (ls : Array Slot), wp_X6_goOne_109 post b lb → ig_Z D kk ad bs s H locs a la b lb lo → lv_has ls 2 [(0, .ref (ad 97))] → W p l e (k2_rm 4 92) s m args below meth c H locs 0 0 (MQ below (va_Qv (fun u : ig_M × Int64 => post u.1 u.2) (fun u t => ig_Wd D kk ad bs a la u.1 u.2 lo t) (ig_A bs)) args s 0 0 (ig_A bs)) (F0 m 109 ls []) := by
  intro b lb H locs ls hf Z hl
  refine lv_aload_n F.1 F.2.1 dX6_goOne_109 rfl (lv_at hl 0 rfl) ?_
  have hM := k_X6_write l (D := D) (kk := kk) (ad := ad) (bs := bs) (a := a) (la := la) (b := b) (lb := lb) (lo := lo) hf
  refine ig_callv E Z (ig_runV (As := []) (rest := []) F E Z hl G_X6_145 hM (i := 97) (by decide) (ig_k_97 _ _ _ _ _ _) rfl rfl md_X6_write rfl ⟨rfl, rfl⟩ ⟨Nat.le_of_ble_eq_true rfl, Nat.le_of_ble_eq_true rfl⟩ (Nat.le_of_ble_eq_true rfl) dX6_goOne_110 ⟨Nat.le_of_ble_eq_true rfl, Nat.le_of_ble_eq_true rfl⟩) (fun u H locs hf Z => ?_)
  obtain ⟨b21, lb22⟩ := u
  have Z : ig_Z D kk ad bs s H locs a la b21 lb22 lo := Z
  refine lv_iconst (v := 0) F.1 F.2.1 dX6_goOne_113 (by decide) ?_
  refine lv_istore_n (lv' := [(1, .int 0), (0, .ref (ad 97))]) F.1 F.2.1 dX6_goOne_114 rfl hl (by decide) rfl (fun ls hl => ?_)
  obtain ⟨n1, hf⟩ := hf
  exact wm_X6_goOne_115 F E hr hk post n1 b21 lb22 0 _ _ _ hf Z (lv_sub hl [1, 0] rfl)
set_option maxHeartbeats 4000000 in
set_option maxRecDepth 100000 in
theorem wm_X6_goOne_26 (F : CallFix p m c cX6_goOne 2 s args ig_all RX6) (E : ig_E D kk ad bs s) (hr : meth.sig.returnType = none) (hk : meth.locks = false) (post : ig_M → Int64 → Prop) :
    ∀ (n : Nat) (b : ig_M) (lb : Int64) (x1 : Int32) (H : Heap) (locs : List Loc) (ls : Array Slot), wp_X6_goOne_26 post n b lb x1 → ig_Z D kk ad bs s H locs a la b lb lo → lv_has ls 2 [(0, .ref (ad 97)), (1, .int x1)] → W p l e (k2_rm 4 92) s m args below meth c H locs 0 0 (MQ below (va_Qv (fun u : ig_M × Int64 => post u.1 u.2) (fun u t => ig_Wd D kk ad bs a la u.1 u.2 lo t) (ig_A bs)) args s 0 0 (ig_A bs)) (F0 m 26 ls []) := by
  intro n
  induction n with
  | zero => intro b lb x1 H locs ls hf Z hl; exact False.elim hf
  | succ n ih =>
    intro b lb x1 H locs ls hf Z hl
    refine lv_iload_n F.1 F.2.1 dX6_goOne_26 rfl (lv_at hl 1 rfl) ?_
    refine lv_aload_n F.1 F.2.1 dX6_goOne_27 rfl (lv_at hl 0 rfl) ?_
    refine gf_X6_69 F E Z dX6_goOne_28 ?_
    refine lv_icmp_ge (tgt := 81) F.1 F.2.1 dX6_goOne_31 (by decide) (fun c_7 => ?_) (fun c_7 => ?_)
    · have hf := hf.1 c_7
      refine lv_aload_n F.1 F.2.1 dX6_goOne_81 rfl (lv_at hl 0 rfl) ?_
      refine gf_X6_103 F E Z dX6_goOne_82 ?_
      refine lv_iconst (v := 2) F.1 F.2.1 dX6_goOne_85 (by decide) ?_
      refine lv_icmp_eq (tgt := 97) F.1 F.2.1 dX6_goOne_86 (by decide) (fun c_8 => ?_) (fun c_8 => ?_)
      · have hf := hf.1 c_8
        exact wm_X6_goOne_97 F E hr hk (wp_X6_goOne_109 post) post (fun v0 v1 H locs ls  hf Z hl => wm_X6_goOne_109 F E hr hk post v0 v1 H locs ls  hf Z hl) b lb _ _ _ hf Z (lv_sub hl [0] rfl)
      · have hf := hf.2 c_8
        refine lv_aload_n F.1 F.2.1 dX6_goOne_89 rfl (lv_at hl 0 rfl) ?_
        refine gf_X6_103 F E Z dX6_goOne_90 ?_
        refine lv_iconst (v := 1) F.1 F.2.1 dX6_goOne_93 (by decide) ?_
        refine lv_icmp_ne (tgt := 109) F.1 F.2.1 dX6_goOne_94 (by decide) (fun c_9 => ?_) (fun c_9 => ?_)
        · have hf := hf.1 c_9
          exact wm_X6_goOne_109 F E hr hk post b lb _ _ _ hf Z (lv_sub hl [0] rfl)
        · have hf := hf.2 c_9
          exact wm_X6_goOne_97 F E hr hk (wp_X6_goOne_109 post) post (fun v0 v1 H locs ls  hf Z hl => wm_X6_goOne_109 F E hr hk post v0 v1 H locs ls  hf Z hl) b lb _ _ _ hf Z (lv_sub hl [0] rfl)
    · have hf := hf.2 c_7
      refine lv_aload_n F.1 F.2.1 dX6_goOne_34 rfl (lv_at hl 0 rfl) ?_
      refine gf_X6_25 F E Z dX6_goOne_35 ?_
      refine lv_iload_n F.1 F.2.1 dX6_goOne_38 rfl (lv_at hl 1 rfl) ?_
      refine lv_aload_n F.1 F.2.1 dX6_goOne_39 rfl (lv_at hl 0 rfl) ?_
      refine gf_X6_25 F E Z dX6_goOne_40 ?_
      refine lv_iload_n F.1 F.2.1 dX6_goOne_43 rfl (lv_at hl 1 rfl) ?_
      have hv10 := hf.1
      have hf := hf.2
      refine ig_iald (f := b 103) F E Z (by decide) (by rw [ig_mm_b _ _ (by decide)]; exact (ig_k_103 _ _ _ _ _ _)) hv10 dX6_goOne_44 ?_
      refine lv_iconst (v := 2) F.1 F.2.1 dX6_goOne_45 (by decide) ?_
      refine lv_icmp_ne (tgt := 68) F.1 F.2.1 dX6_goOne_46 (by decide) (fun c_11 => ?_) (fun c_11 => ?_)
      · have hf := hf.1 c_11
        exact wm_X6_goOne_68 F E hr hk (wp_X6_goOne_74 (fun (z0 : ig_M) (z1 : Int64) (z2 : Int32) => wp_X6_goOne_26 post n z0 z1 z2) post) post (fun v0 v1 v2 v3 v4 H locs ls  hf Z hl => wm_X6_goOne_74 F E hr hk (fun (z0 : ig_M) (z1 : Int64) (z2 : Int32) => wp_X6_goOne_26 post n z0 z1 z2) post ih v0 v1 v2 v3 v4 H locs ls  hf Z hl) b lb x1 x1 _ _ _ hf Z (lv_sub hl [0, 1] rfl)
      · have hf := hf.2 c_11
        refine lv_aload_n F.1 F.2.1 dX6_goOne_49 rfl (lv_at hl 0 rfl) ?_
        refine gf_X6_109 F E Z dX6_goOne_50 ?_
        refine lv_aload_n F.1 F.2.1 dX6_goOne_53 rfl (lv_at hl 0 rfl) ?_
        refine gf_X6_28 F E Z dX6_goOne_54 ?_
        refine lv_iload_n F.1 F.2.1 dX6_goOne_57 rfl (lv_at hl 1 rfl) ?_
        have hv12 := hf.1
        have hf := hf.2
        refine ig_iald (f := b 104) F E Z (by decide) (by rw [ig_mm_b _ _ (by decide)]; exact (ig_k_104 _ _ _ _ _ _)) hv12 dX6_goOne_58 ?_
        refine lv_isub F.1 F.2.1 dX6_goOne_59 ?_
        refine lv_iconst (v := 3) F.1 F.2.1 dX6_goOne_60 (by decide) ?_
        refine lv_icmp_lt (tgt := 68) F.1 F.2.1 dX6_goOne_61 (by decide) (fun c_13 => ?_) (fun c_13 => ?_)
        · have hf := hf.1 c_13
          exact wm_X6_goOne_68 F E hr hk (wp_X6_goOne_74 (fun (z0 : ig_M) (z1 : Int64) (z2 : Int32) => wp_X6_goOne_26 post n z0 z1 z2) post) post (fun v0 v1 v2 v3 v4 H locs ls  hf Z hl => wm_X6_goOne_74 F E hr hk (fun (z0 : ig_M) (z1 : Int64) (z2 : Int32) => wp_X6_goOne_26 post n z0 z1 z2) post ih v0 v1 v2 v3 v4 H locs ls  hf Z hl) b lb x1 x1 _ _ _ hf Z (lv_sub hl [0, 1] rfl)
        · have hf := hf.2 c_13
          refine lv_iconst (v := 0) F.1 F.2.1 dX6_goOne_64 (by decide) ?_
          refine lv_goto (tgt := 74) F.1 F.2.1 dX6_goOne_65 (by decide) ?_
          exact wm_X6_goOne_74 F E hr hk (fun (z0 : ig_M) (z1 : Int64) (z2 : Int32) => wp_X6_goOne_26 post n z0 z1 z2) post ih b lb x1 0 x1 _ _ _ hf Z (lv_sub hl [0, 1] rfl)
set_option maxHeartbeats 4000000 in
set_option maxRecDepth 100000 in
theorem wm_X6_goOne_12 (F : CallFix p m c cX6_goOne 2 s args ig_all RX6) (E : ig_E D kk ad bs s) (hr : meth.sig.returnType = none) (hk : meth.locks = false) (post : ig_M → Int64 → Prop) :
    ∀ (b : ig_M) (lb : Int64) (H : Heap) (locs : List Loc) (ls : Array Slot), wp_X6_goOne_12 post b lb → ig_Z D kk ad bs s H locs a la b lb lo → lv_has ls 2 [(0, .ref (ad 97))] → W p l e (k2_rm 4 92) s m args below meth c H locs 0 0 (MQ below (va_Qv (fun u : ig_M × Int64 => post u.1 u.2) (fun u t => ig_Wd D kk ad bs a la u.1 u.2 lo t) (ig_A bs)) args s 0 0 (ig_A bs)) (F0 m 12 ls []) := by
  intro b lb H locs ls hf Z hl
  refine lv_aload_n F.1 F.2.1 dX6_goOne_12 rfl (lv_at hl 0 rfl) ?_
  refine gf_X6_103 F E Z dX6_goOne_13 ?_
  refine lv_iconst (v := 1) F.1 F.2.1 dX6_goOne_16 (by decide) ?_
  refine lv_icmp_ne (tgt := 24) F.1 F.2.1 dX6_goOne_17 (by decide) (fun c_4 => ?_) (fun c_4 => ?_)
  · have hf := hf.1 c_4
    refine lv_iconst (v := 0) F.1 F.2.1 dX6_goOne_24 (by decide) ?_
    refine lv_istore_n (lv' := [(1, .int 0), (0, .ref (ad 97))]) F.1 F.2.1 dX6_goOne_25 rfl hl (by decide) rfl (fun ls hl => ?_)
    obtain ⟨n1, hf⟩ := hf
    exact wm_X6_goOne_26 F E hr hk post n1 b lb 0 _ _ _ hf Z (lv_sub hl [1, 0] rfl)
  · have hf := hf.2 c_4
    refine lv_aload_n F.1 F.2.1 dX6_goOne_20 rfl (lv_at hl 0 rfl) ?_
    have hM := k_X6_begin l (D := D) (kk := kk) (ad := ad) (bs := bs) (a := a) (la := la) (b := b) (lb := lb) (lo := lo) hf
    refine ig_callv E Z (ig_runV (As := []) (rest := []) F E Z hl G_X6_138 hM (i := 97) (by decide) (ig_k_97 _ _ _ _ _ _) rfl rfl md_X6_begin rfl ⟨rfl, rfl⟩ ⟨Nat.le_of_ble_eq_true rfl, Nat.le_of_ble_eq_true rfl⟩ (Nat.le_of_ble_eq_true rfl) dX6_goOne_21 ⟨Nat.le_of_ble_eq_true rfl, Nat.le_of_ble_eq_true rfl⟩) (fun u H locs hf Z => ?_)
    obtain ⟨b5, lb6⟩ := u
    have Z : ig_Z D kk ad bs s H locs a la b5 lb6 lo := Z
    refine lv_iconst (v := 0) F.1 F.2.1 dX6_goOne_24 (by decide) ?_
    refine lv_istore_n (lv' := [(1, .int 0), (0, .ref (ad 97))]) F.1 F.2.1 dX6_goOne_25 rfl hl (by decide) rfl (fun ls hl => ?_)
    obtain ⟨n1, hf⟩ := hf
    exact wm_X6_goOne_26 F E hr hk post n1 b5 lb6 0 _ _ _ hf Z (lv_sub hl [1, 0] rfl)
set_option maxHeartbeats 4000000 in
set_option maxRecDepth 100000 in
theorem k_X6_goOne (l : Launch) {D : va_G} {kk : Nat → ClassId} {ad : Nat → Nat} {bs : Nat} {a : ig_M} {la : Int64} {b : ig_M} {lb lo : Int64} {post : ig_M → Int64 → Prop} (hf : wp_X6_goOne b lb post) : Met l yX6_goOne (ig_ws yX6_goOne cX6_goOne 2 none) (k2_rm 4 92) (va_Pc [.ref (ad 97)] (ig_Wd D kk ad bs a la b lb lo)) (va_Qv (fun u : ig_M × Int64 => post u.1 u.2) (fun u t => ig_Wd D kk ad bs a la u.1 u.2 lo t) (ig_A bs)) 0 0 (ig_A bs) := by
  refine Met.ofW (cc := cX6_goOne) (maxL := 2) (ret := none) (by decide) rfl ?_
  intro p e s m args below meth c s₁ B hml hv
  obtain ⟨rfl, E, hP⟩ := hv
  have hk := B.notSynchronized
  have hr := B.returns
  have F : CallFix p m c cX6_goOne 2 s _ ig_all RX6 := ⟨B.exec, B.bytes, hml, findClass_of_methodNamed B.named, fun w hw => atoms_spec B.pre w (List.mem_cons_of_mem _ hw)⟩
  have Z : ig_Z D kk ad bs s s.heap [] a la b lb lo := ig_Z.rf hP
  have hl := lv_entry ([.ref (ad 97)]) (n := 2) (Nat.le_of_ble_eq_true rfl)
  rw [lg_entry_eq]
  generalize (lg_sl ([.ref (ad 97)]) ++ List.replicate (2 - (lg_sl ([.ref (ad 97)])).length) Slot.unset).toArray = ls at hl ⊢
  have hl : lv_has ls 2 [(0, .ref (ad 97))] := hl
  refine lv_aload_n F.1 F.2.1 dX6_goOne_0 rfl (lv_at hl 0 rfl) ?_
  refine gf_X6_103 F E Z dX6_goOne_1 ?_
  refine lv_iconst (v := 2) F.1 F.2.1 dX6_goOne_4 (by decide) ?_
  refine lv_icmp_ne (tgt := 12) F.1 F.2.1 dX6_goOne_5 (by decide) (fun c_1 => ?_) (fun c_1 => ?_)
  · have hf := hf.1 c_1
    exact wm_X6_goOne_12 F E hr hk post b lb _ _ _ hf Z (lv_sub hl [0] rfl)
  · have hf := hf.2 c_1
    refine lv_aload_n F.1 F.2.1 dX6_goOne_8 rfl (lv_at hl 0 rfl) ?_
    have hM := k_X6_leave l (D := D) (kk := kk) (ad := ad) (bs := bs) (a := a) (la := la) (b := b) (lb := lb) (lo := lo) hf
    refine ig_callv E Z (ig_runV (As := []) (rest := []) F E Z hl G_X6_135 hM (i := 97) (by decide) (ig_k_97 _ _ _ _ _ _) rfl rfl md_X6_leave rfl ⟨rfl, rfl⟩ ⟨Nat.le_of_ble_eq_true rfl, Nat.le_of_ble_eq_true rfl⟩ (Nat.le_of_ble_eq_true rfl) dX6_goOne_9 ⟨Nat.le_of_ble_eq_true rfl, Nat.le_of_ble_eq_true rfl⟩) (fun u H locs hf Z => ?_)
    obtain ⟨b2, lb3⟩ := u
    have Z : ig_Z D kk ad bs s H locs a la b2 lb3 lo := Z
    exact wm_X6_goOne_12 F E hr hk post b2 lb3 _ _ _ hf Z (lv_sub hl [0] rfl)
set_option maxHeartbeats 4000000 in
set_option maxRecDepth 100000 in
theorem wm_X6_go_51 (F : CallFix p m c cX6_go 5 s args ig_all RX6) (E : ig_E D kk ad bs s) (hr : meth.sig.returnType = (some .int)) (hk : meth.locks = false) (post : Int32 → ig_M → Int64 → Prop) :
    ∀ (n : Nat) (b : ig_M) (lb : Int64) (x1 : Int32) (x3 : Int32) (x4 : Int32) (H : Heap) (locs : List Loc) (ls : Array Slot), wp_X6_go_51 post n b lb x1 x3 x4 → ig_Z D kk ad bs s H locs a la b lb lo → lv_has ls 5 [(0, .ref (ad 97)), (1, .int x1), (3, .int x3), (4, .int x4)] → W p l e (k2_rm 5 113) s m args below meth c H locs 0 0 (MQ below (va_Qi (fun (r : Int32) (u : ig_M × Int64) => post r u.1 u.2) (fun u t => ig_Wd D kk ad bs a la u.1 u.2 lo t) (ig_A bs)) args s 0 0 (ig_A bs)) (F0 m 51 ls []) := by
  intro n
  induction n with
  | zero => intro b lb x1 x3 x4 H locs ls hf Z hl; exact False.elim hf
  | succ n ih =>
    intro b lb x1 x3 x4 H locs ls hf Z hl
    refine lv_iload F.1 F.2.1 dX6_go_51 (lv_at hl 3 rfl) ?_
    refine lv_iload_n F.1 F.2.1 dX6_go_53 rfl (lv_at hl 1 rfl) ?_
    refine lv_icmp_ge (tgt := 67) F.1 F.2.1 dX6_go_54 (by decide) (fun c_8 => ?_) (fun c_8 => ?_)
    · have hf := hf.1 c_8
      refine lv_aload_n F.1 F.2.1 dX6_go_67 rfl (lv_at hl 0 rfl) ?_
      refine gf_X6_132 F E Z dX6_go_68 ?_
      refine lv_iload_n F.1 F.2.1 dX6_go_71 rfl (lv_at hl 2 rfl) ?_
      refine lv_isub F.1 F.2.1 dX6_go_72 ?_
      exact W.iret (v := (b 97 22) - x3) F.1 F.2.1 hr (fun t ht hW => ⟨⟨_, (b, lb), rfl, hf, Z.wd E ht hW⟩, Z.fr ht⟩) Z.2.2.2 dX6_go_73
    · have hf := hf.2 c_8
      refine lv_aload_n F.1 F.2.1 dX6_go_57 rfl (lv_at hl 0 rfl) ?_
      have hM := k_X6_goOne l (D := D) (kk := kk) (ad := ad) (bs := bs) (a := a) (la := la) (b := b) (lb := lb) (lo := lo) hf
      refine ig_callv E Z (ig_runV (As := []) (rest := []) F E Z hl G_X6_155 hM (i := 97) (by decide) (ig_k_97 _ _ _ _ _ _) rfl rfl md_X6_goOne rfl ⟨rfl, rfl⟩ ⟨Nat.le_of_ble_eq_true rfl, Nat.le_of_ble_eq_true rfl⟩ (Nat.le_of_ble_eq_true rfl) dX6_go_58 ⟨Nat.le_of_ble_eq_true rfl, Nat.le_of_ble_eq_true rfl⟩) (fun u H locs hf Z => ?_)
      obtain ⟨b9, lb10⟩ := u
      have Z : ig_Z D kk ad bs s H locs a la b9 lb10 lo := Z
      refine lv_iinc (v := x4 + 1) (lv' := [(4, .int (x4 + 1)), (0, .ref (ad 97)), (1, .int x1), (3, .int x3)]) F.1 F.2.1 dX6_go_61 hl (k := 3) rfl (by rfl) (by decide) rfl (fun ls hl => ?_)
      refine lv_goto (tgt := 51) F.1 F.2.1 dX6_go_64 (by decide) ?_
      exact ih b9 lb10 x1 x3 (x4 + 1) _ _ _ hf Z (lv_sub hl [1, 2, 3, 0] rfl)
set_option maxHeartbeats 4000000 in
set_option maxRecDepth 100000 in
theorem wm_X6_go_35 (F : CallFix p m c cX6_go 5 s args ig_all RX6) (E : ig_E D kk ad bs s) (hr : meth.sig.returnType = (some .int)) (hk : meth.locks = false) (post : Int32 → ig_M → Int64 → Prop) :
    ∀ (b : ig_M) (lb : Int64) (x1 : Int32) (t0 : Int32) (H : Heap) (locs : List Loc) (ls : Array Slot), wp_X6_go_35 post b lb x1 t0 → ig_Z D kk ad bs s H locs a la b lb lo → lv_has ls 5 [(0, .ref (ad 97)), (1, .int x1)] → W p l e (k2_rm 5 113) s m args below meth c H locs 0 0 (MQ below (va_Qi (fun (r : Int32) (u : ig_M × Int64) => post r u.1 u.2) (fun u t => ig_Wd D kk ad bs a la u.1 u.2 lo t) (ig_A bs)) args s 0 0 (ig_A bs)) (F0 m 35 ls [.int t0, .ref (ad 97)]) := by
  intro b lb x1 t0 H locs ls hf Z hl
  have hM := k_X6_goesWell l (D := D) (kk := kk) (ad := ad) (bs := bs) (a := a) (la := la) (b := b) (lb := lb) (lo := lo) t0 hf
  refine ig_calli E Z (ig_runV (As := [.int t0]) (rest := []) F E Z hl G_X6_83 hM (i := 97) (by decide) (ig_k_97 _ _ _ _ _ _) rfl rfl md_X6_goesWell rfl ⟨rfl, rfl⟩ ⟨Nat.le_of_ble_eq_true rfl, Nat.le_of_ble_eq_true rfl⟩ (Nat.le_of_ble_eq_true rfl) dX6_go_35 ⟨Nat.le_of_ble_eq_true rfl, Nat.le_of_ble_eq_true rfl⟩) (fun r4 u H locs hf Z => ?_)
  obtain ⟨b5, lb6⟩ := u
  have Z : ig_Z D kk ad bs s H locs a la b5 lb6 lo := Z
  refine lv_if_ne (tgt := 43) F.1 F.2.1 dX6_go_38 (by decide) (fun c_7 => ?_) (fun c_7 => ?_)
  · have hf := hf.1 c_7
    refine lv_aload_n F.1 F.2.1 dX6_go_43 rfl (lv_at hl 0 rfl) ?_
    refine gf_X6_132 F E Z dX6_go_44 ?_
    refine lv_istore_n (lv' := [(3, .int (b5 97 22)), (0, .ref (ad 97)), (1, .int x1)]) F.1 F.2.1 dX6_go_47 rfl hl (by decide) rfl (fun ls hl => ?_)
    refine lv_iconst (v := 0) F.1 F.2.1 dX6_go_48 (by decide) ?_
    refine lv_istore (lv' := [(4, .int 0), (3, .int (b5 97 22)), (0, .ref (ad 97)), (1, .int x1)]) F.1 F.2.1 dX6_go_49 hl (by decide) rfl (fun ls hl => ?_)
    obtain ⟨n1, hf⟩ := hf
    exact wm_X6_go_51 F E hr hk post n1 b5 lb6 x1 (b5 97 22) 0 _ _ _ hf Z (lv_sub hl [2, 3, 1, 0] rfl)
  · have hf := hf.2 c_7
    refine lv_iconst (v := 0) F.1 F.2.1 dX6_go_41 (by decide) ?_
    exact W.iret (v := 0) F.1 F.2.1 hr (fun t ht hW => ⟨⟨_, (b5, lb6), rfl, hf, Z.wd E ht hW⟩, Z.fr ht⟩) Z.2.2.2 dX6_go_42
set_option maxHeartbeats 4000000 in
set_option maxRecDepth 100000 in
theorem k_X6_go (l : Launch) {D : va_G} {kk : Nat → ClassId} {ad : Nat → Nat} {bs : Nat} {a : ig_M} {la : Int64} {b : ig_M} {lb lo : Int64} (x1 : Int32) {post : Int32 → ig_M → Int64 → Prop} (hf : wp_X6_go b lb x1 post) : Met l yX6_go (ig_ws yX6_go cX6_go 5 (some .int)) (k2_rm 5 113) (va_Pc [.ref (ad 97), .int x1] (ig_Wd D kk ad bs a la b lb lo)) (va_Qi (fun (r : Int32) (u : ig_M × Int64) => post r u.1 u.2) (fun u t => ig_Wd D kk ad bs a la u.1 u.2 lo t) (ig_A bs)) 0 0 (ig_A bs) := by
  refine Met.ofW (cc := cX6_go) (maxL := 5) (ret := (some .int)) (by decide) rfl ?_
  intro p e s m args below meth c s₁ B hml hv
  obtain ⟨rfl, E, hP⟩ := hv
  have hk := B.notSynchronized
  have hr := B.returns
  have F : CallFix p m c cX6_go 5 s _ ig_all RX6 := ⟨B.exec, B.bytes, hml, findClass_of_methodNamed B.named, fun w hw => atoms_spec B.pre w (List.mem_cons_of_mem _ hw)⟩
  have Z : ig_Z D kk ad bs s s.heap [] a la b lb lo := ig_Z.rf hP
  have hl := lv_entry ([.ref (ad 97), .int x1]) (n := 5) (Nat.le_of_ble_eq_true rfl)
  rw [lg_entry_eq]
  generalize (lg_sl ([.ref (ad 97), .int x1]) ++ List.replicate (5 - (lg_sl ([.ref (ad 97), .int x1])).length) Slot.unset).toArray = ls at hl ⊢
  have hl : lv_has ls 5 [(0, .ref (ad 97)), (1, .int x1)] := hl
  refine lv_iload_n F.1 F.2.1 dX6_go_0 rfl (lv_at hl 1 rfl) ?_
  refine lv_iconst (v := 1) F.1 F.2.1 dX6_go_1 (by decide) ?_
  refine lv_sipush (v := 1000) F.1 F.2.1 dX6_go_2 (by decide) ?_
  have hM := k_X6_in l (D := D) (kk := kk) (ad := ad) (bs := bs) (a := a) (la := la) (b := b) (lb := lb) (lo := lo) x1 1 1000 hf
  refine ig_calli E Z (ig_runS (As := [.int x1, .int 1, .int 1000]) (rest := []) F E Z hl G_X6_72 hM rfl md_X6_in rfl ⟨rfl, rfl⟩ ⟨Nat.le_of_ble_eq_true rfl, Nat.le_of_ble_eq_true rfl⟩ (Nat.le_of_ble_eq_true rfl) dX6_go_5 ⟨Nat.le_of_ble_eq_true rfl, Nat.le_of_ble_eq_true rfl⟩) (fun r1 u H locs hf Z => ?_)
  refine lv_istore_n (lv' := [(2, .int r1), (0, .ref (ad 97)), (1, .int x1)]) F.1 F.2.1 dX6_go_8 rfl hl (by decide) rfl (fun ls hl => ?_)
  refine lv_aload_n F.1 F.2.1 dX6_go_9 rfl (lv_at hl 1 rfl) ?_
  refine lv_iload_n F.1 F.2.1 dX6_go_10 rfl (lv_at hl 0 rfl) ?_
  refine lv_if_ne (tgt := 18) F.1 F.2.1 dX6_go_11 (by decide) (fun c_2 => ?_) (fun c_2 => ?_)
  · have hf := hf.1 c_2
    refine lv_aload_n F.1 F.2.1 dX6_go_18 rfl (lv_at hl 1 rfl) ?_
    refine gf_X6_109 F E Z dX6_go_19 ?_
    refine lv_iload_n F.1 F.2.1 dX6_go_22 rfl (lv_at hl 2 rfl) ?_
    refine lv_iadd F.1 F.2.1 dX6_go_23 ?_
    refine lv_sipush (v := 5000) F.1 F.2.1 dX6_go_24 (by decide) ?_
    refine lv_icmp_le (tgt := 34) F.1 F.2.1 dX6_go_27 (by decide) (fun c_3 => ?_) (fun c_3 => ?_)
    · have hf := hf.1 c_3
      refine lv_iconst (v := 0) F.1 F.2.1 dX6_go_34 (by decide) ?_
      exact wm_X6_go_35 F E hr hk post b lb x1 0 _ _ _ hf Z (lv_sub hl [1, 2] rfl)
    · have hf := hf.2 c_3
      refine lv_iconst (v := 2) F.1 F.2.1 dX6_go_30 (by decide) ?_
      refine lv_goto (tgt := 35) F.1 F.2.1 dX6_go_31 (by decide) ?_
      exact wm_X6_go_35 F E hr hk post b lb x1 2 _ _ _ hf Z (lv_sub hl [1, 2] rfl)
  · have hf := hf.2 c_2
    refine lv_iconst (v := 1) F.1 F.2.1 dX6_go_14 (by decide) ?_
    refine lv_goto (tgt := 35) F.1 F.2.1 dX6_go_15 (by decide) ?_
    exact wm_X6_go_35 F E hr hk post b lb x1 1 _ _ _ hf Z (lv_sub hl [1, 2] rfl)
set_option maxHeartbeats 4000000 in
set_option maxRecDepth 100000 in
theorem k_X6_shown (l : Launch) {D : va_G} {kk : Nat → ClassId} {ad : Nat → Nat} {bs : Nat} {a : ig_M} {la : Int64} {b : ig_M} {lb lo : Int64} (x1 : Int32) (x2 : Int32) {post : Int32 → Prop} (hf : wp_X6_shown b lb x1 x2 post) : Met l yX6_shown (ig_ws yX6_shown cX6_shown 3 (some .int)) (k2_rm 0 0) (va_Pc [.ref (ad 97), .int x1, .int x2] (ig_Wd D kk ad bs a la b lb lo)) (va_Qi (fun (r : Int32) (_ : Unit) => post r) (fun _ t => ig_Wd D kk ad bs a la b lb lo t) (ig_A bs)) 0 0 (ig_A bs) := by
  refine Met.ofW (cc := cX6_shown) (maxL := 3) (ret := (some .int)) (by decide) rfl ?_
  intro p e s m args below meth c s₁ B hml hv
  obtain ⟨rfl, E, hP⟩ := hv
  have hk := B.notSynchronized
  have hr := B.returns
  have F : CallFix p m c cX6_shown 3 s _ ig_all RX6 := ⟨B.exec, B.bytes, hml, findClass_of_methodNamed B.named, fun w hw => atoms_spec B.pre w (List.mem_cons_of_mem _ hw)⟩
  have Z : ig_Z D kk ad bs s s.heap [] a la b lb lo := ig_Z.rf hP
  have hl := lv_entry ([.ref (ad 97), .int x1, .int x2]) (n := 3) (Nat.le_of_ble_eq_true rfl)
  rw [lg_entry_eq]
  generalize (lg_sl ([.ref (ad 97), .int x1, .int x2]) ++ List.replicate (3 - (lg_sl ([.ref (ad 97), .int x1, .int x2])).length) Slot.unset).toArray = ls at hl ⊢
  have hl : lv_has ls 3 [(0, .ref (ad 97)), (1, .int x1), (2, .int x2)] := hl
  refine lv_aload_n F.1 F.2.1 dX6_shown_0 rfl (lv_at hl 0 rfl) ?_
  refine gf_X6_57 F E Z dX6_shown_1 ?_
  refine lv_iload_n F.1 F.2.1 dX6_shown_4 rfl (lv_at hl 2 rfl) ?_
  have hv1 := hf.1
  have hf := hf.2
  refine ig_iald (f := b 112) F E Z (by decide) (by rw [ig_mm_b _ _ (by decide)]; exact (ig_k_112 _ _ _ _ _ _)) hv1 dX6_shown_5 ?_
  refine lv_iconst (v := 2) F.1 F.2.1 dX6_shown_6 (by decide) ?_
  refine lv_iload_n F.1 F.2.1 dX6_shown_7 rfl (lv_at hl 1 rfl) ?_
  refine lv_imul F.1 F.2.1 dX6_shown_8 ?_
  refine lv_ishr F.1 F.2.1 dX6_shown_9 ?_
  refine lv_iconst (v := 3) F.1 F.2.1 dX6_shown_10 (by decide) ?_
  refine lv_iand F.1 F.2.1 dX6_shown_11 ?_
  exact W.iret (v := ((b 112 x2.toNatClampNeg) >>> ((2 * x1) &&& 31)) &&& 3) F.1 F.2.1 hr (fun t ht hW => ⟨⟨_, (), rfl, hf, Z.wd E ht hW⟩, Z.fr ht⟩) Z.2.2.2 dX6_shown_12
set_option maxHeartbeats 4000000 in
set_option maxRecDepth 100000 in
theorem wm_X6_lamp_27 (F : CallFix p m c cX6_lamp 3 s args ig_all RX6) (E : ig_E D kk ad bs s) (hr : meth.sig.returnType = (some .int)) (hk : meth.locks = false) (k_28 : ig_M → Int64 → Int32 → Int32 → Int32 → Prop) (post : Int32 → ig_M → Int64 → Prop) (h_28 : ∀ (b : ig_M) (lb : Int64) (x1 : Int32) (x2 : Int32) (t0 : Int32) (H : Heap) (locs : List Loc) (ls : Array Slot), k_28 b lb x1 x2 t0 → ig_Z D kk ad bs s H locs a la b lb lo → lv_has ls 3 [(0, .ref (ad 97)), (1, .int x1), (2, .int x2)] → W p l e (k2_rm 2 43) s m args below meth c H locs 0 0 (MQ below (va_Qi (fun (r : Int32) (u : ig_M × Int64) => post r u.1 u.2) (fun u t => ig_Wd D kk ad bs a la u.1 u.2 lo t) (ig_A bs)) args s 0 0 (ig_A bs)) (F0 m 28 ls [.int t0, .ref (ad 97)])) :
    ∀ (b : ig_M) (lb : Int64) (x1 : Int32) (x2 : Int32) (H : Heap) (locs : List Loc) (ls : Array Slot), wp_X6_lamp_27 k_28 post b lb x1 x2 → ig_Z D kk ad bs s H locs a la b lb lo → lv_has ls 3 [(0, .ref (ad 97)), (1, .int x1), (2, .int x2)] → W p l e (k2_rm 2 43) s m args below meth c H locs 0 0 (MQ below (va_Qi (fun (r : Int32) (u : ig_M × Int64) => post r u.1 u.2) (fun u t => ig_Wd D kk ad bs a la u.1 u.2 lo t) (ig_A bs)) args s 0 0 (ig_A bs)) (F0 m 27 ls [.ref (ad 97)]) := by
  intro b lb x1 x2 H locs ls hf Z hl
  refine lv_iconst (v := 1) F.1 F.2.1 dX6_lamp_27 (by decide) ?_
  exact h_28 b lb x1 x2 1 _ _ _ hf Z (lv_sub hl [0, 1, 2] rfl)
set_option maxHeartbeats 4000000 in
set_option maxRecDepth 100000 in
theorem wm_X6_lamp_28 (F : CallFix p m c cX6_lamp 3 s args ig_all RX6) (E : ig_E D kk ad bs s) (hr : meth.sig.returnType = (some .int)) (hk : meth.locks = false) (post : Int32 → ig_M → Int64 → Prop) :
    ∀ (b : ig_M) (lb : Int64) (x1 : Int32) (x2 : Int32) (t0 : Int32) (H : Heap) (locs : List Loc) (ls : Array Slot), wp_X6_lamp_28 post b lb x1 x2 t0 → ig_Z D kk ad bs s H locs a la b lb lo → lv_has ls 3 [(0, .ref (ad 97)), (1, .int x1), (2, .int x2)] → W p l e (k2_rm 2 43) s m args below meth c H locs 0 0 (MQ below (va_Qi (fun (r : Int32) (u : ig_M × Int64) => post r u.1 u.2) (fun u t => ig_Wd D kk ad bs a la u.1 u.2 lo t) (ig_A bs)) args s 0 0 (ig_A bs)) (F0 m 28 ls [.int t0, .ref (ad 97)]) := by
  intro b lb x1 x2 t0 H locs ls hf Z hl
  have hM := k_X6_goesWell l (D := D) (kk := kk) (ad := ad) (bs := bs) (a := a) (la := la) (b := b) (lb := lb) (lo := lo) t0 hf
  refine ig_calli E Z (ig_runV (As := [.int t0]) (rest := []) F E Z hl G_X6_83 hM (i := 97) (by decide) (ig_k_97 _ _ _ _ _ _) rfl rfl md_X6_goesWell rfl ⟨rfl, rfl⟩ ⟨Nat.le_of_ble_eq_true rfl, Nat.le_of_ble_eq_true rfl⟩ (Nat.le_of_ble_eq_true rfl) dX6_lamp_28 ⟨Nat.le_of_ble_eq_true rfl, Nat.le_of_ble_eq_true rfl⟩) (fun r5 u H locs hf Z => ?_)
  obtain ⟨b6, lb7⟩ := u
  have Z : ig_Z D kk ad bs s H locs a la b6 lb7 lo := Z
  refine lv_if_eq (tgt := 43) F.1 F.2.1 dX6_lamp_31 (by decide) (fun c_8 => ?_) (fun c_8 => ?_)
  · have hf := hf.1 c_8
    refine lv_iconst (v := 0) F.1 F.2.1 dX6_lamp_43 (by decide) ?_
    exact W.iret (v := 0) F.1 F.2.1 hr (fun t ht hW => ⟨⟨_, (b6, lb7), rfl, hf, Z.wd E ht hW⟩, Z.fr ht⟩) Z.2.2.2 dX6_lamp_44
  · have hf := hf.2 c_8
    refine lv_aload_n F.1 F.2.1 dX6_lamp_34 rfl (lv_at hl 0 rfl) ?_
    refine lv_iload_n F.1 F.2.1 dX6_lamp_35 rfl (lv_at hl 1 rfl) ?_
    refine lv_iload_n F.1 F.2.1 dX6_lamp_36 rfl (lv_at hl 2 rfl) ?_
    have hM := k_X6_shown l (D := D) (kk := kk) (ad := ad) (bs := bs) (a := a) (la := la) (b := b6) (lb := lb7) (lo := lo) x1 x2 hf
    refine ig_calli E Z (ig_runV (As := [.int x1, .int x2]) (rest := []) F E Z hl G_X6_158 hM (i := 97) (by decide) (ig_k_97 _ _ _ _ _ _) rfl rfl md_X6_shown rfl ⟨rfl, rfl⟩ ⟨Nat.le_of_ble_eq_true rfl, Nat.le_of_ble_eq_true rfl⟩ (Nat.le_of_ble_eq_true rfl) dX6_lamp_37 ⟨Nat.le_of_ble_eq_true rfl, Nat.le_of_ble_eq_true rfl⟩) (fun r9 u H locs hf Z => ?_)
    refine lv_goto (tgt := 44) F.1 F.2.1 dX6_lamp_40 (by decide) ?_
    exact W.iret (v := r9) F.1 F.2.1 hr (fun t ht hW => ⟨⟨_, (b6, lb7), rfl, hf, Z.wd E ht hW⟩, Z.fr ht⟩) Z.2.2.2 dX6_lamp_44
set_option maxHeartbeats 4000000 in
set_option maxRecDepth 100000 in
theorem k_X6_lamp (l : Launch) {D : va_G} {kk : Nat → ClassId} {ad : Nat → Nat} {bs : Nat} {a : ig_M} {la : Int64} {b : ig_M} {lb lo : Int64} (x1 : Int32) (x2 : Int32) {post : Int32 → ig_M → Int64 → Prop} (hf : wp_X6_lamp b lb x1 x2 post) : Met l yX6_lamp (ig_ws yX6_lamp cX6_lamp 3 (some .int)) (k2_rm 2 43) (va_Pc [.ref (ad 97), .int x1, .int x2] (ig_Wd D kk ad bs a la b lb lo)) (va_Qi (fun (r : Int32) (u : ig_M × Int64) => post r u.1 u.2) (fun u t => ig_Wd D kk ad bs a la u.1 u.2 lo t) (ig_A bs)) 0 0 (ig_A bs) := by
  refine Met.ofW (cc := cX6_lamp) (maxL := 3) (ret := (some .int)) (by decide) rfl ?_
  intro p e s m args below meth c s₁ B hml hv
  obtain ⟨rfl, E, hP⟩ := hv
  have hk := B.notSynchronized
  have hr := B.returns
  have F : CallFix p m c cX6_lamp 3 s _ ig_all RX6 := ⟨B.exec, B.bytes, hml, findClass_of_methodNamed B.named, fun w hw => atoms_spec B.pre w (List.mem_cons_of_mem _ hw)⟩
  have Z : ig_Z D kk ad bs s s.heap [] a la b lb lo := ig_Z.rf hP
  have hl := lv_entry ([.ref (ad 97), .int x1, .int x2]) (n := 3) (Nat.le_of_ble_eq_true rfl)
  rw [lg_entry_eq]
  generalize (lg_sl ([.ref (ad 97), .int x1, .int x2]) ++ List.replicate (3 - (lg_sl ([.ref (ad 97), .int x1, .int x2])).length) Slot.unset).toArray = ls at hl ⊢
  have hl : lv_has ls 3 [(0, .ref (ad 97)), (1, .int x1), (2, .int x2)] := hl
  refine lv_aload_n F.1 F.2.1 dX6_lamp_0 rfl (lv_at hl 0 rfl) ?_
  refine lv_aload_n F.1 F.2.1 dX6_lamp_1 rfl (lv_at hl 0 rfl) ?_
  refine lv_iload_n F.1 F.2.1 dX6_lamp_2 rfl (lv_at hl 1 rfl) ?_
  have hM := k_X6_isPhase l (D := D) (kk := kk) (ad := ad) (bs := bs) (a := a) (la := la) (b := b) (lb := lb) (lo := lo) x1 hf
  refine ig_calli E Z (ig_runV (As := [.int x1]) (rest := [.ref (ad 97)]) F E Z hl G_X6_91 hM (i := 97) (by decide) (ig_k_97 _ _ _ _ _ _) rfl rfl md_X6_isPhase rfl ⟨rfl, rfl⟩ ⟨Nat.le_of_ble_eq_true rfl, Nat.le_of_ble_eq_true rfl⟩ (Nat.le_of_ble_eq_true rfl) dX6_lamp_3 ⟨Nat.le_of_ble_eq_true rfl, Nat.le_of_ble_eq_true rfl⟩) (fun r1 u H locs hf Z => ?_)
  refine lv_if_eq (tgt := 27) F.1 F.2.1 dX6_lamp_6 (by decide) (fun c_2 => ?_) (fun c_2 => ?_)
  · have hf := hf.1 c_2
    exact wm_X6_lamp_27 F E hr hk (wp_X6_lamp_28 post) post (fun v0 v1 v2 v3 v4 H locs ls  hf Z hl => wm_X6_lamp_28 F E hr hk post v0 v1 v2 v3 v4 H locs ls  hf Z hl) b lb x1 x2 _ _ _ hf Z (lv_sub hl [0, 1, 2] rfl)
  · have hf := hf.2 c_2
    refine lv_iload_n F.1 F.2.1 dX6_lamp_9 rfl (lv_at hl 2 rfl) ?_
    refine lv_iconst (v := 0) F.1 F.2.1 dX6_lamp_10 (by decide) ?_
    refine lv_aload_n F.1 F.2.1 dX6_lamp_11 rfl (lv_at hl 0 rfl) ?_
    refine gf_X6_109 F E Z dX6_lamp_12 ?_
    refine lv_iconst (v := 1) F.1 F.2.1 dX6_lamp_15 (by decide) ?_
    refine lv_isub F.1 F.2.1 dX6_lamp_16 ?_
    have hM := k_X6_in l (D := D) (kk := kk) (ad := ad) (bs := bs) (a := a) (la := la) (b := b) (lb := lb) (lo := lo) x2 0 ((b 97 11) - 1) hf
    refine ig_calli E Z (ig_runS (As := [.int x2, .int 0, .int ((b 97 11) - 1)]) (rest := [.ref (ad 97)]) F E Z hl G_X6_72 hM rfl md_X6_in rfl ⟨rfl, rfl⟩ ⟨Nat.le_of_ble_eq_true rfl, Nat.le_of_ble_eq_true rfl⟩ (Nat.le_of_ble_eq_true rfl) dX6_lamp_17 ⟨Nat.le_of_ble_eq_true rfl, Nat.le_of_ble_eq_true rfl⟩) (fun r3 u H locs hf Z => ?_)
    refine lv_if_eq (tgt := 27) F.1 F.2.1 dX6_lamp_20 (by decide) (fun c_4 => ?_) (fun c_4 => ?_)
    · have hf := hf.1 c_4
      exact wm_X6_lamp_27 F E hr hk (wp_X6_lamp_28 post) post (fun v0 v1 v2 v3 v4 H locs ls  hf Z hl => wm_X6_lamp_28 F E hr hk post v0 v1 v2 v3 v4 H locs ls  hf Z hl) b lb x1 x2 _ _ _ hf Z (lv_sub hl [0, 1, 2] rfl)
    · have hf := hf.2 c_4
      refine lv_iconst (v := 0) F.1 F.2.1 dX6_lamp_23 (by decide) ?_
      refine lv_goto (tgt := 28) F.1 F.2.1 dX6_lamp_24 (by decide) ?_
      exact wm_X6_lamp_28 F E hr hk post b lb x1 x2 0 _ _ _ hf Z (lv_sub hl [0, 1, 2] rfl)
set_option maxHeartbeats 4000000 in
set_option maxRecDepth 100000 in
theorem wm_X6_ofPhase_53 (F : CallFix p m c cX6_ofPhase 5 s args ig_all RX6) (E : ig_E D kk ad bs s) (hr : meth.sig.returnType = (some .int)) (hk : meth.locks = false) (post : Int32 → ig_M → Int64 → Prop) :
    ∀ (b : ig_M) (lb : Int64) (x1 : Int32) (x2 : Int32) (t0 : Int32) (H : Heap) (locs : List Loc) (ls : Array Slot), wp_X6_ofPhase_53 post b lb x1 x2 t0 → ig_Z D kk ad bs s H locs a la b lb lo → lv_has ls 5 [(0, .ref (ad 97)), (1, .int x1), (2, .int x2)] → W p l e (k2_rm 2 43) s m args below meth c H locs 0 0 (MQ below (va_Qi (fun (r : Int32) (u : ig_M × Int64) => post r u.1 u.2) (fun u t => ig_Wd D kk ad bs a la u.1 u.2 lo t) (ig_A bs)) args s 0 0 (ig_A bs)) (F0 m 53 ls [.int t0]) := by
  intro b lb x1 x2 t0 H locs ls hf Z hl
  refine lv_istore (lv' := [(4, .int t0), (0, .ref (ad 97)), (1, .int x1), (2, .int x2)]) F.1 F.2.1 dX6_ofPhase_53 hl (by decide) rfl (fun ls hl => ?_)
  refine lv_iload_n F.1 F.2.1 dX6_ofPhase_55 rfl (lv_at hl 3 rfl) ?_
  by_cases c_11 : x2 = 0
  · have hf := hf.1 c_11
    refine lv_tableIn (tgt := 96) F.1 F.2.1 dX6_ofPhase_56 (by rw [c_11]; decide) (by rw [c_11]; decide) (by rw [c_11]; rfl) (by decide) ?_
    refine lv_aload_n F.1 F.2.1 dX6_ofPhase_96 rfl (lv_at hl 1 rfl) ?_
    refine gf_X6_25 F E Z dX6_ofPhase_97 ?_
    refine lv_iload_n F.1 F.2.1 dX6_ofPhase_100 rfl (lv_at hl 2 rfl) ?_
    have hv12 := hf.1
    have hf := hf.2
    refine ig_iald (f := b 103) F E Z (by decide) (by rw [ig_mm_b _ _ (by decide)]; exact (ig_k_103 _ _ _ _ _ _)) hv12 dX6_ofPhase_101 ?_
    exact W.iret (v := b 103 x1.toNatClampNeg) F.1 F.2.1 hr (fun t ht hW => ⟨⟨_, (b, lb), rfl, hf, Z.wd E ht hW⟩, Z.fr ht⟩) Z.2.2.2 dX6_ofPhase_102
  have hf := hf.2 c_11
  by_cases c_13 : x2 = 1
  · have hf := hf.1 c_13
    refine lv_tableIn (tgt := 103) F.1 F.2.1 dX6_ofPhase_56 (by rw [c_13]; decide) (by rw [c_13]; decide) (by rw [c_13]; rfl) (by decide) ?_
    refine lv_iload F.1 F.2.1 dX6_ofPhase_103 (lv_at hl 0 rfl) ?_
    refine lv_if_eq (tgt := 117) F.1 F.2.1 dX6_ofPhase_105 (by decide) (fun c_14 => ?_) (fun c_14 => ?_)
    · have hf := hf.1 c_14
      refine lv_iconst (v := 0) F.1 F.2.1 dX6_ofPhase_117 (by decide) ?_
      exact W.iret (v := 0) F.1 F.2.1 hr (fun t ht hW => ⟨⟨_, (b, lb), rfl, hf, Z.wd E ht hW⟩, Z.fr ht⟩) Z.2.2.2 dX6_ofPhase_118
    · have hf := hf.2 c_14
      refine lv_aload_n F.1 F.2.1 dX6_ofPhase_108 rfl (lv_at hl 1 rfl) ?_
      refine gf_X6_31 F E Z dX6_ofPhase_109 ?_
      refine lv_iload_n F.1 F.2.1 dX6_ofPhase_112 rfl (lv_at hl 2 rfl) ?_
      have hv15 := hf.1
      have hf := hf.2
      refine ig_iald (f := b 105) F E Z (by decide) (by rw [ig_mm_b _ _ (by decide)]; exact (ig_k_105 _ _ _ _ _ _)) hv15 dX6_ofPhase_113 ?_
      refine lv_goto (tgt := 118) F.1 F.2.1 dX6_ofPhase_114 (by decide) ?_
      exact W.iret (v := b 105 x1.toNatClampNeg) F.1 F.2.1 hr (fun t ht hW => ⟨⟨_, (b, lb), rfl, hf, Z.wd E ht hW⟩, Z.fr ht⟩) Z.2.2.2 dX6_ofPhase_118
  have hf := hf.2 c_13
  by_cases c_16 : x2 = 2
  · have hf := hf.1 c_16
    refine lv_tableIn (tgt := 119) F.1 F.2.1 dX6_ofPhase_56 (by rw [c_16]; decide) (by rw [c_16]; decide) (by rw [c_16]; rfl) (by decide) ?_
    refine lv_iload F.1 F.2.1 dX6_ofPhase_119 (lv_at hl 0 rfl) ?_
    refine lv_if_eq (tgt := 133) F.1 F.2.1 dX6_ofPhase_121 (by decide) (fun c_17 => ?_) (fun c_17 => ?_)
    · have hf := hf.1 c_17
      refine lv_iconst (v := 0) F.1 F.2.1 dX6_ofPhase_133 (by decide) ?_
      exact W.iret (v := 0) F.1 F.2.1 hr (fun t ht hW => ⟨⟨_, (b, lb), rfl, hf, Z.wd E ht hW⟩, Z.fr ht⟩) Z.2.2.2 dX6_ofPhase_134
    · have hf := hf.2 c_17
      refine lv_aload_n F.1 F.2.1 dX6_ofPhase_124 rfl (lv_at hl 1 rfl) ?_
      refine gf_X6_34 F E Z dX6_ofPhase_125 ?_
      refine lv_iload_n F.1 F.2.1 dX6_ofPhase_128 rfl (lv_at hl 2 rfl) ?_
      have hv18 := hf.1
      have hf := hf.2
      refine ig_iald (f := b 106) F E Z (by decide) (by rw [ig_mm_b _ _ (by decide)]; exact (ig_k_106 _ _ _ _ _ _)) hv18 dX6_ofPhase_129 ?_
      refine lv_goto (tgt := 134) F.1 F.2.1 dX6_ofPhase_130 (by decide) ?_
      exact W.iret (v := b 106 x1.toNatClampNeg) F.1 F.2.1 hr (fun t ht hW => ⟨⟨_, (b, lb), rfl, hf, Z.wd E ht hW⟩, Z.fr ht⟩) Z.2.2.2 dX6_ofPhase_134
  have hf := hf.2 c_16
  by_cases c_19 : x2 = 3
  · have hf := hf.1 c_19
    refine lv_tableIn (tgt := 135) F.1 F.2.1 dX6_ofPhase_56 (by rw [c_19]; decide) (by rw [c_19]; decide) (by rw [c_19]; rfl) (by decide) ?_
    refine lv_aload_n F.1 F.2.1 dX6_ofPhase_135 rfl (lv_at hl 1 rfl) ?_
    refine gf_X6_37 F E Z dX6_ofPhase_136 ?_
    refine lv_iload_n F.1 F.2.1 dX6_ofPhase_139 rfl (lv_at hl 2 rfl) ?_
    have hv20 := hf.1
    have hf := hf.2
    refine ig_iald (f := b 107) F E Z (by decide) (by rw [ig_mm_b _ _ (by decide)]; exact (ig_k_107 _ _ _ _ _ _)) hv20 dX6_ofPhase_140 ?_
    exact W.iret (v := b 107 x1.toNatClampNeg) F.1 F.2.1 hr (fun t ht hW => ⟨⟨_, (b, lb), rfl, hf, Z.wd E ht hW⟩, Z.fr ht⟩) Z.2.2.2 dX6_ofPhase_141
  have hf := hf.2 c_19
  by_cases c_21 : x2 = 4
  · have hf := hf.1 c_21
    refine lv_tableIn (tgt := 142) F.1 F.2.1 dX6_ofPhase_56 (by rw [c_21]; decide) (by rw [c_21]; decide) (by rw [c_21]; rfl) (by decide) ?_
    refine lv_aload_n F.1 F.2.1 dX6_ofPhase_142 rfl (lv_at hl 1 rfl) ?_
    refine gf_X6_40 F E Z dX6_ofPhase_143 ?_
    refine lv_iload_n F.1 F.2.1 dX6_ofPhase_146 rfl (lv_at hl 2 rfl) ?_
    have hv22 := hf.1
    have hf := hf.2
    refine ig_iald (f := b 108) F E Z (by decide) (by rw [ig_mm_b _ _ (by decide)]; exact (ig_k_108 _ _ _ _ _ _)) hv22 dX6_ofPhase_147 ?_
    exact W.iret (v := b 108 x1.toNatClampNeg) F.1 F.2.1 hr (fun t ht hW => ⟨⟨_, (b, lb), rfl, hf, Z.wd E ht hW⟩, Z.fr ht⟩) Z.2.2.2 dX6_ofPhase_148
  have hf := hf.2 c_21
  by_cases c_23 : x2 = 5
  · have hf := hf.1 c_23
    refine lv_tableIn (tgt := 149) F.1 F.2.1 dX6_ofPhase_56 (by rw [c_23]; decide) (by rw [c_23]; decide) (by rw [c_23]; rfl) (by decide) ?_
    refine lv_aload_n F.1 F.2.1 dX6_ofPhase_149 rfl (lv_at hl 1 rfl) ?_
    refine gf_X6_43 F E Z dX6_ofPhase_150 ?_
    refine lv_iload_n F.1 F.2.1 dX6_ofPhase_153 rfl (lv_at hl 2 rfl) ?_
    have hv24 := hf.1
    have hf := hf.2
    refine ig_iald (f := b 109) F E Z (by decide) (by rw [ig_mm_b _ _ (by decide)]; exact (ig_k_109 _ _ _ _ _ _)) hv24 dX6_ofPhase_154 ?_
    exact W.iret (v := b 109 x1.toNatClampNeg) F.1 F.2.1 hr (fun t ht hW => ⟨⟨_, (b, lb), rfl, hf, Z.wd E ht hW⟩, Z.fr ht⟩) Z.2.2.2 dX6_ofPhase_155
  have hf := hf.2 c_23
  refine lv_tableOut (tgt := 156) F.1 F.2.1 dX6_ofPhase_56 (ig_swout x2 0 5 (by decide) (by decide) (fun k h1 h2 => ?_)) (by decide) ?_
  · rcases (show k = 0 ∨ k = 1 ∨ k = 2 ∨ k = 3 ∨ k = 4 ∨ k = 5 by omega) with rfl | rfl | rfl | rfl | rfl | rfl
    · exact c_11
    · exact c_13
    · exact c_16
    · exact c_19
    · exact c_21
    · exact c_23
  refine lv_aload_n F.1 F.2.1 dX6_ofPhase_156 rfl (lv_at hl 1 rfl) ?_
  refine lv_iload_n F.1 F.2.1 dX6_ofPhase_157 rfl (lv_at hl 2 rfl) ?_
  have hM := k_X6_isDemanded l (D := D) (kk := kk) (ad := ad) (bs := bs) (a := a) (la := la) (b := b) (lb := lb) (lo := lo) x1 hf
  refine ig_calli E Z (ig_runV (As := [.int x1]) (rest := []) F E Z hl G_X6_116 hM (i := 97) (by decide) (ig_k_97 _ _ _ _ _ _) rfl rfl md_X6_isDemanded rfl ⟨rfl, rfl⟩ ⟨Nat.le_of_ble_eq_true rfl, Nat.le_of_ble_eq_true rfl⟩ (Nat.le_of_ble_eq_true rfl) dX6_ofPhase_158 ⟨Nat.le_of_ble_eq_true rfl, Nat.le_of_ble_eq_true rfl⟩) (fun r25 u H locs hf Z => ?_)
  refine lv_if_eq (tgt := 168) F.1 F.2.1 dX6_ofPhase_161 (by decide) (fun c_26 => ?_) (fun c_26 => ?_)
  · have hf := hf.1 c_26
    refine lv_iconst (v := 0) F.1 F.2.1 dX6_ofPhase_168 (by decide) ?_
    exact W.iret (v := 0) F.1 F.2.1 hr (fun t ht hW => ⟨⟨_, (b, lb), rfl, hf, Z.wd E ht hW⟩, Z.fr ht⟩) Z.2.2.2 dX6_ofPhase_169
  · have hf := hf.2 c_26
    refine lv_iconst (v := 1) F.1 F.2.1 dX6_ofPhase_164 (by decide) ?_
    refine lv_goto (tgt := 169) F.1 F.2.1 dX6_ofPhase_165 (by decide) ?_
    exact W.iret (v := 1) F.1 F.2.1 hr (fun t ht hW => ⟨⟨_, (b, lb), rfl, hf, Z.wd E ht hW⟩, Z.fr ht⟩) Z.2.2.2 dX6_ofPhase_169
set_option maxHeartbeats 4000000 in
set_option maxRecDepth 100000 in
theorem wm_X6_ofPhase_30 (F : CallFix p m c cX6_ofPhase 5 s args ig_all RX6) (E : ig_E D kk ad bs s) (hr : meth.sig.returnType = (some .int)) (hk : meth.locks = false) (post : Int32 → ig_M → Int64 → Prop) :
    ∀ (b : ig_M) (lb : Int64) (x1 : Int32) (x2 : Int32) (t0 : Int32) (H : Heap) (locs : List Loc) (ls : Array Slot), wp_X6_ofPhase_30 post b lb x1 x2 t0 → ig_Z D kk ad bs s H locs a la b lb lo → lv_has ls 5 [(0, .ref (ad 97)), (1, .int x1), (2, .int x2)] → W p l e (k2_rm 2 43) s m args below meth c H locs 0 0 (MQ below (va_Qi (fun (r : Int32) (u : ig_M × Int64) => post r u.1 u.2) (fun u t => ig_Wd D kk ad bs a la u.1 u.2 lo t) (ig_A bs)) args s 0 0 (ig_A bs)) (F0 m 30 ls [.int t0, .ref (ad 97)]) := by
  intro b lb x1 x2 t0 H locs ls hf Z hl
  have hM := k_X6_goesWell l (D := D) (kk := kk) (ad := ad) (bs := bs) (a := a) (la := la) (b := b) (lb := lb) (lo := lo) t0 hf
  refine ig_calli E Z (ig_runV (As := [.int t0]) (rest := []) F E Z hl G_X6_83 hM (i := 97) (by decide) (ig_k_97 _ _ _ _ _ _) rfl rfl md_X6_goesWell rfl ⟨rfl, rfl⟩ ⟨Nat.le_of_ble_eq_true rfl, Nat.le_of_ble_eq_true rfl⟩ (Nat.le_of_ble_eq_true rfl) dX6_ofPhase_30 ⟨Nat.le_of_ble_eq_true rfl, Nat.le_of_ble_eq_true rfl⟩) (fun r5 u H locs hf Z => ?_)
  obtain ⟨b6, lb7⟩ := u
  have Z : ig_Z D kk ad bs s H locs a la b6 lb7 lo := Z
  refine lv_if_ne (tgt := 38) F.1 F.2.1 dX6_ofPhase_33 (by decide) (fun c_8 => ?_) (fun c_8 => ?_)
  · have hf := hf.1 c_8
    refine lv_aload_n F.1 F.2.1 dX6_ofPhase_38 rfl (lv_at hl 0 rfl) ?_
    refine gf_X6_25 F E Z dX6_ofPhase_39 ?_
    refine lv_iload_n F.1 F.2.1 dX6_ofPhase_42 rfl (lv_at hl 1 rfl) ?_
    have hv9 := hf.1
    have hf := hf.2
    refine ig_iald (f := b6 103) F E Z (by decide) (by rw [ig_mm_b _ _ (by decide)]; exact (ig_k_103 _ _ _ _ _ _)) hv9 dX6_ofPhase_43 ?_
    refine lv_iconst (v := 1) F.1 F.2.1 dX6_ofPhase_44 (by decide) ?_
    refine lv_icmp_ne (tgt := 52) F.1 F.2.1 dX6_ofPhase_45 (by decide) (fun c_10 => ?_) (fun c_10 => ?_)
    · have hf := hf.1 c_10
      refine lv_iconst (v := 0) F.1 F.2.1 dX6_ofPhase_52 (by decide) ?_
      exact wm_X6_ofPhase_53 F E hr hk post b6 lb7 x1 x2 0 _ _ _ hf Z (lv_sub hl [0, 1, 2] rfl)
    · have hf := hf.2 c_10
      refine lv_iconst (v := 1) F.1 F.2.1 dX6_ofPhase_48 (by decide) ?_
      refine lv_goto (tgt := 53) F.1 F.2.1 dX6_ofPhase_49 (by decide) ?_
      exact wm_X6_ofPhase_53 F E hr hk post b6 lb7 x1 x2 1 _ _ _ hf Z (lv_sub hl [0, 1, 2] rfl)
  · have hf := hf.2 c_8
    refine lv_iconst (v := 0) F.1 F.2.1 dX6_ofPhase_36 (by decide) ?_
    exact W.iret (v := 0) F.1 F.2.1 hr (fun t ht hW => ⟨⟨_, (b6, lb7), rfl, hf, Z.wd E ht hW⟩, Z.fr ht⟩) Z.2.2.2 dX6_ofPhase_37
set_option maxHeartbeats 4000000 in
set_option maxRecDepth 100000 in
theorem k_X6_ofPhase (l : Launch) {D : va_G} {kk : Nat → ClassId} {ad : Nat → Nat} {bs : Nat} {a : ig_M} {la : Int64} {b : ig_M} {lb lo : Int64} (x1 : Int32) (x2 : Int32) {post : Int32 → ig_M → Int64 → Prop} (hf : wp_X6_ofPhase b lb x1 x2 post) : Met l yX6_ofPhase (ig_ws yX6_ofPhase cX6_ofPhase 5 (some .int)) (k2_rm 2 43) (va_Pc [.ref (ad 97), .int x1, .int x2] (ig_Wd D kk ad bs a la b lb lo)) (va_Qi (fun (r : Int32) (u : ig_M × Int64) => post r u.1 u.2) (fun u t => ig_Wd D kk ad bs a la u.1 u.2 lo t) (ig_A bs)) 0 0 (ig_A bs) := by
  refine Met.ofW (cc := cX6_ofPhase) (maxL := 5) (ret := (some .int)) (by decide) rfl ?_
  intro p e s m args below meth c s₁ B hml hv
  obtain ⟨rfl, E, hP⟩ := hv
  have hk := B.notSynchronized
  have hr := B.returns
  have F : CallFix p m c cX6_ofPhase 5 s _ ig_all RX6 := ⟨B.exec, B.bytes, hml, findClass_of_methodNamed B.named, fun w hw => atoms_spec B.pre w (List.mem_cons_of_mem _ hw)⟩
  have Z : ig_Z D kk ad bs s s.heap [] a la b lb lo := ig_Z.rf hP
  have hl := lv_entry ([.ref (ad 97), .int x1, .int x2]) (n := 5) (Nat.le_of_ble_eq_true rfl)
  rw [lg_entry_eq]
  generalize (lg_sl ([.ref (ad 97), .int x1, .int x2]) ++ List.replicate (5 - (lg_sl ([.ref (ad 97), .int x1, .int x2])).length) Slot.unset).toArray = ls at hl ⊢
  have hl : lv_has ls 5 [(0, .ref (ad 97)), (1, .int x1), (2, .int x2)] := hl
  refine lv_aload_n F.1 F.2.1 dX6_ofPhase_0 rfl (lv_at hl 0 rfl) ?_
  refine lv_iload_n F.1 F.2.1 dX6_ofPhase_1 rfl (lv_at hl 1 rfl) ?_
  have hM := k_X6_isPhase l (D := D) (kk := kk) (ad := ad) (bs := bs) (a := a) (la := la) (b := b) (lb := lb) (lo := lo) x1 hf
  refine ig_calli E Z (ig_runV (As := [.int x1]) (rest := []) F E Z hl G_X6_91 hM (i := 97) (by decide) (ig_k_97 _ _ _ _ _ _) rfl rfl md_X6_isPhase rfl ⟨rfl, rfl⟩ ⟨Nat.le_of_ble_eq_true rfl, Nat.le_of_ble_eq_true rfl⟩ (Nat.le_of_ble_eq_true rfl) dX6_ofPhase_2 ⟨Nat.le_of_ble_eq_true rfl, Nat.le_of_ble_eq_true rfl⟩) (fun r1 u H locs hf Z => ?_)
  refine lv_istore_n (lv' := [(3, .int r1), (0, .ref (ad 97)), (1, .int x1), (2, .int x2)]) F.1 F.2.1 dX6_ofPhase_5 rfl hl (by decide) rfl (fun ls hl => ?_)
  refine lv_aload_n F.1 F.2.1 dX6_ofPhase_6 rfl (lv_at hl 1 rfl) ?_
  refine lv_iload_n F.1 F.2.1 dX6_ofPhase_7 rfl (lv_at hl 0 rfl) ?_
  refine lv_if_ne (tgt := 15) F.1 F.2.1 dX6_ofPhase_8 (by decide) (fun c_2 => ?_) (fun c_2 => ?_)
  · have hf := hf.1 c_2
    refine lv_iload_n F.1 F.2.1 dX6_ofPhase_15 rfl (lv_at hl 3 rfl) ?_
    refine lv_iconst (v := 0) F.1 F.2.1 dX6_ofPhase_16 (by decide) ?_
    refine lv_bipush (v := 6) F.1 F.2.1 dX6_ofPhase_17 (by decide) ?_
    have hM := k_X6_in l (D := D) (kk := kk) (ad := ad) (bs := bs) (a := a) (la := la) (b := b) (lb := lb) (lo := lo) x2 0 6 hf
    refine ig_calli E Z (ig_runS (As := [.int x2, .int 0, .int 6]) (rest := [.ref (ad 97)]) F E Z hl G_X6_72 hM rfl md_X6_in rfl ⟨rfl, rfl⟩ ⟨Nat.le_of_ble_eq_true rfl, Nat.le_of_ble_eq_true rfl⟩ (Nat.le_of_ble_eq_true rfl) dX6_ofPhase_19 ⟨Nat.le_of_ble_eq_true rfl, Nat.le_of_ble_eq_true rfl⟩) (fun r3 u H locs hf Z => ?_)
    refine lv_if_eq (tgt := 29) F.1 F.2.1 dX6_ofPhase_22 (by decide) (fun c_4 => ?_) (fun c_4 => ?_)
    · have hf := hf.1 c_4
      refine lv_iconst (v := 2) F.1 F.2.1 dX6_ofPhase_29 (by decide) ?_
      exact wm_X6_ofPhase_30 F E hr hk post b lb x1 x2 2 _ _ _ hf Z (lv_sub hl [1, 2, 3] rfl)
    · have hf := hf.2 c_4
      refine lv_iconst (v := 0) F.1 F.2.1 dX6_ofPhase_25 (by decide) ?_
      refine lv_goto (tgt := 30) F.1 F.2.1 dX6_ofPhase_26 (by decide) ?_
      exact wm_X6_ofPhase_30 F E hr hk post b lb x1 x2 0 _ _ _ hf Z (lv_sub hl [1, 2, 3] rfl)
  · have hf := hf.2 c_2
    refine lv_iconst (v := 1) F.1 F.2.1 dX6_ofPhase_11 (by decide) ?_
    refine lv_goto (tgt := 30) F.1 F.2.1 dX6_ofPhase_12 (by decide) ?_
    exact wm_X6_ofPhase_30 F E hr hk post b lb x1 x2 1 _ _ _ hf Z (lv_sub hl [1, 2, 3] rfl)
set_option maxHeartbeats 4000000 in
set_option maxRecDepth 100000 in
theorem wm_X6_of_15 (F : CallFix p m c cX6_of 2 s args ig_all RX6) (E : ig_E D kk ad bs s) (hr : meth.sig.returnType = (some .int)) (hk : meth.locks = false) (post : Int32 → ig_M → Int64 → Prop) :
    ∀ (b : ig_M) (lb : Int64) (x1 : Int32) (t0 : Int32) (H : Heap) (locs : List Loc) (ls : Array Slot), wp_X6_of_15 post b lb x1 t0 → ig_Z D kk ad bs s H locs a la b lb lo → lv_has ls 2 [(0, .ref (ad 97)), (1, .int x1)] → W p l e (k2_rm 1 22) s m args below meth c H locs 0 0 (MQ below (va_Qi (fun (r : Int32) (u : ig_M × Int64) => post r u.1 u.2) (fun u t => ig_Wd D kk ad bs a la u.1 u.2 lo t) (ig_A bs)) args s 0 0 (ig_A bs)) (F0 m 15 ls [.int t0, .ref (ad 97)]) := by
  intro b lb x1 t0 H locs ls hf Z hl
  have hM := k_X6_goesWell l (D := D) (kk := kk) (ad := ad) (bs := bs) (a := a) (la := la) (b := b) (lb := lb) (lo := lo) t0 hf
  refine ig_calli E Z (ig_runV (As := [.int t0]) (rest := []) F E Z hl G_X6_83 hM (i := 97) (by decide) (ig_k_97 _ _ _ _ _ _) rfl rfl md_X6_goesWell rfl ⟨rfl, rfl⟩ ⟨Nat.le_of_ble_eq_true rfl, Nat.le_of_ble_eq_true rfl⟩ (Nat.le_of_ble_eq_true rfl) dX6_of_15 ⟨Nat.le_of_ble_eq_true rfl, Nat.le_of_ble_eq_true rfl⟩) (fun r3 u H locs hf Z => ?_)
  obtain ⟨b4, lb5⟩ := u
  have Z : ig_Z D kk ad bs s H locs a la b4 lb5 lo := Z
  refine lv_if_ne (tgt := 23) F.1 F.2.1 dX6_of_18 (by decide) (fun c_6 => ?_) (fun c_6 => ?_)
  · have hf := hf.1 c_6
    refine lv_iload_n F.1 F.2.1 dX6_of_23 rfl (lv_at hl 1 rfl) ?_
    refine lv_if_ne (tgt := 34) F.1 F.2.1 dX6_of_24 (by decide) (fun c_7 => ?_) (fun c_7 => ?_)
    · have hf := hf.1 c_7
      refine lv_iload_n F.1 F.2.1 dX6_of_34 rfl (lv_at hl 1 rfl) ?_
      refine lv_iconst (v := 1) F.1 F.2.1 dX6_of_35 (by decide) ?_
      refine lv_icmp_ne (tgt := 66) F.1 F.2.1 dX6_of_36 (by decide) (fun c_8 => ?_) (fun c_8 => ?_)
      · have hf := hf.1 c_8
        refine lv_iload_n F.1 F.2.1 dX6_of_66 rfl (lv_at hl 1 rfl) ?_
        refine lv_iconst (v := 2) F.1 F.2.1 dX6_of_67 (by decide) ?_
        refine lv_icmp_ne (tgt := 78) F.1 F.2.1 dX6_of_68 (by decide) (fun c_9 => ?_) (fun c_9 => ?_)
        · have hf := hf.1 c_9
          refine lv_iload_n F.1 F.2.1 dX6_of_78 rfl (lv_at hl 1 rfl) ?_
          refine lv_iconst (v := 3) F.1 F.2.1 dX6_of_79 (by decide) ?_
          refine lv_icmp_ne (tgt := 90) F.1 F.2.1 dX6_of_80 (by decide) (fun c_10 => ?_) (fun c_10 => ?_)
          · have hf := hf.1 c_10
            refine lv_aload_n F.1 F.2.1 dX6_of_90 rfl (lv_at hl 0 rfl) ?_
            refine gf_X6_132 F E Z dX6_of_91 ?_
            exact W.iret (v := b4 97 22) F.1 F.2.1 hr (fun t ht hW => ⟨⟨_, (b4, lb5), rfl, hf, Z.wd E ht hW⟩, Z.fr ht⟩) Z.2.2.2 dX6_of_94
          · have hf := hf.2 c_10
            refine lv_aload_n F.1 F.2.1 dX6_of_83 rfl (lv_at hl 0 rfl) ?_
            refine gf_X6_53 F E Z dX6_of_84 ?_
            refine lv_goto (tgt := 94) F.1 F.2.1 dX6_of_87 (by decide) ?_
            exact W.iret (v := b4 97 21) F.1 F.2.1 hr (fun t ht hW => ⟨⟨_, (b4, lb5), rfl, hf, Z.wd E ht hW⟩, Z.fr ht⟩) Z.2.2.2 dX6_of_94
        · have hf := hf.2 c_9
          refine lv_aload_n F.1 F.2.1 dX6_of_71 rfl (lv_at hl 0 rfl) ?_
          refine gf_X6_109 F E Z dX6_of_72 ?_
          refine lv_goto (tgt := 94) F.1 F.2.1 dX6_of_75 (by decide) ?_
          exact W.iret (v := b4 97 11) F.1 F.2.1 hr (fun t ht hW => ⟨⟨_, (b4, lb5), rfl, hf, Z.wd E ht hW⟩, Z.fr ht⟩) Z.2.2.2 dX6_of_94
      · have hf := hf.2 c_8
        refine lv_aload_n F.1 F.2.1 dX6_of_39 rfl (lv_at hl 0 rfl) ?_
        refine gf_X6_103 F E Z dX6_of_40 ?_
        refine lv_iconst (v := 2) F.1 F.2.1 dX6_of_43 (by decide) ?_
        refine lv_icmp_eq (tgt := 55) F.1 F.2.1 dX6_of_44 (by decide) (fun c_11 => ?_) (fun c_11 => ?_)
        · have hf := hf.1 c_11
          refine lv_aload_n F.1 F.2.1 dX6_of_55 rfl (lv_at hl 0 rfl) ?_
          refine gf_X6_106 F E Z dX6_of_56 ?_
          refine lv_goto (tgt := 94) F.1 F.2.1 dX6_of_59 (by decide) ?_
          exact W.iret (v := b4 97 10) F.1 F.2.1 hr (fun t ht hW => ⟨⟨_, (b4, lb5), rfl, hf, Z.wd E ht hW⟩, Z.fr ht⟩) Z.2.2.2 dX6_of_94
        · have hf := hf.2 c_11
          refine lv_aload_n F.1 F.2.1 dX6_of_47 rfl (lv_at hl 0 rfl) ?_
          refine gf_X6_103 F E Z dX6_of_48 ?_
          refine lv_iconst (v := 1) F.1 F.2.1 dX6_of_51 (by decide) ?_
          refine lv_icmp_ne (tgt := 62) F.1 F.2.1 dX6_of_52 (by decide) (fun c_12 => ?_) (fun c_12 => ?_)
          · have hf := hf.1 c_12
            refine lv_iconst (v := (-1)) F.1 F.2.1 dX6_of_62 (by decide) ?_
            refine lv_goto (tgt := 94) F.1 F.2.1 dX6_of_63 (by decide) ?_
            exact W.iret (v := (-1)) F.1 F.2.1 hr (fun t ht hW => ⟨⟨_, (b4, lb5), rfl, hf, Z.wd E ht hW⟩, Z.fr ht⟩) Z.2.2.2 dX6_of_94
          · have hf := hf.2 c_12
            refine lv_aload_n F.1 F.2.1 dX6_of_55 rfl (lv_at hl 0 rfl) ?_
            refine gf_X6_106 F E Z dX6_of_56 ?_
            refine lv_goto (tgt := 94) F.1 F.2.1 dX6_of_59 (by decide) ?_
            exact W.iret (v := b4 97 10) F.1 F.2.1 hr (fun t ht hW => ⟨⟨_, (b4, lb5), rfl, hf, Z.wd E ht hW⟩, Z.fr ht⟩) Z.2.2.2 dX6_of_94
    · have hf := hf.2 c_7
      refine lv_aload_n F.1 F.2.1 dX6_of_27 rfl (lv_at hl 0 rfl) ?_
      refine gf_X6_103 F E Z dX6_of_28 ?_
      refine lv_goto (tgt := 94) F.1 F.2.1 dX6_of_31 (by decide) ?_
      exact W.iret (v := b4 97 9) F.1 F.2.1 hr (fun t ht hW => ⟨⟨_, (b4, lb5), rfl, hf, Z.wd E ht hW⟩, Z.fr ht⟩) Z.2.2.2 dX6_of_94
  · have hf := hf.2 c_6
    refine lv_iconst (v := 0) F.1 F.2.1 dX6_of_21 (by decide) ?_
    exact W.iret (v := 0) F.1 F.2.1 hr (fun t ht hW => ⟨⟨_, (b4, lb5), rfl, hf, Z.wd E ht hW⟩, Z.fr ht⟩) Z.2.2.2 dX6_of_22
set_option maxHeartbeats 4000000 in
set_option maxRecDepth 100000 in
theorem k_X6_of (l : Launch) {D : va_G} {kk : Nat → ClassId} {ad : Nat → Nat} {bs : Nat} {a : ig_M} {la : Int64} {b : ig_M} {lb lo : Int64} (x1 : Int32) {post : Int32 → ig_M → Int64 → Prop} (hf : wp_X6_of b lb x1 post) : Met l yX6_of (ig_ws yX6_of cX6_of 2 (some .int)) (k2_rm 1 22) (va_Pc [.ref (ad 97), .int x1] (ig_Wd D kk ad bs a la b lb lo)) (va_Qi (fun (r : Int32) (u : ig_M × Int64) => post r u.1 u.2) (fun u t => ig_Wd D kk ad bs a la u.1 u.2 lo t) (ig_A bs)) 0 0 (ig_A bs) := by
  refine Met.ofW (cc := cX6_of) (maxL := 2) (ret := (some .int)) (by decide) rfl ?_
  intro p e s m args below meth c s₁ B hml hv
  obtain ⟨rfl, E, hP⟩ := hv
  have hk := B.notSynchronized
  have hr := B.returns
  have F : CallFix p m c cX6_of 2 s _ ig_all RX6 := ⟨B.exec, B.bytes, hml, findClass_of_methodNamed B.named, fun w hw => atoms_spec B.pre w (List.mem_cons_of_mem _ hw)⟩
  have Z : ig_Z D kk ad bs s s.heap [] a la b lb lo := ig_Z.rf hP
  have hl := lv_entry ([.ref (ad 97), .int x1]) (n := 2) (Nat.le_of_ble_eq_true rfl)
  rw [lg_entry_eq]
  generalize (lg_sl ([.ref (ad 97), .int x1]) ++ List.replicate (2 - (lg_sl ([.ref (ad 97), .int x1])).length) Slot.unset).toArray = ls at hl ⊢
  have hl : lv_has ls 2 [(0, .ref (ad 97)), (1, .int x1)] := hl
  refine lv_aload_n F.1 F.2.1 dX6_of_0 rfl (lv_at hl 0 rfl) ?_
  refine lv_iload_n F.1 F.2.1 dX6_of_1 rfl (lv_at hl 1 rfl) ?_
  refine lv_iconst (v := 0) F.1 F.2.1 dX6_of_2 (by decide) ?_
  refine lv_iconst (v := 4) F.1 F.2.1 dX6_of_3 (by decide) ?_
  have hM := k_X6_in l (D := D) (kk := kk) (ad := ad) (bs := bs) (a := a) (la := la) (b := b) (lb := lb) (lo := lo) x1 0 4 hf
  refine ig_calli E Z (ig_runS (As := [.int x1, .int 0, .int 4]) (rest := [.ref (ad 97)]) F E Z hl G_X6_72 hM rfl md_X6_in rfl ⟨rfl, rfl⟩ ⟨Nat.le_of_ble_eq_true rfl, Nat.le_of_ble_eq_true rfl⟩ (Nat.le_of_ble_eq_true rfl) dX6_of_4 ⟨Nat.le_of_ble_eq_true rfl, Nat.le_of_ble_eq_true rfl⟩) (fun r1 u H locs hf Z => ?_)
  refine lv_if_eq (tgt := 14) F.1 F.2.1 dX6_of_7 (by decide) (fun c_2 => ?_) (fun c_2 => ?_)
  · have hf := hf.1 c_2
    refine lv_iconst (v := 1) F.1 F.2.1 dX6_of_14 (by decide) ?_
    exact wm_X6_of_15 F E hr hk post b lb x1 1 _ _ _ hf Z (lv_sub hl [0, 1] rfl)
  · have hf := hf.2 c_2
    refine lv_iconst (v := 0) F.1 F.2.1 dX6_of_10 (by decide) ?_
    refine lv_goto (tgt := 15) F.1 F.2.1 dX6_of_11 (by decide) ?_
    exact wm_X6_of_15 F E hr hk post b lb x1 0 _ _ _ hf Z (lv_sub hl [0, 1] rfl)
set_option maxHeartbeats 4000000 in
set_option maxRecDepth 100000 in
theorem k_X6_delay (l : Launch) {D : va_G} {kk : Nat → ClassId} {ad : Nat → Nat} {bs : Nat} {a : ig_M} {la : Int64} {b : ig_M} {lb lo : Int64} {post : Int64 → ig_M → Int64 → Prop} (hf : wp_X6_delay b lb post) : Met l yX6_delay (ig_ws yX6_delay cX6_delay 1 (some .long)) (k2_rm 0 0) (va_Pc [.ref (ad 97)] (ig_Wd D kk ad bs a la b lb lo)) (va_Ql (fun (r : Int64) (u : ig_M × Int64) => post r u.1 u.2) (fun u t => ig_Wd D kk ad bs a la u.1 u.2 lo t) (ig_A bs)) 0 0 (ig_A bs) := by
  refine Met.ofW (cc := cX6_delay) (maxL := 1) (ret := (some .long)) (by decide) rfl ?_
  intro p e s m args below meth c s₁ B hml hv
  obtain ⟨rfl, E, hP⟩ := hv
  have hk := B.notSynchronized
  have hr := B.returns
  have F : CallFix p m c cX6_delay 1 s _ ig_all RX6 := ⟨B.exec, B.bytes, hml, findClass_of_methodNamed B.named, fun w hw => atoms_spec B.pre w (List.mem_cons_of_mem _ hw)⟩
  have Z : ig_Z D kk ad bs s s.heap [] a la b lb lo := ig_Z.rf hP
  have hl := lv_entry ([.ref (ad 97)]) (n := 1) (Nat.le_of_ble_eq_true rfl)
  rw [lg_entry_eq]
  generalize (lg_sl ([.ref (ad 97)]) ++ List.replicate (1 - (lg_sl ([.ref (ad 97)])).length) Slot.unset).toArray = ls at hl ⊢
  have hl : lv_has ls 1 [(0, .ref (ad 97))] := hl
  refine lv_aload_n F.1 F.2.1 dX6_delay_0 rfl (lv_at hl 0 rfl) ?_
  refine lv_iconst (v := 0) F.1 F.2.1 dX6_delay_1 (by decide) ?_
  refine pf_X6_66 F E Z dX6_delay_2 (fun H locs b1 hb1 Z => ?_)
  have hf := hf b1 hb1
  refine lv_aload_n F.1 F.2.1 dX6_delay_5 rfl (lv_at hl 0 rfl) ?_
  refine gf_X6_151 F E Z dX6_delay_6 ?_
  exact W.lret F.1 F.2.1 hr (fun t ht hW => ⟨⟨lb, (b1, lb), rfl, hf, Z.wd E ht hW⟩, Z.fr ht⟩) Z.2.2.2 dX6_delay_9
set_option maxHeartbeats 4000000 in
set_option maxRecDepth 100000 in
theorem wm_X6_seen_20 (F : CallFix p m c cX6_seen 9 s args ig_all RX6) (E : ig_E D kk ad bs s) (hr : meth.sig.returnType = (some .int)) (hk : meth.locks = false) (k_21 : ig_M → Int64 → Int32 → Int32 → Int32 → Prop) (post : Int32 → ig_M → Int64 → Prop) (h_21 : ∀ (b : ig_M) (lb : Int64) (x1 : Int32) (x2 : Int32) (t0 : Int32) (H : Heap) (locs : List Loc) (ls : Array Slot), k_21 b lb x1 x2 t0 → ig_Z D kk ad bs s H locs a la b lb lo → lv_has ls 9 [(0, .ref (ad 97)), (1, .int x1), (2, .int x2)] → W p l e (k2_rm 2 43) s m args below meth c H locs 0 0 (MQ below (va_Qi (fun (r : Int32) (u : ig_M × Int64) => post r u.1 u.2) (fun u t => ig_Wd D kk ad bs a la u.1 u.2 lo t) (ig_A bs)) args s 0 0 (ig_A bs)) (F0 m 21 ls [.int t0])) :
    ∀ (b : ig_M) (lb : Int64) (x1 : Int32) (x2 : Int32) (H : Heap) (locs : List Loc) (ls : Array Slot), wp_X6_seen_20 k_21 post b lb x1 x2 → ig_Z D kk ad bs s H locs a la b lb lo → lv_has ls 9 [(0, .ref (ad 97)), (1, .int x1), (2, .int x2)] → W p l e (k2_rm 2 43) s m args below meth c H locs 0 0 (MQ below (va_Qi (fun (r : Int32) (u : ig_M × Int64) => post r u.1 u.2) (fun u t => ig_Wd D kk ad bs a la u.1 u.2 lo t) (ig_A bs)) args s 0 0 (ig_A bs)) (F0 m 20 ls []) := by
  intro b lb x1 x2 H locs ls hf Z hl
  refine lv_iconst (v := 0) F.1 F.2.1 dX6_seen_20 (by decide) ?_
  exact h_21 b lb x1 x2 0 _ _ _ hf Z (lv_sub hl [0, 1, 2] rfl)
set_option maxHeartbeats 4000000 in
set_option maxRecDepth 100000 in
theorem wm_X6_seen_96 (F : CallFix p m c cX6_seen 9 s args ig_all RX6) (E : ig_E D kk ad bs s) (hr : meth.sig.returnType = (some .int)) (hk : meth.locks = false) (k_101 : ig_M → Int64 → Int32 → Int32 → Int32 → Int32 → Int32 → Int32 → Prop) (post : Int32 → ig_M → Int64 → Prop) (h_101 : ∀ (b : ig_M) (lb : Int64) (x1 : Int32) (x2 : Int32) (x4 : Int32) (x5 : Int32) (x6 : Int32) (t0 : Int32) (H : Heap) (locs : List Loc) (ls : Array Slot), k_101 b lb x1 x2 x4 x5 x6 t0 → ig_Z D kk ad bs s H locs a la b lb lo → lv_has ls 9 [(0, .ref (ad 97)), (1, .int x1), (2, .int x2), (4, .int x4), (5, .int x5), (6, .int x6)] → W p l e (k2_rm 2 43) s m args below meth c H locs 0 0 (MQ below (va_Qi (fun (r : Int32) (u : ig_M × Int64) => post r u.1 u.2) (fun u t => ig_Wd D kk ad bs a la u.1 u.2 lo t) (ig_A bs)) args s 0 0 (ig_A bs)) (F0 m 101 ls [.int t0])) :
    ∀ (b : ig_M) (lb : Int64) (x1 : Int32) (x2 : Int32) (x4 : Int32) (x5 : Int32) (x6 : Int32) (H : Heap) (locs : List Loc) (ls : Array Slot), wp_X6_seen_96 k_101 post b lb x1 x2 x4 x5 x6 → ig_Z D kk ad bs s H locs a la b lb lo → lv_has ls 9 [(0, .ref (ad 97)), (1, .int x1), (2, .int x2), (4, .int x4), (5, .int x5), (6, .int x6)] → W p l e (k2_rm 2 43) s m args below meth c H locs 0 0 (MQ below (va_Qi (fun (r : Int32) (u : ig_M × Int64) => post r u.1 u.2) (fun u t => ig_Wd D kk ad bs a la u.1 u.2 lo t) (ig_A bs)) args s 0 0 (ig_A bs)) (F0 m 96 ls []) := by
  intro b lb x1 x2 x4 x5 x6 H locs ls hf Z hl
  refine lv_iconst (v := 1) F.1 F.2.1 dX6_seen_96 (by decide) ?_
  refine lv_goto (tgt := 101) F.1 F.2.1 dX6_seen_97 (by decide) ?_
  exact h_101 b lb x1 x2 x4 x5 x6 1 _ _ _ hf Z (lv_sub hl [0, 1, 2, 3, 4, 5] rfl)
set_option maxHeartbeats 4000000 in
set_option maxRecDepth 100000 in
theorem wm_X6_seen_100 (F : CallFix p m c cX6_seen 9 s args ig_all RX6) (E : ig_E D kk ad bs s) (hr : meth.sig.returnType = (some .int)) (hk : meth.locks = false) (k_101 : ig_M → Int64 → Int32 → Int32 → Int32 → Int32 → Int32 → Int32 → Prop) (post : Int32 → ig_M → Int64 → Prop) (h_101 : ∀ (b : ig_M) (lb : Int64) (x1 : Int32) (x2 : Int32) (x4 : Int32) (x5 : Int32) (x6 : Int32) (t0 : Int32) (H : Heap) (locs : List Loc) (ls : Array Slot), k_101 b lb x1 x2 x4 x5 x6 t0 → ig_Z D kk ad bs s H locs a la b lb lo → lv_has ls 9 [(0, .ref (ad 97)), (1, .int x1), (2, .int x2), (4, .int x4), (5, .int x5), (6, .int x6)] → W p l e (k2_rm 2 43) s m args below meth c H locs 0 0 (MQ below (va_Qi (fun (r : Int32) (u : ig_M × Int64) => post r u.1 u.2) (fun u t => ig_Wd D kk ad bs a la u.1 u.2 lo t) (ig_A bs)) args s 0 0 (ig_A bs)) (F0 m 101 ls [.int t0])) :
    ∀ (b : ig_M) (lb : Int64) (x1 : Int32) (x2 : Int32) (x4 : Int32) (x5 : Int32) (x6 : Int32) (H : Heap) (locs : List Loc) (ls : Array Slot), wp_X6_seen_100 k_101 post b lb x1 x2 x4 x5 x6 → ig_Z D kk ad bs s H locs a la b lb lo → lv_has ls 9 [(0, .ref (ad 97)), (1, .int x1), (2, .int x2), (4, .int x4), (5, .int x5), (6, .int x6)] → W p l e (k2_rm 2 43) s m args below meth c H locs 0 0 (MQ below (va_Qi (fun (r : Int32) (u : ig_M × Int64) => post r u.1 u.2) (fun u t => ig_Wd D kk ad bs a la u.1 u.2 lo t) (ig_A bs)) args s 0 0 (ig_A bs)) (F0 m 100 ls []) := by
  intro b lb x1 x2 x4 x5 x6 H locs ls hf Z hl
  refine lv_iconst (v := 0) F.1 F.2.1 dX6_seen_100 (by decide) ?_
  exact h_101 b lb x1 x2 x4 x5 x6 0 _ _ _ hf Z (lv_sub hl [0, 1, 2, 3, 4, 5] rfl)
set_option maxHeartbeats 4000000 in
set_option maxRecDepth 100000 in
theorem wm_X6_seen_136 (F : CallFix p m c cX6_seen 9 s args ig_all RX6) (E : ig_E D kk ad bs s) (hr : meth.sig.returnType = (some .int)) (hk : meth.locks = false) (k_143 : ig_M → Int64 → Int32 → Int32 → Int32 → Int32 → Int32 → Prop) (post : Int32 → ig_M → Int64 → Prop) (h_143 : ∀ (b : ig_M) (lb : Int64) (x1 : Int32) (x2 : Int32) (x5 : Int32) (x6 : Int32) (t0 : Int32) (H : Heap) (locs : List Loc) (ls : Array Slot), k_143 b lb x1 x2 x5 x6 t0 → ig_Z D kk ad bs s H locs a la b lb lo → lv_has ls 9 [(0, .ref (ad 97)), (1, .int x1), (2, .int x2), (5, .int x5), (6, .int x6)] → W p l e (k2_rm 2 43) s m args below meth c H locs 0 0 (MQ below (va_Qi (fun (r : Int32) (u : ig_M × Int64) => post r u.1 u.2) (fun u t => ig_Wd D kk ad bs a la u.1 u.2 lo t) (ig_A bs)) args s 0 0 (ig_A bs)) (F0 m 143 ls [.int t0])) :
    ∀ (b : ig_M) (lb : Int64) (x1 : Int32) (x2 : Int32) (x5 : Int32) (x6 : Int32) (x8 : Int32) (H : Heap) (locs : List Loc) (ls : Array Slot), wp_X6_seen_136 k_143 post b lb x1 x2 x5 x6 x8 → ig_Z D kk ad bs s H locs a la b lb lo → lv_has ls 9 [(0, .ref (ad 97)), (1, .int x1), (2, .int x2), (5, .int x5), (6, .int x6), (8, .int x8)] → W p l e (k2_rm 2 43) s m args below meth c H locs 0 0 (MQ below (va_Qi (fun (r : Int32) (u : ig_M × Int64) => post r u.1 u.2) (fun u t => ig_Wd D kk ad bs a la u.1 u.2 lo t) (ig_A bs)) args s 0 0 (ig_A bs)) (F0 m 136 ls []) := by
  intro b lb x1 x2 x5 x6 x8 H locs ls hf Z hl
  refine lv_iload F.1 F.2.1 dX6_seen_136 (lv_at hl 5 rfl) ?_
  refine lv_goto (tgt := 143) F.1 F.2.1 dX6_seen_138 (by decide) ?_
  exact h_143 b lb x1 x2 x5 x6 x8 _ _ _ hf Z (lv_sub hl [0, 1, 2, 3, 4] rfl)
set_option maxHeartbeats 4000000 in
set_option maxRecDepth 100000 in
theorem wm_X6_seen_141 (F : CallFix p m c cX6_seen 9 s args ig_all RX6) (E : ig_E D kk ad bs s) (hr : meth.sig.returnType = (some .int)) (hk : meth.locks = false) (k_143 : ig_M → Int64 → Int32 → Int32 → Int32 → Int32 → Int32 → Prop) (post : Int32 → ig_M → Int64 → Prop) (h_143 : ∀ (b : ig_M) (lb : Int64) (x1 : Int32) (x2 : Int32) (x5 : Int32) (x6 : Int32) (t0 : Int32) (H : Heap) (locs : List Loc) (ls : Array Slot), k_143 b lb x1 x2 x5 x6 t0 → ig_Z D kk ad bs s H locs a la b lb lo → lv_has ls 9 [(0, .ref (ad 97)), (1, .int x1), (2, .int x2), (5, .int x5), (6, .int x6)] → W p l e (k2_rm 2 43) s m args below meth c H locs 0 0 (MQ below (va_Qi (fun (r : Int32) (u : ig_M × Int64) => post r u.1 u.2) (fun u t => ig_Wd D kk ad bs a la u.1 u.2 lo t) (ig_A bs)) args s 0 0 (ig_A bs)) (F0 m 143 ls [.int t0])) :
    ∀ (b : ig_M) (lb : Int64) (x1 : Int32) (x2 : Int32) (x4 : Int32) (x5 : Int32) (x6 : Int32) (H : Heap) (locs : List Loc) (ls : Array Slot), wp_X6_seen_141 k_143 post b lb x1 x2 x4 x5 x6 → ig_Z D kk ad bs s H locs a la b lb lo → lv_has ls 9 [(0, .ref (ad 97)), (1, .int x1), (2, .int x2), (4, .int x4), (5, .int x5), (6, .int x6)] → W p l e (k2_rm 2 43) s m args below meth c H locs 0 0 (MQ below (va_Qi (fun (r : Int32) (u : ig_M × Int64) => post r u.1 u.2) (fun u t => ig_Wd D kk ad bs a la u.1 u.2 lo t) (ig_A bs)) args s 0 0 (ig_A bs)) (F0 m 141 ls []) := by
  intro b lb x1 x2 x4 x5 x6 H locs ls hf Z hl
  refine lv_iload F.1 F.2.1 dX6_seen_141 (lv_at hl 3 rfl) ?_
  exact h_143 b lb x1 x2 x5 x6 x4 _ _ _ hf Z (lv_sub hl [0, 1, 2, 4, 5] rfl)
set_option maxHeartbeats 4000000 in
set_option maxRecDepth 100000 in
theorem wm_X6_seen_143 (F : CallFix p m c cX6_seen 9 s args ig_all RX6) (E : ig_E D kk ad bs s) (hr : meth.sig.returnType = (some .int)) (hk : meth.locks = false) (k_58 : ig_M → Int64 → Int32 → Int32 → Int32 → Int32 → Int32 → Prop) (post : Int32 → ig_M → Int64 → Prop) (h_58 : ∀ (b : ig_M) (lb : Int64) (x1 : Int32) (x2 : Int32) (x4 : Int32) (x5 : Int32) (x6 : Int32) (H : Heap) (locs : List Loc) (ls : Array Slot), k_58 b lb x1 x2 x4 x5 x6 → ig_Z D kk ad bs s H locs a la b lb lo → lv_has ls 9 [(0, .ref (ad 97)), (1, .int x1), (2, .int x2), (4, .int x4), (5, .int x5), (6, .int x6)] → W p l e (k2_rm 2 43) s m args below meth c H locs 0 0 (MQ below (va_Qi (fun (r : Int32) (u : ig_M × Int64) => post r u.1 u.2) (fun u t => ig_Wd D kk ad bs a la u.1 u.2 lo t) (ig_A bs)) args s 0 0 (ig_A bs)) (F0 m 58 ls [])) :
    ∀ (b : ig_M) (lb : Int64) (x1 : Int32) (x2 : Int32) (x5 : Int32) (x6 : Int32) (t0 : Int32) (H : Heap) (locs : List Loc) (ls : Array Slot), wp_X6_seen_143 k_58 post b lb x1 x2 x5 x6 t0 → ig_Z D kk ad bs s H locs a la b lb lo → lv_has ls 9 [(0, .ref (ad 97)), (1, .int x1), (2, .int x2), (5, .int x5), (6, .int x6)] → W p l e (k2_rm 2 43) s m args below meth c H locs 0 0 (MQ below (va_Qi (fun (r : Int32) (u : ig_M × Int64) => post r u.1 u.2) (fun u t => ig_Wd D kk ad bs a la u.1 u.2 lo t) (ig_A bs)) args s 0 0 (ig_A bs)) (F0 m 143 ls [.int t0]) := by
  intro b lb x1 x2 x5 x6 t0 H locs ls hf Z hl
  refine lv_istore (lv' := [(4, .int t0), (0, .ref (ad 97)), (1, .int x1), (2, .int x2), (5, .int x5), (6, .int x6)]) F.1 F.2.1 dX6_seen_143 hl (by decide) rfl (fun ls hl => ?_)
  refine lv_aload_n F.1 F.2.1 dX6_seen_145 rfl (lv_at hl 1 rfl) ?_
  refine lv_iload_n F.1 F.2.1 dX6_seen_146 rfl (lv_at hl 2 rfl) ?_
  refine lv_iload F.1 F.2.1 dX6_seen_147 (lv_at hl 5 rfl) ?_
  have hM := k_X6_shown l (D := D) (kk := kk) (ad := ad) (bs := bs) (a := a) (la := la) (b := b) (lb := lb) (lo := lo) x1 x6 hf
  refine ig_calli E Z (ig_runV (As := [.int x1, .int x6]) (rest := []) F E Z hl G_X6_158 hM (i := 97) (by decide) (ig_k_97 _ _ _ _ _ _) rfl rfl md_X6_shown rfl ⟨rfl, rfl⟩ ⟨Nat.le_of_ble_eq_true rfl, Nat.le_of_ble_eq_true rfl⟩ (Nat.le_of_ble_eq_true rfl) dX6_seen_149 ⟨Nat.le_of_ble_eq_true rfl, Nat.le_of_ble_eq_true rfl⟩) (fun r21 u H locs hf Z => ?_)
  refine lv_iconst (v := 1) F.1 F.2.1 dX6_seen_152 (by decide) ?_
  refine lv_icmp_ne (tgt := 161) F.1 F.2.1 dX6_seen_153 (by decide) (fun c_22 => ?_) (fun c_22 => ?_)
  · have hf := hf.1 c_22
    refine lv_iload F.1 F.2.1 dX6_seen_161 (lv_at hl 4 rfl) ?_
    refine lv_istore (lv' := [(5, .int x5), (4, .int t0), (0, .ref (ad 97)), (1, .int x1), (2, .int x2), (6, .int x6)]) F.1 F.2.1 dX6_seen_163 hl (by decide) rfl (fun ls hl => ?_)
    refine lv_iinc (v := x6 + 1) (lv' := [(6, .int (x6 + 1)), (5, .int x5), (4, .int t0), (0, .ref (ad 97)), (1, .int x1), (2, .int x2)]) F.1 F.2.1 dX6_seen_165 hl (k := 5) rfl (by rfl) (by decide) rfl (fun ls hl => ?_)
    refine lv_goto (tgt := 58) F.1 F.2.1 dX6_seen_168 (by decide) ?_
    exact h_58 b lb x1 x2 t0 x5 (x6 + 1) _ _ _ hf Z (lv_sub hl [3, 4, 5, 2, 1, 0] rfl)
  · have hf := hf.2 c_22
    refine lv_iload F.1 F.2.1 dX6_seen_156 (lv_at hl 5 rfl) ?_
    refine lv_goto (tgt := 163) F.1 F.2.1 dX6_seen_158 (by decide) ?_
    refine lv_istore (lv' := [(5, .int x6), (4, .int t0), (0, .ref (ad 97)), (1, .int x1), (2, .int x2), (6, .int x6)]) F.1 F.2.1 dX6_seen_163 hl (by decide) rfl (fun ls hl => ?_)
    refine lv_iinc (v := x6 + 1) (lv' := [(6, .int (x6 + 1)), (5, .int x6), (4, .int t0), (0, .ref (ad 97)), (1, .int x1), (2, .int x2)]) F.1 F.2.1 dX6_seen_165 hl (k := 5) rfl (by rfl) (by decide) rfl (fun ls hl => ?_)
    refine lv_goto (tgt := 58) F.1 F.2.1 dX6_seen_168 (by decide) ?_
    exact h_58 b lb x1 x2 t0 x6 (x6 + 1) _ _ _ hf Z (lv_sub hl [3, 4, 5, 2, 1, 0] rfl)
set_option maxHeartbeats 4000000 in
set_option maxRecDepth 100000 in
theorem wm_X6_seen_101 (F : CallFix p m c cX6_seen 9 s args ig_all RX6) (E : ig_E D kk ad bs s) (hr : meth.sig.returnType = (some .int)) (hk : meth.locks = false) (k_58 : ig_M → Int64 → Int32 → Int32 → Int32 → Int32 → Int32 → Prop) (post : Int32 → ig_M → Int64 → Prop) (h_58 : ∀ (b : ig_M) (lb : Int64) (x1 : Int32) (x2 : Int32) (x4 : Int32) (x5 : Int32) (x6 : Int32) (H : Heap) (locs : List Loc) (ls : Array Slot), k_58 b lb x1 x2 x4 x5 x6 → ig_Z D kk ad bs s H locs a la b lb lo → lv_has ls 9 [(0, .ref (ad 97)), (1, .int x1), (2, .int x2), (4, .int x4), (5, .int x5), (6, .int x6)] → W p l e (k2_rm 2 43) s m args below meth c H locs 0 0 (MQ below (va_Qi (fun (r : Int32) (u : ig_M × Int64) => post r u.1 u.2) (fun u t => ig_Wd D kk ad bs a la u.1 u.2 lo t) (ig_A bs)) args s 0 0 (ig_A bs)) (F0 m 58 ls [])) :
    ∀ (b : ig_M) (lb : Int64) (x1 : Int32) (x2 : Int32) (x4 : Int32) (x5 : Int32) (x6 : Int32) (t0 : Int32) (H : Heap) (locs : List Loc) (ls : Array Slot), wp_X6_seen_101 k_58 post b lb x1 x2 x4 x5 x6 t0 → ig_Z D kk ad bs s H locs a la b lb lo → lv_has ls 9 [(0, .ref (ad 97)), (1, .int x1), (2, .int x2), (4, .int x4), (5, .int x5), (6, .int x6)] → W p l e (k2_rm 2 43) s m args below meth c H locs 0 0 (MQ below (va_Qi (fun (r : Int32) (u : ig_M × Int64) => post r u.1 u.2) (fun u t => ig_Wd D kk ad bs a la u.1 u.2 lo t) (ig_A bs)) args s 0 0 (ig_A bs)) (F0 m 101 ls [.int t0]) := by
  intro b lb x1 x2 x4 x5 x6 t0 H locs ls hf Z hl
  refine lv_istore (lv' := [(7, .int t0), (0, .ref (ad 97)), (1, .int x1), (2, .int x2), (4, .int x4), (5, .int x5), (6, .int x6)]) F.1 F.2.1 dX6_seen_101 hl (by decide) rfl (fun ls hl => ?_)
  refine lv_iload F.1 F.2.1 dX6_seen_103 (lv_at hl 6 rfl) ?_
  refine lv_iload F.1 F.2.1 dX6_seen_105 (lv_at hl 5 rfl) ?_
  refine lv_isub F.1 F.2.1 dX6_seen_107 ?_
  refine lv_iconst (v := 1) F.1 F.2.1 dX6_seen_108 (by decide) ?_
  refine lv_isub F.1 F.2.1 dX6_seen_109 ?_
  refine lv_istore (lv' := [(8, .int ((x6 - x5) - 1)), (7, .int t0), (0, .ref (ad 97)), (1, .int x1), (2, .int x2), (4, .int x4), (5, .int x5), (6, .int x6)]) F.1 F.2.1 dX6_seen_110 hl (by decide) rfl (fun ls hl => ?_)
  refine lv_iload F.1 F.2.1 dX6_seen_112 (lv_at hl 1 rfl) ?_
  refine lv_if_eq (tgt := 141) F.1 F.2.1 dX6_seen_114 (by decide) (fun c_17 => ?_) (fun c_17 => ?_)
  · have hf := hf.1 c_17
    exact wm_X6_seen_141 F E hr hk (wp_X6_seen_143 k_58 post) post (fun v0 v1 v2 v3 v4 v5 v6 H locs ls  hf Z hl => wm_X6_seen_143 F E hr hk k_58 post h_58 v0 v1 v2 v3 v4 v5 v6 H locs ls  hf Z hl) b lb x1 x2 x4 x5 x6 _ _ _ hf Z (lv_sub hl [2, 3, 4, 5, 6, 7] rfl)
  · have hf := hf.2 c_17
    refine lv_iload F.1 F.2.1 dX6_seen_117 (lv_at hl 6 rfl) ?_
    refine lv_iconst (v := (-1)) F.1 F.2.1 dX6_seen_119 (by decide) ?_
    refine lv_icmp_eq (tgt := 141) F.1 F.2.1 dX6_seen_120 (by decide) (fun c_18 => ?_) (fun c_18 => ?_)
    · have hf := hf.1 c_18
      exact wm_X6_seen_141 F E hr hk (wp_X6_seen_143 k_58 post) post (fun v0 v1 v2 v3 v4 v5 v6 H locs ls  hf Z hl => wm_X6_seen_143 F E hr hk k_58 post h_58 v0 v1 v2 v3 v4 v5 v6 H locs ls  hf Z hl) b lb x1 x2 x4 x5 x6 _ _ _ hf Z (lv_sub hl [2, 3, 4, 5, 6, 7] rfl)
    · have hf := hf.2 c_18
      refine lv_iload F.1 F.2.1 dX6_seen_123 (lv_at hl 5 rfl) ?_
      refine lv_iconst (v := (-1)) F.1 F.2.1 dX6_seen_125 (by decide) ?_
      refine lv_icmp_eq (tgt := 136) F.1 F.2.1 dX6_seen_126 (by decide) (fun c_19 => ?_) (fun c_19 => ?_)
      · have hf := hf.1 c_19
        exact wm_X6_seen_136 F E hr hk (wp_X6_seen_143 k_58 post) post (fun v0 v1 v2 v3 v4 v5 v6 H locs ls  hf Z hl => wm_X6_seen_143 F E hr hk k_58 post h_58 v0 v1 v2 v3 v4 v5 v6 H locs ls  hf Z hl) b lb x1 x2 x5 x6 ((x6 - x5) - 1) _ _ _ hf Z (lv_sub hl [2, 3, 4, 6, 7, 0] rfl)
      · have hf := hf.2 c_19
        refine lv_iload F.1 F.2.1 dX6_seen_129 (lv_at hl 0 rfl) ?_
        refine lv_iload F.1 F.2.1 dX6_seen_131 (lv_at hl 5 rfl) ?_
        refine lv_icmp_ge (tgt := 141) F.1 F.2.1 dX6_seen_133 (by decide) (fun c_20 => ?_) (fun c_20 => ?_)
        · have hf := hf.1 c_20
          exact wm_X6_seen_141 F E hr hk (wp_X6_seen_143 k_58 post) post (fun v0 v1 v2 v3 v4 v5 v6 H locs ls  hf Z hl => wm_X6_seen_143 F E hr hk k_58 post h_58 v0 v1 v2 v3 v4 v5 v6 H locs ls  hf Z hl) b lb x1 x2 x4 x5 x6 _ _ _ hf Z (lv_sub hl [2, 3, 4, 5, 6, 7] rfl)
        · have hf := hf.2 c_20
          exact wm_X6_seen_136 F E hr hk (wp_X6_seen_143 k_58 post) post (fun v0 v1 v2 v3 v4 v5 v6 H locs ls  hf Z hl => wm_X6_seen_143 F E hr hk k_58 post h_58 v0 v1 v2 v3 v4 v5 v6 H locs ls  hf Z hl) b lb x1 x2 x5 x6 ((x6 - x5) - 1) _ _ _ hf Z (lv_sub hl [2, 3, 4, 6, 7, 0] rfl)
set_option maxHeartbeats 4000000 in
set_option maxRecDepth 100000 in
theorem wm_X6_seen_58 (F : CallFix p m c cX6_seen 9 s args ig_all RX6) (E : ig_E D kk ad bs s) (hr : meth.sig.returnType = (some .int)) (hk : meth.locks = false) (post : Int32 → ig_M → Int64 → Prop) :
    ∀ (n : Nat) (b : ig_M) (lb : Int64) (x1 : Int32) (x2 : Int32) (x4 : Int32) (x5 : Int32) (x6 : Int32) (H : Heap) (locs : List Loc) (ls : Array Slot), wp_X6_seen_58 post n b lb x1 x2 x4 x5 x6 → ig_Z D kk ad bs s H locs a la b lb lo → lv_has ls 9 [(0, .ref (ad 97)), (1, .int x1), (2, .int x2), (4, .int x4), (5, .int x5), (6, .int x6)] → W p l e (k2_rm 2 43) s m args below meth c H locs 0 0 (MQ below (va_Qi (fun (r : Int32) (u : ig_M × Int64) => post r u.1 u.2) (fun u t => ig_Wd D kk ad bs a la u.1 u.2 lo t) (ig_A bs)) args s 0 0 (ig_A bs)) (F0 m 58 ls []) := by
  intro n
  induction n with
  | zero => intro b lb x1 x2 x4 x5 x6 H locs ls hf Z hl; exact False.elim hf
  | succ n ih =>
    intro b lb x1 x2 x4 x5 x6 H locs ls hf Z hl
    refine lv_iload F.1 F.2.1 dX6_seen_58 (lv_at hl 5 rfl) ?_
    refine lv_aload_n F.1 F.2.1 dX6_seen_60 rfl (lv_at hl 0 rfl) ?_
    refine gf_X6_109 F E Z dX6_seen_61 ?_
    refine lv_icmp_ge (tgt := 171) F.1 F.2.1 dX6_seen_64 (by decide) (fun c_11 => ?_) (fun c_11 => ?_)
    · have hf := hf.1 c_11
      refine lv_iload F.1 F.2.1 dX6_seen_171 (lv_at hl 3 rfl) ?_
      exact W.iret (v := x4) F.1 F.2.1 hr (fun t ht hW => ⟨⟨_, (b, lb), rfl, hf, Z.wd E ht hW⟩, Z.fr ht⟩) Z.2.2.2 dX6_seen_173
    · have hf := hf.2 c_11
      refine lv_aload_n F.1 F.2.1 dX6_seen_67 rfl (lv_at hl 0 rfl) ?_
      refine lv_iload_n F.1 F.2.1 dX6_seen_68 rfl (lv_at hl 2 rfl) ?_
      refine lv_iload F.1 F.2.1 dX6_seen_69 (lv_at hl 5 rfl) ?_
      have hM := k_X6_shown l (D := D) (kk := kk) (ad := ad) (bs := bs) (a := a) (la := la) (b := b) (lb := lb) (lo := lo) x2 x6 hf
      refine ig_calli E Z (ig_runV (As := [.int x2, .int x6]) (rest := []) F E Z hl G_X6_158 hM (i := 97) (by decide) (ig_k_97 _ _ _ _ _ _) rfl rfl md_X6_shown rfl ⟨rfl, rfl⟩ ⟨Nat.le_of_ble_eq_true rfl, Nat.le_of_ble_eq_true rfl⟩ (Nat.le_of_ble_eq_true rfl) dX6_seen_71 ⟨Nat.le_of_ble_eq_true rfl, Nat.le_of_ble_eq_true rfl⟩) (fun r12 u H locs hf Z => ?_)
      refine lv_iconst (v := 1) F.1 F.2.1 dX6_seen_74 (by decide) ?_
      refine lv_icmp_ne (tgt := 100) F.1 F.2.1 dX6_seen_75 (by decide) (fun c_13 => ?_) (fun c_13 => ?_)
      · have hf := hf.1 c_13
        exact wm_X6_seen_100 F E hr hk (wp_X6_seen_101 (fun (z0 : ig_M) (z1 : Int64) (z2 : Int32) (z3 : Int32) (z4 : Int32) (z5 : Int32) (z6 : Int32) => wp_X6_seen_58 post n z0 z1 z2 z3 z4 z5 z6) post) post (fun v0 v1 v2 v3 v4 v5 v6 v7 H locs ls  hf Z hl => wm_X6_seen_101 F E hr hk (fun (z0 : ig_M) (z1 : Int64) (z2 : Int32) (z3 : Int32) (z4 : Int32) (z5 : Int32) (z6 : Int32) => wp_X6_seen_58 post n z0 z1 z2 z3 z4 z5 z6) post ih v0 v1 v2 v3 v4 v5 v6 v7 H locs ls  hf Z hl) b lb x1 x2 x4 x5 x6 _ _ _ hf Z (lv_sub hl [0, 1, 2, 3, 4, 5] rfl)
      · have hf := hf.2 c_13
        refine lv_iload F.1 F.2.1 dX6_seen_78 (lv_at hl 5 rfl) ?_
        refine lv_if_eq (tgt := 96) F.1 F.2.1 dX6_seen_80 (by decide) (fun c_14 => ?_) (fun c_14 => ?_)
        · have hf := hf.1 c_14
          exact wm_X6_seen_96 F E hr hk (wp_X6_seen_101 (fun (z0 : ig_M) (z1 : Int64) (z2 : Int32) (z3 : Int32) (z4 : Int32) (z5 : Int32) (z6 : Int32) => wp_X6_seen_58 post n z0 z1 z2 z3 z4 z5 z6) post) post (fun v0 v1 v2 v3 v4 v5 v6 v7 H locs ls  hf Z hl => wm_X6_seen_101 F E hr hk (fun (z0 : ig_M) (z1 : Int64) (z2 : Int32) (z3 : Int32) (z4 : Int32) (z5 : Int32) (z6 : Int32) => wp_X6_seen_58 post n z0 z1 z2 z3 z4 z5 z6) post ih v0 v1 v2 v3 v4 v5 v6 v7 H locs ls  hf Z hl) b lb x1 x2 x4 x5 x6 _ _ _ hf Z (lv_sub hl [0, 1, 2, 3, 4, 5] rfl)
        · have hf := hf.2 c_14
          refine lv_aload_n F.1 F.2.1 dX6_seen_83 rfl (lv_at hl 0 rfl) ?_
          refine lv_iload_n F.1 F.2.1 dX6_seen_84 rfl (lv_at hl 2 rfl) ?_
          refine lv_iload F.1 F.2.1 dX6_seen_85 (lv_at hl 5 rfl) ?_
          refine lv_iconst (v := 1) F.1 F.2.1 dX6_seen_87 (by decide) ?_
          refine lv_isub F.1 F.2.1 dX6_seen_88 ?_
          have hM := k_X6_shown l (D := D) (kk := kk) (ad := ad) (bs := bs) (a := a) (la := la) (b := b) (lb := lb) (lo := lo) x2 (x6 - 1) hf
          refine ig_calli E Z (ig_runV (As := [.int x2, .int (x6 - 1)]) (rest := []) F E Z hl G_X6_158 hM (i := 97) (by decide) (ig_k_97 _ _ _ _ _ _) rfl rfl md_X6_shown rfl ⟨rfl, rfl⟩ ⟨Nat.le_of_ble_eq_true rfl, Nat.le_of_ble_eq_true rfl⟩ (Nat.le_of_ble_eq_true rfl) dX6_seen_89 ⟨Nat.le_of_ble_eq_true rfl, Nat.le_of_ble_eq_true rfl⟩) (fun r15 u H locs hf Z => ?_)
          refine lv_iconst (v := 1) F.1 F.2.1 dX6_seen_92 (by decide) ?_
          refine lv_icmp_eq (tgt := 100) F.1 F.2.1 dX6_seen_93 (by decide) (fun c_16 => ?_) (fun c_16 => ?_)
          · have hf := hf.1 c_16
            exact wm_X6_seen_100 F E hr hk (wp_X6_seen_101 (fun (z0 : ig_M) (z1 : Int64) (z2 : Int32) (z3 : Int32) (z4 : Int32) (z5 : Int32) (z6 : Int32) => wp_X6_seen_58 post n z0 z1 z2 z3 z4 z5 z6) post) post (fun v0 v1 v2 v3 v4 v5 v6 v7 H locs ls  hf Z hl => wm_X6_seen_101 F E hr hk (fun (z0 : ig_M) (z1 : Int64) (z2 : Int32) (z3 : Int32) (z4 : Int32) (z5 : Int32) (z6 : Int32) => wp_X6_seen_58 post n z0 z1 z2 z3 z4 z5 z6) post ih v0 v1 v2 v3 v4 v5 v6 v7 H locs ls  hf Z hl) b lb x1 x2 x4 x5 x6 _ _ _ hf Z (lv_sub hl [0, 1, 2, 3, 4, 5] rfl)
          · have hf := hf.2 c_16
            exact wm_X6_seen_96 F E hr hk (wp_X6_seen_101 (fun (z0 : ig_M) (z1 : Int64) (z2 : Int32) (z3 : Int32) (z4 : Int32) (z5 : Int32) (z6 : Int32) => wp_X6_seen_58 post n z0 z1 z2 z3 z4 z5 z6) post) post (fun v0 v1 v2 v3 v4 v5 v6 v7 H locs ls  hf Z hl => wm_X6_seen_101 F E hr hk (fun (z0 : ig_M) (z1 : Int64) (z2 : Int32) (z3 : Int32) (z4 : Int32) (z5 : Int32) (z6 : Int32) => wp_X6_seen_58 post n z0 z1 z2 z3 z4 z5 z6) post ih v0 v1 v2 v3 v4 v5 v6 v7 H locs ls  hf Z hl) b lb x1 x2 x4 x5 x6 _ _ _ hf Z (lv_sub hl [0, 1, 2, 3, 4, 5] rfl)
set_option maxHeartbeats 4000000 in
set_option maxRecDepth 100000 in
theorem wm_X6_seen_41 (F : CallFix p m c cX6_seen 9 s args ig_all RX6) (E : ig_E D kk ad bs s) (hr : meth.sig.returnType = (some .int)) (hk : meth.locks = false) (post : Int32 → ig_M → Int64 → Prop) :
    ∀ (b : ig_M) (lb : Int64) (x1 : Int32) (x2 : Int32) (t0 : Int32) (H : Heap) (locs : List Loc) (ls : Array Slot), wp_X6_seen_41 post b lb x1 x2 t0 → ig_Z D kk ad bs s H locs a la b lb lo → lv_has ls 9 [(0, .ref (ad 97)), (1, .int x1), (2, .int x2)] → W p l e (k2_rm 2 43) s m args below meth c H locs 0 0 (MQ below (va_Qi (fun (r : Int32) (u : ig_M × Int64) => post r u.1 u.2) (fun u t => ig_Wd D kk ad bs a la u.1 u.2 lo t) (ig_A bs)) args s 0 0 (ig_A bs)) (F0 m 41 ls [.int t0, .ref (ad 97)]) := by
  intro b lb x1 x2 t0 H locs ls hf Z hl
  have hM := k_X6_goesWell l (D := D) (kk := kk) (ad := ad) (bs := bs) (a := a) (la := la) (b := b) (lb := lb) (lo := lo) t0 hf
  refine ig_calli E Z (ig_runV (As := [.int t0]) (rest := []) F E Z hl G_X6_83 hM (i := 97) (by decide) (ig_k_97 _ _ _ _ _ _) rfl rfl md_X6_goesWell rfl ⟨rfl, rfl⟩ ⟨Nat.le_of_ble_eq_true rfl, Nat.le_of_ble_eq_true rfl⟩ (Nat.le_of_ble_eq_true rfl) dX6_seen_41 ⟨Nat.le_of_ble_eq_true rfl, Nat.le_of_ble_eq_true rfl⟩) (fun r7 u H locs hf Z => ?_)
  obtain ⟨b8, lb9⟩ := u
  have Z : ig_Z D kk ad bs s H locs a la b8 lb9 lo := Z
  refine lv_if_ne (tgt := 49) F.1 F.2.1 dX6_seen_44 (by decide) (fun c_10 => ?_) (fun c_10 => ?_)
  · have hf := hf.1 c_10
    refine lv_iconst (v := (-1)) F.1 F.2.1 dX6_seen_49 (by decide) ?_
    refine lv_istore (lv' := [(4, .int ((-1))), (0, .ref (ad 97)), (1, .int x1), (2, .int x2)]) F.1 F.2.1 dX6_seen_50 hl (by decide) rfl (fun ls hl => ?_)
    refine lv_iconst (v := (-1)) F.1 F.2.1 dX6_seen_52 (by decide) ?_
    refine lv_istore (lv' := [(5, .int ((-1))), (4, .int ((-1))), (0, .ref (ad 97)), (1, .int x1), (2, .int x2)]) F.1 F.2.1 dX6_seen_53 hl (by decide) rfl (fun ls hl => ?_)
    refine lv_iconst (v := 0) F.1 F.2.1 dX6_seen_55 (by decide) ?_
    refine lv_istore (lv' := [(6, .int 0), (5, .int ((-1))), (4, .int ((-1))), (0, .ref (ad 97)), (1, .int x1), (2, .int x2)]) F.1 F.2.1 dX6_seen_56 hl (by decide) rfl (fun ls hl => ?_)
    obtain ⟨n1, hf⟩ := hf
    exact wm_X6_seen_58 F E hr hk post n1 b8 lb9 x1 x2 ((-1)) ((-1)) 0 _ _ _ hf Z (lv_sub hl [3, 4, 5, 2, 1, 0] rfl)
  · have hf := hf.2 c_10
    refine lv_iconst (v := 0) F.1 F.2.1 dX6_seen_47 (by decide) ?_
    exact W.iret (v := 0) F.1 F.2.1 hr (fun t ht hW => ⟨⟨_, (b8, lb9), rfl, hf, Z.wd E ht hW⟩, Z.fr ht⟩) Z.2.2.2 dX6_seen_48
set_option maxHeartbeats 4000000 in
set_option maxRecDepth 100000 in
theorem wm_X6_seen_21 (F : CallFix p m c cX6_seen 9 s args ig_all RX6) (E : ig_E D kk ad bs s) (hr : meth.sig.returnType = (some .int)) (hk : meth.locks = false) (post : Int32 → ig_M → Int64 → Prop) :
    ∀ (b : ig_M) (lb : Int64) (x1 : Int32) (x2 : Int32) (t0 : Int32) (H : Heap) (locs : List Loc) (ls : Array Slot), wp_X6_seen_21 post b lb x1 x2 t0 → ig_Z D kk ad bs s H locs a la b lb lo → lv_has ls 9 [(0, .ref (ad 97)), (1, .int x1), (2, .int x2)] → W p l e (k2_rm 2 43) s m args below meth c H locs 0 0 (MQ below (va_Qi (fun (r : Int32) (u : ig_M × Int64) => post r u.1 u.2) (fun u t => ig_Wd D kk ad bs a la u.1 u.2 lo t) (ig_A bs)) args s 0 0 (ig_A bs)) (F0 m 21 ls [.int t0]) := by
  intro b lb x1 x2 t0 H locs ls hf Z hl
  refine lv_istore_n (lv' := [(3, .int t0), (0, .ref (ad 97)), (1, .int x1), (2, .int x2)]) F.1 F.2.1 dX6_seen_21 rfl hl (by decide) rfl (fun ls hl => ?_)
  refine lv_aload_n F.1 F.2.1 dX6_seen_22 rfl (lv_at hl 1 rfl) ?_
  refine lv_iload_n F.1 F.2.1 dX6_seen_23 rfl (lv_at hl 0 rfl) ?_
  refine lv_if_ne (tgt := 31) F.1 F.2.1 dX6_seen_24 (by decide) (fun c_5 => ?_) (fun c_5 => ?_)
  · have hf := hf.1 c_5
    refine lv_iload_n F.1 F.2.1 dX6_seen_31 rfl (lv_at hl 2 rfl) ?_
    refine lv_iload_n F.1 F.2.1 dX6_seen_32 rfl (lv_at hl 3 rfl) ?_
    refine lv_icmp_ne (tgt := 40) F.1 F.2.1 dX6_seen_33 (by decide) (fun c_6 => ?_) (fun c_6 => ?_)
    · have hf := hf.1 c_6
      refine lv_iconst (v := 0) F.1 F.2.1 dX6_seen_40 (by decide) ?_
      exact wm_X6_seen_41 F E hr hk post b lb x1 x2 0 _ _ _ hf Z (lv_sub hl [1, 2, 3] rfl)
    · have hf := hf.2 c_6
      refine lv_iconst (v := 2) F.1 F.2.1 dX6_seen_36 (by decide) ?_
      refine lv_goto (tgt := 41) F.1 F.2.1 dX6_seen_37 (by decide) ?_
      exact wm_X6_seen_41 F E hr hk post b lb x1 x2 2 _ _ _ hf Z (lv_sub hl [1, 2, 3] rfl)
  · have hf := hf.2 c_5
    refine lv_iconst (v := 1) F.1 F.2.1 dX6_seen_27 (by decide) ?_
    refine lv_goto (tgt := 41) F.1 F.2.1 dX6_seen_28 (by decide) ?_
    exact wm_X6_seen_41 F E hr hk post b lb x1 x2 1 _ _ _ hf Z (lv_sub hl [1, 2, 3] rfl)
set_option maxHeartbeats 4000000 in
set_option maxRecDepth 100000 in
theorem k_X6_seen (l : Launch) {D : va_G} {kk : Nat → ClassId} {ad : Nat → Nat} {bs : Nat} {a : ig_M} {la : Int64} {b : ig_M} {lb lo : Int64} (x1 : Int32) (x2 : Int32) {post : Int32 → ig_M → Int64 → Prop} (hf : wp_X6_seen b lb x1 x2 post) : Met l yX6_seen (ig_ws yX6_seen cX6_seen 9 (some .int)) (k2_rm 2 43) (va_Pc [.ref (ad 97), .int x1, .int x2] (ig_Wd D kk ad bs a la b lb lo)) (va_Qi (fun (r : Int32) (u : ig_M × Int64) => post r u.1 u.2) (fun u t => ig_Wd D kk ad bs a la u.1 u.2 lo t) (ig_A bs)) 0 0 (ig_A bs) := by
  refine Met.ofW (cc := cX6_seen) (maxL := 9) (ret := (some .int)) (by decide) rfl ?_
  intro p e s m args below meth c s₁ B hml hv
  obtain ⟨rfl, E, hP⟩ := hv
  have hk := B.notSynchronized
  have hr := B.returns
  have F : CallFix p m c cX6_seen 9 s _ ig_all RX6 := ⟨B.exec, B.bytes, hml, findClass_of_methodNamed B.named, fun w hw => atoms_spec B.pre w (List.mem_cons_of_mem _ hw)⟩
  have Z : ig_Z D kk ad bs s s.heap [] a la b lb lo := ig_Z.rf hP
  have hl := lv_entry ([.ref (ad 97), .int x1, .int x2]) (n := 9) (Nat.le_of_ble_eq_true rfl)
  rw [lg_entry_eq]
  generalize (lg_sl ([.ref (ad 97), .int x1, .int x2]) ++ List.replicate (9 - (lg_sl ([.ref (ad 97), .int x1, .int x2])).length) Slot.unset).toArray = ls at hl ⊢
  have hl : lv_has ls 9 [(0, .ref (ad 97)), (1, .int x1), (2, .int x2)] := hl
  refine lv_aload_n F.1 F.2.1 dX6_seen_0 rfl (lv_at hl 0 rfl) ?_
  refine lv_iload_n F.1 F.2.1 dX6_seen_1 rfl (lv_at hl 1 rfl) ?_
  have hM := k_X6_isPhase l (D := D) (kk := kk) (ad := ad) (bs := bs) (a := a) (la := la) (b := b) (lb := lb) (lo := lo) x1 hf
  refine ig_calli E Z (ig_runV (As := [.int x1]) (rest := []) F E Z hl G_X6_91 hM (i := 97) (by decide) (ig_k_97 _ _ _ _ _ _) rfl rfl md_X6_isPhase rfl ⟨rfl, rfl⟩ ⟨Nat.le_of_ble_eq_true rfl, Nat.le_of_ble_eq_true rfl⟩ (Nat.le_of_ble_eq_true rfl) dX6_seen_2 ⟨Nat.le_of_ble_eq_true rfl, Nat.le_of_ble_eq_true rfl⟩) (fun r1 u H locs hf Z => ?_)
  refine lv_if_eq (tgt := 20) F.1 F.2.1 dX6_seen_5 (by decide) (fun c_2 => ?_) (fun c_2 => ?_)
  · have hf := hf.1 c_2
    exact wm_X6_seen_20 F E hr hk (wp_X6_seen_21 post) post (fun v0 v1 v2 v3 v4 H locs ls  hf Z hl => wm_X6_seen_21 F E hr hk post v0 v1 v2 v3 v4 H locs ls  hf Z hl) b lb x1 x2 _ _ _ hf Z (lv_sub hl [0, 1, 2] rfl)
  · have hf := hf.2 c_2
    refine lv_aload_n F.1 F.2.1 dX6_seen_8 rfl (lv_at hl 0 rfl) ?_
    refine lv_iload_n F.1 F.2.1 dX6_seen_9 rfl (lv_at hl 2 rfl) ?_
    have hM := k_X6_isPhase l (D := D) (kk := kk) (ad := ad) (bs := bs) (a := a) (la := la) (b := b) (lb := lb) (lo := lo) x2 hf
    refine ig_calli E Z (ig_runV (As := [.int x2]) (rest := []) F E Z hl G_X6_91 hM (i := 97) (by decide) (ig_k_97 _ _ _ _ _ _) rfl rfl md_X6_isPhase rfl ⟨rfl, rfl⟩ ⟨Nat.le_of_ble_eq_true rfl, Nat.le_of_ble_eq_true rfl⟩ (Nat.le_of_ble_eq_true rfl) dX6_seen_10 ⟨Nat.le_of_ble_eq_true rfl, Nat.le_of_ble_eq_true rfl⟩) (fun r3 u H locs hf Z => ?_)
    refine lv_if_eq (tgt := 20) F.1 F.2.1 dX6_seen_13 (by decide) (fun c_4 => ?_) (fun c_4 => ?_)
    · have hf := hf.1 c_4
      exact wm_X6_seen_20 F E hr hk (wp_X6_seen_21 post) post (fun v0 v1 v2 v3 v4 H locs ls  hf Z hl => wm_X6_seen_21 F E hr hk post v0 v1 v2 v3 v4 H locs ls  hf Z hl) b lb x1 x2 _ _ _ hf Z (lv_sub hl [0, 1, 2] rfl)
    · have hf := hf.2 c_4
      refine lv_iconst (v := 1) F.1 F.2.1 dX6_seen_16 (by decide) ?_
      refine lv_goto (tgt := 21) F.1 F.2.1 dX6_seen_17 (by decide) ?_
      exact wm_X6_seen_21 F E hr hk post b lb x1 x2 1 _ _ _ hf Z (lv_sub hl [0, 1, 2] rfl)
set_option maxHeartbeats 4000000 in
set_option maxRecDepth 100000 in
theorem wm_X6_changeOf_77 (F : CallFix p m c cX6_changeOf 7 s args ig_all RX6) (E : ig_E D kk ad bs s) (hr : meth.sig.returnType = (some .int)) (hk : meth.locks = false) (k_17 : Int32 → Int32 → Int32 → Int32 → Int32 → Prop) (post : Int32 → Prop) (h_17 : ∀ (x1 : Int32) (x2 : Int32) (x3 : Int32) (x4 : Int32) (x5 : Int32) (H : Heap) (locs : List Loc) (ls : Array Slot), k_17 x1 x2 x3 x4 x5 → ig_Z D kk ad bs s H locs a la b lb lo → lv_has ls 7 [(0, .ref (ad 97)), (1, .int x1), (2, .int x2), (3, .int x3), (4, .int x4), (5, .int x5)] → W p l e (k2_rm 1 21) s m args below meth c H locs 0 0 (MQ below (va_Qi (fun (r : Int32) (_ : Unit) => post r) (fun _ t => ig_Wd D kk ad bs a la b lb lo t) (ig_A bs)) args s 0 0 (ig_A bs)) (F0 m 17 ls [])) :
    ∀ (x1 : Int32) (x2 : Int32) (x3 : Int32) (x4 : Int32) (x5 : Int32) (t0 : Int32) (H : Heap) (locs : List Loc) (ls : Array Slot), wp_X6_changeOf_77 b lb k_17 post x1 x2 x3 x4 x5 t0 → ig_Z D kk ad bs s H locs a la b lb lo → lv_has ls 7 [(0, .ref (ad 97)), (1, .int x1), (2, .int x2), (3, .int x3), (4, .int x4), (5, .int x5)] → W p l e (k2_rm 1 21) s m args below meth c H locs 0 0 (MQ below (va_Qi (fun (r : Int32) (_ : Unit) => post r) (fun _ t => ig_Wd D kk ad bs a la b lb lo t) (ig_A bs)) args s 0 0 (ig_A bs)) (F0 m 77 ls [.int t0]) := by
  intro x1 x2 x3 x4 x5 t0 H locs ls hf Z hl
  refine lv_istore (lv' := [(6, .int t0), (0, .ref (ad 97)), (1, .int x1), (2, .int x2), (3, .int x3), (4, .int x4), (5, .int x5)]) F.1 F.2.1 dX6_changeOf_77 hl (by decide) rfl (fun ls hl => ?_)
  refine lv_iload F.1 F.2.1 dX6_changeOf_79 (lv_at hl 0 rfl) ?_
  refine lv_if_eq (tgt := 117) F.1 F.2.1 dX6_changeOf_81 (by decide) (fun c_11 => ?_) (fun c_11 => ?_)
  · have hf := hf.1 c_11
    refine lv_iload_n F.1 F.2.1 dX6_changeOf_117 rfl (lv_at hl 4 rfl) ?_
    refine lv_istore_n (lv' := [(3, .int x3), (6, .int t0), (0, .ref (ad 97)), (1, .int x1), (2, .int x2), (4, .int x4), (5, .int x5)]) F.1 F.2.1 dX6_changeOf_118 rfl hl (by decide) rfl (fun ls hl => ?_)
    refine lv_iinc (v := x5 + 1) (lv' := [(5, .int (x5 + 1)), (3, .int x3), (6, .int t0), (0, .ref (ad 97)), (1, .int x1), (2, .int x2), (4, .int x4)]) F.1 F.2.1 dX6_changeOf_119 hl (k := 6) rfl (by rfl) (by decide) rfl (fun ls hl => ?_)
    refine lv_goto (tgt := 17) F.1 F.2.1 dX6_changeOf_122 (by decide) ?_
    exact h_17 x1 x2 x3 x4 (x5 + 1) _ _ _ hf Z (lv_sub hl [3, 4, 5, 1, 6, 0] rfl)
  · have hf := hf.2 c_11
    refine lv_aload_n F.1 F.2.1 dX6_changeOf_84 rfl (lv_at hl 1 rfl) ?_
    refine gf_X6_19 F E Z dX6_changeOf_85 ?_
    refine lv_bipush (v := 8) F.1 F.2.1 dX6_changeOf_88 (by decide) ?_
    refine lv_iload F.1 F.2.1 dX6_changeOf_90 (lv_at hl 5 rfl) ?_
    refine lv_imul F.1 F.2.1 dX6_changeOf_92 ?_
    refine lv_iload F.1 F.2.1 dX6_changeOf_93 (lv_at hl 6 rfl) ?_
    refine lv_iadd F.1 F.2.1 dX6_changeOf_95 ?_
    have hv12 := hf.1
    have hf := hf.2
    refine ig_iald (f := b 101) F E Z (by decide) (by rw [ig_mm_b _ _ (by decide)]; exact (ig_k_101 _ _ _ _ _ _)) hv12 dX6_changeOf_96 ?_
    refine lv_iload_n F.1 F.2.1 dX6_changeOf_97 rfl (lv_at hl 4 rfl) ?_
    refine lv_icmp_le (tgt := 117) F.1 F.2.1 dX6_changeOf_98 (by decide) (fun c_13 => ?_) (fun c_13 => ?_)
    · have hf := hf.1 c_13
      refine lv_iload_n F.1 F.2.1 dX6_changeOf_117 rfl (lv_at hl 4 rfl) ?_
      refine lv_istore_n (lv' := [(3, .int x3), (6, .int t0), (0, .ref (ad 97)), (1, .int x1), (2, .int x2), (4, .int x4), (5, .int x5)]) F.1 F.2.1 dX6_changeOf_118 rfl hl (by decide) rfl (fun ls hl => ?_)
      refine lv_iinc (v := x5 + 1) (lv' := [(5, .int (x5 + 1)), (3, .int x3), (6, .int t0), (0, .ref (ad 97)), (1, .int x1), (2, .int x2), (4, .int x4)]) F.1 F.2.1 dX6_changeOf_119 hl (k := 6) rfl (by rfl) (by decide) rfl (fun ls hl => ?_)
      refine lv_goto (tgt := 17) F.1 F.2.1 dX6_changeOf_122 (by decide) ?_
      exact h_17 x1 x2 x3 x4 (x5 + 1) _ _ _ hf Z (lv_sub hl [3, 4, 5, 1, 6, 0] rfl)
    · have hf := hf.2 c_13
      refine lv_aload_n F.1 F.2.1 dX6_changeOf_101 rfl (lv_at hl 1 rfl) ?_
      refine gf_X6_19 F E Z dX6_changeOf_102 ?_
      refine lv_bipush (v := 8) F.1 F.2.1 dX6_changeOf_105 (by decide) ?_
      refine lv_iload F.1 F.2.1 dX6_changeOf_107 (lv_at hl 5 rfl) ?_
      refine lv_imul F.1 F.2.1 dX6_changeOf_109 ?_
      refine lv_iload F.1 F.2.1 dX6_changeOf_110 (lv_at hl 6 rfl) ?_
      refine lv_iadd F.1 F.2.1 dX6_changeOf_112 ?_
      have hv14 := hf.1
      have hf := hf.2
      refine ig_iald (f := b 101) F E Z (by decide) (by rw [ig_mm_b _ _ (by decide)]; exact (ig_k_101 _ _ _ _ _ _)) hv14 dX6_changeOf_113 ?_
      refine lv_goto (tgt := 118) F.1 F.2.1 dX6_changeOf_114 (by decide) ?_
      refine lv_istore_n (lv' := [(3, .int (b 101 ((8 * x4) + x5).toNatClampNeg)), (6, .int t0), (0, .ref (ad 97)), (1, .int x1), (2, .int x2), (4, .int x4), (5, .int x5)]) F.1 F.2.1 dX6_changeOf_118 rfl hl (by decide) rfl (fun ls hl => ?_)
      refine lv_iinc (v := x5 + 1) (lv' := [(5, .int (x5 + 1)), (3, .int (b 101 ((8 * x4) + x5).toNatClampNeg)), (6, .int t0), (0, .ref (ad 97)), (1, .int x1), (2, .int x2), (4, .int x4)]) F.1 F.2.1 dX6_changeOf_119 hl (k := 6) rfl (by rfl) (by decide) rfl (fun ls hl => ?_)
      refine lv_goto (tgt := 17) F.1 F.2.1 dX6_changeOf_122 (by decide) ?_
      exact h_17 x1 x2 (b 101 ((8 * x4) + x5).toNatClampNeg) x4 (x5 + 1) _ _ _ hf Z (lv_sub hl [3, 4, 5, 1, 6, 0] rfl)
set_option maxHeartbeats 4000000 in
set_option maxRecDepth 100000 in
theorem wm_X6_changeOf_76 (F : CallFix p m c cX6_changeOf 7 s args ig_all RX6) (E : ig_E D kk ad bs s) (hr : meth.sig.returnType = (some .int)) (hk : meth.locks = false) (k_77 : Int32 → Int32 → Int32 → Int32 → Int32 → Int32 → Prop) (post : Int32 → Prop) (h_77 : ∀ (x1 : Int32) (x2 : Int32) (x3 : Int32) (x4 : Int32) (x5 : Int32) (t0 : Int32) (H : Heap) (locs : List Loc) (ls : Array Slot), k_77 x1 x2 x3 x4 x5 t0 → ig_Z D kk ad bs s H locs a la b lb lo → lv_has ls 7 [(0, .ref (ad 97)), (1, .int x1), (2, .int x2), (3, .int x3), (4, .int x4), (5, .int x5)] → W p l e (k2_rm 1 21) s m args below meth c H locs 0 0 (MQ below (va_Qi (fun (r : Int32) (_ : Unit) => post r) (fun _ t => ig_Wd D kk ad bs a la b lb lo t) (ig_A bs)) args s 0 0 (ig_A bs)) (F0 m 77 ls [.int t0])) :
    ∀ (x1 : Int32) (x2 : Int32) (x3 : Int32) (x4 : Int32) (x5 : Int32) (H : Heap) (locs : List Loc) (ls : Array Slot), wp_X6_changeOf_76 b lb k_77 post x1 x2 x3 x4 x5 → ig_Z D kk ad bs s H locs a la b lb lo → lv_has ls 7 [(0, .ref (ad 97)), (1, .int x1), (2, .int x2), (3, .int x3), (4, .int x4), (5, .int x5)] → W p l e (k2_rm 1 21) s m args below meth c H locs 0 0 (MQ below (va_Qi (fun (r : Int32) (_ : Unit) => post r) (fun _ t => ig_Wd D kk ad bs a la b lb lo t) (ig_A bs)) args s 0 0 (ig_A bs)) (F0 m 76 ls []) := by
  intro x1 x2 x3 x4 x5 H locs ls hf Z hl
  refine lv_iconst (v := 0) F.1 F.2.1 dX6_changeOf_76 (by decide) ?_
  exact h_77 x1 x2 x3 x4 x5 0 _ _ _ hf Z (lv_sub hl [0, 1, 2, 3, 4, 5] rfl)
set_option maxHeartbeats 4000000 in
set_option maxRecDepth 100000 in
theorem wm_X6_changeOf_17 (F : CallFix p m c cX6_changeOf 7 s args ig_all RX6) (E : ig_E D kk ad bs s) (hr : meth.sig.returnType = (some .int)) (hk : meth.locks = false) (k_5 : Int32 → Int32 → Int32 → Int32 → Prop) (post : Int32 → Prop) (h_5 : ∀ (x1 : Int32) (x2 : Int32) (x3 : Int32) (x4 : Int32) (H : Heap) (locs : List Loc) (ls : Array Slot), k_5 x1 x2 x3 x4 → ig_Z D kk ad bs s H locs a la b lb lo → lv_has ls 7 [(0, .ref (ad 97)), (1, .int x1), (2, .int x2), (3, .int x3), (4, .int x4)] → W p l e (k2_rm 1 21) s m args below meth c H locs 0 0 (MQ below (va_Qi (fun (r : Int32) (_ : Unit) => post r) (fun _ t => ig_Wd D kk ad bs a la b lb lo t) (ig_A bs)) args s 0 0 (ig_A bs)) (F0 m 5 ls [])) :
    ∀ (n : Nat) (x1 : Int32) (x2 : Int32) (x3 : Int32) (x4 : Int32) (x5 : Int32) (H : Heap) (locs : List Loc) (ls : Array Slot), wp_X6_changeOf_17 b lb k_5 post n x1 x2 x3 x4 x5 → ig_Z D kk ad bs s H locs a la b lb lo → lv_has ls 7 [(0, .ref (ad 97)), (1, .int x1), (2, .int x2), (3, .int x3), (4, .int x4), (5, .int x5)] → W p l e (k2_rm 1 21) s m args below meth c H locs 0 0 (MQ below (va_Qi (fun (r : Int32) (_ : Unit) => post r) (fun _ t => ig_Wd D kk ad bs a la b lb lo t) (ig_A bs)) args s 0 0 (ig_A bs)) (F0 m 17 ls []) := by
  intro n
  induction n with
  | zero => intro x1 x2 x3 x4 x5 H locs ls hf Z hl; exact False.elim hf
  | succ n ih =>
    intro x1 x2 x3 x4 x5 H locs ls hf Z hl
    refine lv_iload F.1 F.2.1 dX6_changeOf_17 (lv_at hl 5 rfl) ?_
    refine lv_aload_n F.1 F.2.1 dX6_changeOf_19 rfl (lv_at hl 0 rfl) ?_
    refine gf_X6_69 F E Z dX6_changeOf_20 ?_
    refine lv_icmp_ge (tgt := 125) F.1 F.2.1 dX6_changeOf_23 (by decide) (fun c_2 => ?_) (fun c_2 => ?_)
    · have hf := hf.1 c_2
      refine lv_iinc (v := x4 + 1) (lv' := [(4, .int (x4 + 1)), (0, .ref (ad 97)), (1, .int x1), (2, .int x2), (3, .int x3), (5, .int x5)]) F.1 F.2.1 dX6_changeOf_125 hl (k := 4) rfl (by rfl) (by decide) rfl (fun ls hl => ?_)
      refine lv_goto (tgt := 5) F.1 F.2.1 dX6_changeOf_128 (by decide) ?_
      exact h_5 x1 x2 x3 (x4 + 1) _ _ _ hf Z (lv_sub hl [1, 2, 3, 4, 0] rfl)
    · have hf := hf.2 c_2
      refine lv_aload_n F.1 F.2.1 dX6_changeOf_26 rfl (lv_at hl 0 rfl) ?_
      refine gf_X6_22 F E Z dX6_changeOf_27 ?_
      refine lv_iload_n F.1 F.2.1 dX6_changeOf_30 rfl (lv_at hl 1 rfl) ?_
      have hv3 := hf.1
      have hf := hf.2
      refine ig_iald (f := b 102) F E Z (by decide) (by rw [ig_mm_b _ _ (by decide)]; exact (ig_k_102 _ _ _ _ _ _)) hv3 dX6_changeOf_31 ?_
      refine lv_aload_n F.1 F.2.1 dX6_changeOf_32 rfl (lv_at hl 0 rfl) ?_
      refine gf_X6_22 F E Z dX6_changeOf_33 ?_
      refine lv_iload_n F.1 F.2.1 dX6_changeOf_36 rfl (lv_at hl 2 rfl) ?_
      have hv4 := hf.1
      have hf := hf.2
      refine ig_iald (f := b 102) F E Z (by decide) (by rw [ig_mm_b _ _ (by decide)]; exact (ig_k_102 _ _ _ _ _ _)) hv4 dX6_changeOf_37 ?_
      refine lv_iconst (v := (-1)) F.1 F.2.1 dX6_changeOf_38 (by decide) ?_
      refine lv_ixor F.1 F.2.1 dX6_changeOf_39 ?_
      refine lv_iand F.1 F.2.1 dX6_changeOf_40 ?_
      refine lv_iload F.1 F.2.1 dX6_changeOf_41 (lv_at hl 4 rfl) ?_
      have hM := k_X6_has l (D := D) (kk := kk) (ad := ad) (bs := bs) (a := a) (la := la) (b := b) (lb := lb) (lo := lo) ((b 102 x1.toNatClampNeg) &&& ((b 102 x2.toNatClampNeg) ^^^ ((-1)))) x4 hf
      refine ig_calli E Z (ig_runS (As := [.int ((b 102 x1.toNatClampNeg) &&& ((b 102 x2.toNatClampNeg) ^^^ ((-1)))), .int x4]) (rest := []) F E Z hl G_X6_87 hM rfl md_X6_has rfl ⟨rfl, rfl⟩ ⟨Nat.le_of_ble_eq_true rfl, Nat.le_of_ble_eq_true rfl⟩ (Nat.le_of_ble_eq_true rfl) dX6_changeOf_43 ⟨Nat.le_of_ble_eq_true rfl, Nat.le_of_ble_eq_true rfl⟩) (fun r5 u H locs hf Z => ?_)
      refine lv_if_eq (tgt := 76) F.1 F.2.1 dX6_changeOf_46 (by decide) (fun c_6 => ?_) (fun c_6 => ?_)
      · have hf := hf.1 c_6
        exact wm_X6_changeOf_76 F E hr hk (wp_X6_changeOf_77 b lb (fun (z0 : Int32) (z1 : Int32) (z2 : Int32) (z3 : Int32) (z4 : Int32) => wp_X6_changeOf_17 b lb k_5 post n z0 z1 z2 z3 z4) post) post (fun v0 v1 v2 v3 v4 v5 H locs ls  hf Z hl => wm_X6_changeOf_77 F E hr hk (fun (z0 : Int32) (z1 : Int32) (z2 : Int32) (z3 : Int32) (z4 : Int32) => wp_X6_changeOf_17 b lb k_5 post n z0 z1 z2 z3 z4) post ih v0 v1 v2 v3 v4 v5 H locs ls  hf Z hl) x1 x2 x3 x4 x5 _ _ _ hf Z (lv_sub hl [0, 1, 2, 3, 4, 5] rfl)
      · have hf := hf.2 c_6
        refine lv_aload_n F.1 F.2.1 dX6_changeOf_49 rfl (lv_at hl 0 rfl) ?_
        refine gf_X6_22 F E Z dX6_changeOf_50 ?_
        refine lv_iload_n F.1 F.2.1 dX6_changeOf_53 rfl (lv_at hl 2 rfl) ?_
        have hv7 := hf.1
        have hf := hf.2
        refine ig_iald (f := b 102) F E Z (by decide) (by rw [ig_mm_b _ _ (by decide)]; exact (ig_k_102 _ _ _ _ _ _)) hv7 dX6_changeOf_54 ?_
        refine lv_aload_n F.1 F.2.1 dX6_changeOf_55 rfl (lv_at hl 0 rfl) ?_
        refine gf_X6_22 F E Z dX6_changeOf_56 ?_
        refine lv_iload_n F.1 F.2.1 dX6_changeOf_59 rfl (lv_at hl 1 rfl) ?_
        have hv8 := hf.1
        have hf := hf.2
        refine ig_iald (f := b 102) F E Z (by decide) (by rw [ig_mm_b _ _ (by decide)]; exact (ig_k_102 _ _ _ _ _ _)) hv8 dX6_changeOf_60 ?_
        refine lv_iconst (v := (-1)) F.1 F.2.1 dX6_changeOf_61 (by decide) ?_
        refine lv_ixor F.1 F.2.1 dX6_changeOf_62 ?_
        refine lv_iand F.1 F.2.1 dX6_changeOf_63 ?_
        refine lv_iload F.1 F.2.1 dX6_changeOf_64 (lv_at hl 5 rfl) ?_
        have hM := k_X6_has l (D := D) (kk := kk) (ad := ad) (bs := bs) (a := a) (la := la) (b := b) (lb := lb) (lo := lo) ((b 102 x2.toNatClampNeg) &&& ((b 102 x1.toNatClampNeg) ^^^ ((-1)))) x5 hf
        refine ig_calli E Z (ig_runS (As := [.int ((b 102 x2.toNatClampNeg) &&& ((b 102 x1.toNatClampNeg) ^^^ ((-1)))), .int x5]) (rest := []) F E Z hl G_X6_87 hM rfl md_X6_has rfl ⟨rfl, rfl⟩ ⟨Nat.le_of_ble_eq_true rfl, Nat.le_of_ble_eq_true rfl⟩ (Nat.le_of_ble_eq_true rfl) dX6_changeOf_66 ⟨Nat.le_of_ble_eq_true rfl, Nat.le_of_ble_eq_true rfl⟩) (fun r9 u H locs hf Z => ?_)
        refine lv_if_eq (tgt := 76) F.1 F.2.1 dX6_changeOf_69 (by decide) (fun c_10 => ?_) (fun c_10 => ?_)
        · have hf := hf.1 c_10
          exact wm_X6_changeOf_76 F E hr hk (wp_X6_changeOf_77 b lb (fun (z0 : Int32) (z1 : Int32) (z2 : Int32) (z3 : Int32) (z4 : Int32) => wp_X6_changeOf_17 b lb k_5 post n z0 z1 z2 z3 z4) post) post (fun v0 v1 v2 v3 v4 v5 H locs ls  hf Z hl => wm_X6_changeOf_77 F E hr hk (fun (z0 : Int32) (z1 : Int32) (z2 : Int32) (z3 : Int32) (z4 : Int32) => wp_X6_changeOf_17 b lb k_5 post n z0 z1 z2 z3 z4) post ih v0 v1 v2 v3 v4 v5 H locs ls  hf Z hl) x1 x2 x3 x4 x5 _ _ _ hf Z (lv_sub hl [0, 1, 2, 3, 4, 5] rfl)
        · have hf := hf.2 c_10
          refine lv_iconst (v := 1) F.1 F.2.1 dX6_changeOf_72 (by decide) ?_
          refine lv_goto (tgt := 77) F.1 F.2.1 dX6_changeOf_73 (by decide) ?_
          exact wm_X6_changeOf_77 F E hr hk (fun (z0 : Int32) (z1 : Int32) (z2 : Int32) (z3 : Int32) (z4 : Int32) => wp_X6_changeOf_17 b lb k_5 post n z0 z1 z2 z3 z4) post ih x1 x2 x3 x4 x5 1 _ _ _ hf Z (lv_sub hl [0, 1, 2, 3, 4, 5] rfl)
set_option maxHeartbeats 4000000 in
set_option maxRecDepth 100000 in
theorem wm_X6_changeOf_5 (F : CallFix p m c cX6_changeOf 7 s args ig_all RX6) (E : ig_E D kk ad bs s) (hr : meth.sig.returnType = (some .int)) (hk : meth.locks = false) (post : Int32 → Prop) :
    ∀ (n : Nat) (x1 : Int32) (x2 : Int32) (x3 : Int32) (x4 : Int32) (H : Heap) (locs : List Loc) (ls : Array Slot), wp_X6_changeOf_5 b lb post n x1 x2 x3 x4 → ig_Z D kk ad bs s H locs a la b lb lo → lv_has ls 7 [(0, .ref (ad 97)), (1, .int x1), (2, .int x2), (3, .int x3), (4, .int x4)] → W p l e (k2_rm 1 21) s m args below meth c H locs 0 0 (MQ below (va_Qi (fun (r : Int32) (_ : Unit) => post r) (fun _ t => ig_Wd D kk ad bs a la b lb lo t) (ig_A bs)) args s 0 0 (ig_A bs)) (F0 m 5 ls []) := by
  intro n
  induction n with
  | zero => intro x1 x2 x3 x4 H locs ls hf Z hl; exact False.elim hf
  | succ n ih =>
    intro x1 x2 x3 x4 H locs ls hf Z hl
    refine lv_iload F.1 F.2.1 dX6_changeOf_5 (lv_at hl 4 rfl) ?_
    refine lv_aload_n F.1 F.2.1 dX6_changeOf_7 rfl (lv_at hl 0 rfl) ?_
    refine gf_X6_69 F E Z dX6_changeOf_8 ?_
    refine lv_icmp_ge (tgt := 131) F.1 F.2.1 dX6_changeOf_11 (by decide) (fun c_1 => ?_) (fun c_1 => ?_)
    · have hf := hf.1 c_1
      refine lv_iload_n F.1 F.2.1 dX6_changeOf_131 rfl (lv_at hl 3 rfl) ?_
      exact W.iret (v := x3) F.1 F.2.1 hr (fun t ht hW => ⟨⟨_, (), rfl, hf, Z.wd E ht hW⟩, Z.fr ht⟩) Z.2.2.2 dX6_changeOf_132
    · have hf := hf.2 c_1
      refine lv_iconst (v := 0) F.1 F.2.1 dX6_changeOf_14 (by decide) ?_
      refine lv_istore (lv' := [(5, .int 0), (0, .ref (ad 97)), (1, .int x1), (2, .int x2), (3, .int x3), (4, .int x4)]) F.1 F.2.1 dX6_changeOf_15 hl (by decide) rfl (fun ls hl => ?_)
      obtain ⟨n1, hf⟩ := hf
      exact wm_X6_changeOf_17 F E hr hk (fun (z0 : Int32) (z1 : Int32) (z2 : Int32) (z3 : Int32) => wp_X6_changeOf_5 b lb post n z0 z1 z2 z3) post ih n1 x1 x2 x3 x4 0 _ _ _ hf Z (lv_sub hl [1, 2, 3, 4, 5, 0] rfl)
set_option maxHeartbeats 4000000 in
set_option maxRecDepth 100000 in
theorem k_X6_changeOf (l : Launch) {D : va_G} {kk : Nat → ClassId} {ad : Nat → Nat} {bs : Nat} {a : ig_M} {la : Int64} {b : ig_M} {lb lo : Int64} (x1 : Int32) (x2 : Int32) {post : Int32 → Prop} (hf : wp_X6_changeOf b lb x1 x2 post) : Met l yX6_changeOf (ig_ws yX6_changeOf cX6_changeOf 7 (some .int)) (k2_rm 1 21) (va_Pc [.ref (ad 97), .int x1, .int x2] (ig_Wd D kk ad bs a la b lb lo)) (va_Qi (fun (r : Int32) (_ : Unit) => post r) (fun _ t => ig_Wd D kk ad bs a la b lb lo t) (ig_A bs)) 0 0 (ig_A bs) := by
  refine Met.ofW (cc := cX6_changeOf) (maxL := 7) (ret := (some .int)) (by decide) rfl ?_
  intro p e s m args below meth c s₁ B hml hv
  obtain ⟨rfl, E, hP⟩ := hv
  have hk := B.notSynchronized
  have hr := B.returns
  have F : CallFix p m c cX6_changeOf 7 s _ ig_all RX6 := ⟨B.exec, B.bytes, hml, findClass_of_methodNamed B.named, fun w hw => atoms_spec B.pre w (List.mem_cons_of_mem _ hw)⟩
  have Z : ig_Z D kk ad bs s s.heap [] a la b lb lo := ig_Z.rf hP
  have hl := lv_entry ([.ref (ad 97), .int x1, .int x2]) (n := 7) (Nat.le_of_ble_eq_true rfl)
  rw [lg_entry_eq]
  generalize (lg_sl ([.ref (ad 97), .int x1, .int x2]) ++ List.replicate (7 - (lg_sl ([.ref (ad 97), .int x1, .int x2])).length) Slot.unset).toArray = ls at hl ⊢
  have hl : lv_has ls 7 [(0, .ref (ad 97)), (1, .int x1), (2, .int x2)] := hl
  refine lv_iconst (v := 0) F.1 F.2.1 dX6_changeOf_0 (by decide) ?_
  refine lv_istore_n (lv' := [(3, .int 0), (0, .ref (ad 97)), (1, .int x1), (2, .int x2)]) F.1 F.2.1 dX6_changeOf_1 rfl hl (by decide) rfl (fun ls hl => ?_)
  refine lv_iconst (v := 0) F.1 F.2.1 dX6_changeOf_2 (by decide) ?_
  refine lv_istore (lv' := [(4, .int 0), (3, .int 0), (0, .ref (ad 97)), (1, .int x1), (2, .int x2)]) F.1 F.2.1 dX6_changeOf_3 hl (by decide) rfl (fun ls hl => ?_)
  obtain ⟨n1, hf⟩ := hf
  exact wm_X6_changeOf_5 F E hr hk post n1 x1 x2 0 0 _ _ _ hf Z (lv_sub hl [2, 3, 4, 1, 0] rfl)
set_option maxHeartbeats 4000000 in
set_option maxRecDepth 100000 in
theorem wm_X6_change_21 (F : CallFix p m c cX6_change 3 s args ig_all RX6) (E : ig_E D kk ad bs s) (hr : meth.sig.returnType = (some .int)) (hk : meth.locks = false) (k_22 : ig_M → Int64 → Int32 → Int32 → Int32 → Prop) (post : Int32 → ig_M → Int64 → Prop) (h_22 : ∀ (b : ig_M) (lb : Int64) (x1 : Int32) (x2 : Int32) (t0 : Int32) (H : Heap) (locs : List Loc) (ls : Array Slot), k_22 b lb x1 x2 t0 → ig_Z D kk ad bs s H locs a la b lb lo → lv_has ls 3 [(0, .ref (ad 97)), (1, .int x1), (2, .int x2)] → W p l e (k2_rm 2 47) s m args below meth c H locs 0 0 (MQ below (va_Qi (fun (r : Int32) (u : ig_M × Int64) => post r u.1 u.2) (fun u t => ig_Wd D kk ad bs a la u.1 u.2 lo t) (ig_A bs)) args s 0 0 (ig_A bs)) (F0 m 22 ls [.int t0, .ref (ad 97)])) :
    ∀ (b : ig_M) (lb : Int64) (x1 : Int32) (x2 : Int32) (H : Heap) (locs : List Loc) (ls : Array Slot), wp_X6_change_21 k_22 post b lb x1 x2 → ig_Z D kk ad bs s H locs a la b lb lo → lv_has ls 3 [(0, .ref (ad 97)), (1, .int x1), (2, .int x2)] → W p l e (k2_rm 2 47) s m args below meth c H locs 0 0 (MQ below (va_Qi (fun (r : Int32) (u : ig_M × Int64) => post r u.1 u.2) (fun u t => ig_Wd D kk ad bs a la u.1 u.2 lo t) (ig_A bs)) args s 0 0 (ig_A bs)) (F0 m 21 ls [.ref (ad 97)]) := by
  intro b lb x1 x2 H locs ls hf Z hl
  refine lv_iconst (v := 1) F.1 F.2.1 dX6_change_21 (by decide) ?_
  exact h_22 b lb x1 x2 1 _ _ _ hf Z (lv_sub hl [0, 1, 2] rfl)
set_option maxHeartbeats 4000000 in
set_option maxRecDepth 100000 in
theorem wm_X6_change_22 (F : CallFix p m c cX6_change 3 s args ig_all RX6) (E : ig_E D kk ad bs s) (hr : meth.sig.returnType = (some .int)) (hk : meth.locks = false) (post : Int32 → ig_M → Int64 → Prop) :
    ∀ (b : ig_M) (lb : Int64) (x1 : Int32) (x2 : Int32) (t0 : Int32) (H : Heap) (locs : List Loc) (ls : Array Slot), wp_X6_change_22 post b lb x1 x2 t0 → ig_Z D kk ad bs s H locs a la b lb lo → lv_has ls 3 [(0, .ref (ad 97)), (1, .int x1), (2, .int x2)] → W p l e (k2_rm 2 47) s m args below meth c H locs 0 0 (MQ below (va_Qi (fun (r : Int32) (u : ig_M × Int64) => post r u.1 u.2) (fun u t => ig_Wd D kk ad bs a la u.1 u.2 lo t) (ig_A bs)) args s 0 0 (ig_A bs)) (F0 m 22 ls [.int t0, .ref (ad 97)]) := by
  intro b lb x1 x2 t0 H locs ls hf Z hl
  have hM := k_X6_goesWell l (D := D) (kk := kk) (ad := ad) (bs := bs) (a := a) (la := la) (b := b) (lb := lb) (lo := lo) t0 hf
  refine ig_calli E Z (ig_runV (As := [.int t0]) (rest := []) F E Z hl G_X6_83 hM (i := 97) (by decide) (ig_k_97 _ _ _ _ _ _) rfl rfl md_X6_goesWell rfl ⟨rfl, rfl⟩ ⟨Nat.le_of_ble_eq_true rfl, Nat.le_of_ble_eq_true rfl⟩ (Nat.le_of_ble_eq_true rfl) dX6_change_22 ⟨Nat.le_of_ble_eq_true rfl, Nat.le_of_ble_eq_true rfl⟩) (fun r5 u H locs hf Z => ?_)
  obtain ⟨b6, lb7⟩ := u
  have Z : ig_Z D kk ad bs s H locs a la b6 lb7 lo := Z
  refine lv_if_eq (tgt := 37) F.1 F.2.1 dX6_change_25 (by decide) (fun c_8 => ?_) (fun c_8 => ?_)
  · have hf := hf.1 c_8
    refine lv_iconst (v := 0) F.1 F.2.1 dX6_change_37 (by decide) ?_
    exact W.iret (v := 0) F.1 F.2.1 hr (fun t ht hW => ⟨⟨_, (b6, lb7), rfl, hf, Z.wd E ht hW⟩, Z.fr ht⟩) Z.2.2.2 dX6_change_38
  · have hf := hf.2 c_8
    refine lv_aload_n F.1 F.2.1 dX6_change_28 rfl (lv_at hl 0 rfl) ?_
    refine lv_iload_n F.1 F.2.1 dX6_change_29 rfl (lv_at hl 1 rfl) ?_
    refine lv_iload_n F.1 F.2.1 dX6_change_30 rfl (lv_at hl 2 rfl) ?_
    have hM := k_X6_changeOf l (D := D) (kk := kk) (ad := ad) (bs := bs) (a := a) (la := la) (b := b6) (lb := lb7) (lo := lo) x1 x2 hf
    refine ig_calli E Z (ig_runV (As := [.int x1, .int x2]) (rest := []) F E Z hl G_X6_162 hM (i := 97) (by decide) (ig_k_97 _ _ _ _ _ _) rfl rfl md_X6_changeOf rfl ⟨rfl, rfl⟩ ⟨Nat.le_of_ble_eq_true rfl, Nat.le_of_ble_eq_true rfl⟩ (Nat.le_of_ble_eq_true rfl) dX6_change_31 ⟨Nat.le_of_ble_eq_true rfl, Nat.le_of_ble_eq_true rfl⟩) (fun r9 u H locs hf Z => ?_)
    refine lv_goto (tgt := 38) F.1 F.2.1 dX6_change_34 (by decide) ?_
    exact W.iret (v := r9) F.1 F.2.1 hr (fun t ht hW => ⟨⟨_, (b6, lb7), rfl, hf, Z.wd E ht hW⟩, Z.fr ht⟩) Z.2.2.2 dX6_change_38
set_option maxHeartbeats 4000000 in
set_option maxRecDepth 100000 in
theorem k_X6_change (l : Launch) {D : va_G} {kk : Nat → ClassId} {ad : Nat → Nat} {bs : Nat} {a : ig_M} {la : Int64} {b : ig_M} {lb lo : Int64} (x1 : Int32) (x2 : Int32) {post : Int32 → ig_M → Int64 → Prop} (hf : wp_X6_change b lb x1 x2 post) : Met l yX6_change (ig_ws yX6_change cX6_change 3 (some .int)) (k2_rm 2 47) (va_Pc [.ref (ad 97), .int x1, .int x2] (ig_Wd D kk ad bs a la b lb lo)) (va_Qi (fun (r : Int32) (u : ig_M × Int64) => post r u.1 u.2) (fun u t => ig_Wd D kk ad bs a la u.1 u.2 lo t) (ig_A bs)) 0 0 (ig_A bs) := by
  refine Met.ofW (cc := cX6_change) (maxL := 3) (ret := (some .int)) (by decide) rfl ?_
  intro p e s m args below meth c s₁ B hml hv
  obtain ⟨rfl, E, hP⟩ := hv
  have hk := B.notSynchronized
  have hr := B.returns
  have F : CallFix p m c cX6_change 3 s _ ig_all RX6 := ⟨B.exec, B.bytes, hml, findClass_of_methodNamed B.named, fun w hw => atoms_spec B.pre w (List.mem_cons_of_mem _ hw)⟩
  have Z : ig_Z D kk ad bs s s.heap [] a la b lb lo := ig_Z.rf hP
  have hl := lv_entry ([.ref (ad 97), .int x1, .int x2]) (n := 3) (Nat.le_of_ble_eq_true rfl)
  rw [lg_entry_eq]
  generalize (lg_sl ([.ref (ad 97), .int x1, .int x2]) ++ List.replicate (3 - (lg_sl ([.ref (ad 97), .int x1, .int x2])).length) Slot.unset).toArray = ls at hl ⊢
  have hl : lv_has ls 3 [(0, .ref (ad 97)), (1, .int x1), (2, .int x2)] := hl
  refine lv_aload_n F.1 F.2.1 dX6_change_0 rfl (lv_at hl 0 rfl) ?_
  refine lv_aload_n F.1 F.2.1 dX6_change_1 rfl (lv_at hl 0 rfl) ?_
  refine lv_iload_n F.1 F.2.1 dX6_change_2 rfl (lv_at hl 1 rfl) ?_
  have hM := k_X6_isStage l (D := D) (kk := kk) (ad := ad) (bs := bs) (a := a) (la := la) (b := b) (lb := lb) (lo := lo) x1 hf
  refine ig_calli E Z (ig_runV (As := [.int x1]) (rest := [.ref (ad 97)]) F E Z hl G_X6_100 hM (i := 97) (by decide) (ig_k_97 _ _ _ _ _ _) rfl rfl md_X6_isStage rfl ⟨rfl, rfl⟩ ⟨Nat.le_of_ble_eq_true rfl, Nat.le_of_ble_eq_true rfl⟩ (Nat.le_of_ble_eq_true rfl) dX6_change_3 ⟨Nat.le_of_ble_eq_true rfl, Nat.le_of_ble_eq_true rfl⟩) (fun r1 u H locs hf Z => ?_)
  refine lv_if_eq (tgt := 21) F.1 F.2.1 dX6_change_6 (by decide) (fun c_2 => ?_) (fun c_2 => ?_)
  · have hf := hf.1 c_2
    exact wm_X6_change_21 F E hr hk (wp_X6_change_22 post) post (fun v0 v1 v2 v3 v4 H locs ls  hf Z hl => wm_X6_change_22 F E hr hk post v0 v1 v2 v3 v4 H locs ls  hf Z hl) b lb x1 x2 _ _ _ hf Z (lv_sub hl [0, 1, 2] rfl)
  · have hf := hf.2 c_2
    refine lv_aload_n F.1 F.2.1 dX6_change_9 rfl (lv_at hl 0 rfl) ?_
    refine lv_iload_n F.1 F.2.1 dX6_change_10 rfl (lv_at hl 2 rfl) ?_
    have hM := k_X6_isStage l (D := D) (kk := kk) (ad := ad) (bs := bs) (a := a) (la := la) (b := b) (lb := lb) (lo := lo) x2 hf
    refine ig_calli E Z (ig_runV (As := [.int x2]) (rest := [.ref (ad 97)]) F E Z hl G_X6_100 hM (i := 97) (by decide) (ig_k_97 _ _ _ _ _ _) rfl rfl md_X6_isStage rfl ⟨rfl, rfl⟩ ⟨Nat.le_of_ble_eq_true rfl, Nat.le_of_ble_eq_true rfl⟩ (Nat.le_of_ble_eq_true rfl) dX6_change_11 ⟨Nat.le_of_ble_eq_true rfl, Nat.le_of_ble_eq_true rfl⟩) (fun r3 u H locs hf Z => ?_)
    refine lv_if_eq (tgt := 21) F.1 F.2.1 dX6_change_14 (by decide) (fun c_4 => ?_) (fun c_4 => ?_)
    · have hf := hf.1 c_4
      exact wm_X6_change_21 F E hr hk (wp_X6_change_22 post) post (fun v0 v1 v2 v3 v4 H locs ls  hf Z hl => wm_X6_change_22 F E hr hk post v0 v1 v2 v3 v4 H locs ls  hf Z hl) b lb x1 x2 _ _ _ hf Z (lv_sub hl [0, 1, 2] rfl)
    · have hf := hf.2 c_4
      refine lv_iconst (v := 0) F.1 F.2.1 dX6_change_17 (by decide) ?_
      refine lv_goto (tgt := 22) F.1 F.2.1 dX6_change_18 (by decide) ?_
      exact wm_X6_change_22 F E hr hk post b lb x1 x2 0 _ _ _ hf Z (lv_sub hl [0, 1, 2] rfl)
set_option maxHeartbeats 4000000 in
set_option maxRecDepth 100000 in
theorem wm_X6_leastOf_4 (F : CallFix p m c cX6_leastOf 4 s args ig_all RX6) (E : ig_E D kk ad bs s) (hr : meth.sig.returnType = (some .int)) (hk : meth.locks = false) (post : Int32 → Prop) :
    ∀ (n : Nat) (x1 : Int32) (x2 : Int32) (x3 : Int32) (H : Heap) (locs : List Loc) (ls : Array Slot), wp_X6_leastOf_4 b lb post n x1 x2 x3 → ig_Z D kk ad bs s H locs a la b lb lo → lv_has ls 4 [(0, .ref (ad 97)), (1, .int x1), (2, .int x2), (3, .int x3)] → W p l e (k2_rm 1 21) s m args below meth c H locs 0 0 (MQ below (va_Qi (fun (r : Int32) (_ : Unit) => post r) (fun _ t => ig_Wd D kk ad bs a la b lb lo t) (ig_A bs)) args s 0 0 (ig_A bs)) (F0 m 4 ls []) := by
  intro n
  induction n with
  | zero => intro x1 x2 x3 H locs ls hf Z hl; exact False.elim hf
  | succ n ih =>
    intro x1 x2 x3 H locs ls hf Z hl
    refine lv_iload_n F.1 F.2.1 dX6_leastOf_4 rfl (lv_at hl 3 rfl) ?_
    refine lv_aload_n F.1 F.2.1 dX6_leastOf_5 rfl (lv_at hl 0 rfl) ?_
    refine gf_X6_69 F E Z dX6_leastOf_6 ?_
    refine lv_icmp_ge (tgt := 52) F.1 F.2.1 dX6_leastOf_9 (by decide) (fun c_1 => ?_) (fun c_1 => ?_)
    · have hf := hf.1 c_1
      refine lv_iload_n F.1 F.2.1 dX6_leastOf_52 rfl (lv_at hl 2 rfl) ?_
      exact W.iret (v := x2) F.1 F.2.1 hr (fun t ht hW => ⟨⟨_, (), rfl, hf, Z.wd E ht hW⟩, Z.fr ht⟩) Z.2.2.2 dX6_leastOf_53
    · have hf := hf.2 c_1
      refine lv_aload_n F.1 F.2.1 dX6_leastOf_12 rfl (lv_at hl 0 rfl) ?_
      refine gf_X6_22 F E Z dX6_leastOf_13 ?_
      refine lv_iload_n F.1 F.2.1 dX6_leastOf_16 rfl (lv_at hl 1 rfl) ?_
      have hv2 := hf.1
      have hf := hf.2
      refine ig_iald (f := b 102) F E Z (by decide) (by rw [ig_mm_b _ _ (by decide)]; exact (ig_k_102 _ _ _ _ _ _)) hv2 dX6_leastOf_17 ?_
      refine lv_iload_n F.1 F.2.1 dX6_leastOf_18 rfl (lv_at hl 3 rfl) ?_
      have hM := k_X6_has l (D := D) (kk := kk) (ad := ad) (bs := bs) (a := a) (la := la) (b := b) (lb := lb) (lo := lo) (b 102 x1.toNatClampNeg) x3 hf
      refine ig_calli E Z (ig_runS (As := [.int (b 102 x1.toNatClampNeg), .int x3]) (rest := []) F E Z hl G_X6_87 hM rfl md_X6_has rfl ⟨rfl, rfl⟩ ⟨Nat.le_of_ble_eq_true rfl, Nat.le_of_ble_eq_true rfl⟩ (Nat.le_of_ble_eq_true rfl) dX6_leastOf_19 ⟨Nat.le_of_ble_eq_true rfl, Nat.le_of_ble_eq_true rfl⟩) (fun r3 u H locs hf Z => ?_)
      refine lv_if_eq (tgt := 44) F.1 F.2.1 dX6_leastOf_22 (by decide) (fun c_4 => ?_) (fun c_4 => ?_)
      · have hf := hf.1 c_4
        refine lv_iload_n F.1 F.2.1 dX6_leastOf_44 rfl (lv_at hl 2 rfl) ?_
        refine lv_istore_n (lv' := [(2, .int x2), (0, .ref (ad 97)), (1, .int x1), (3, .int x3)]) F.1 F.2.1 dX6_leastOf_45 rfl hl (by decide) rfl (fun ls hl => ?_)
        refine lv_iinc (v := x3 + 1) (lv' := [(3, .int (x3 + 1)), (2, .int x2), (0, .ref (ad 97)), (1, .int x1)]) F.1 F.2.1 dX6_leastOf_46 hl (k := 3) rfl (by rfl) (by decide) rfl (fun ls hl => ?_)
        refine lv_goto (tgt := 4) F.1 F.2.1 dX6_leastOf_49 (by decide) ?_
        exact ih x1 x2 (x3 + 1) _ _ _ hf Z (lv_sub hl [2, 3, 1, 0] rfl)
      · have hf := hf.2 c_4
        refine lv_aload_n F.1 F.2.1 dX6_leastOf_25 rfl (lv_at hl 0 rfl) ?_
        refine gf_X6_7 F E Z dX6_leastOf_26 ?_
        refine lv_iload_n F.1 F.2.1 dX6_leastOf_29 rfl (lv_at hl 3 rfl) ?_
        have hv5 := hf.1
        have hf := hf.2
        refine ig_iald (f := b 98) F E Z (by decide) (by rw [ig_mm_b _ _ (by decide)]; exact (ig_k_98 _ _ _ _ _ _)) hv5 dX6_leastOf_30 ?_
        refine lv_iload_n F.1 F.2.1 dX6_leastOf_31 rfl (lv_at hl 2 rfl) ?_
        refine lv_icmp_le (tgt := 44) F.1 F.2.1 dX6_leastOf_32 (by decide) (fun c_6 => ?_) (fun c_6 => ?_)
        · have hf := hf.1 c_6
          refine lv_iload_n F.1 F.2.1 dX6_leastOf_44 rfl (lv_at hl 2 rfl) ?_
          refine lv_istore_n (lv' := [(2, .int x2), (0, .ref (ad 97)), (1, .int x1), (3, .int x3)]) F.1 F.2.1 dX6_leastOf_45 rfl hl (by decide) rfl (fun ls hl => ?_)
          refine lv_iinc (v := x3 + 1) (lv' := [(3, .int (x3 + 1)), (2, .int x2), (0, .ref (ad 97)), (1, .int x1)]) F.1 F.2.1 dX6_leastOf_46 hl (k := 3) rfl (by rfl) (by decide) rfl (fun ls hl => ?_)
          refine lv_goto (tgt := 4) F.1 F.2.1 dX6_leastOf_49 (by decide) ?_
          exact ih x1 x2 (x3 + 1) _ _ _ hf Z (lv_sub hl [2, 3, 1, 0] rfl)
        · have hf := hf.2 c_6
          refine lv_aload_n F.1 F.2.1 dX6_leastOf_35 rfl (lv_at hl 0 rfl) ?_
          refine gf_X6_7 F E Z dX6_leastOf_36 ?_
          refine lv_iload_n F.1 F.2.1 dX6_leastOf_39 rfl (lv_at hl 3 rfl) ?_
          have hv7 := hf.1
          have hf := hf.2
          refine ig_iald (f := b 98) F E Z (by decide) (by rw [ig_mm_b _ _ (by decide)]; exact (ig_k_98 _ _ _ _ _ _)) hv7 dX6_leastOf_40 ?_
          refine lv_goto (tgt := 45) F.1 F.2.1 dX6_leastOf_41 (by decide) ?_
          refine lv_istore_n (lv' := [(2, .int (b 98 x3.toNatClampNeg)), (0, .ref (ad 97)), (1, .int x1), (3, .int x3)]) F.1 F.2.1 dX6_leastOf_45 rfl hl (by decide) rfl (fun ls hl => ?_)
          refine lv_iinc (v := x3 + 1) (lv' := [(3, .int (x3 + 1)), (2, .int (b 98 x3.toNatClampNeg)), (0, .ref (ad 97)), (1, .int x1)]) F.1 F.2.1 dX6_leastOf_46 hl (k := 3) rfl (by rfl) (by decide) rfl (fun ls hl => ?_)
          refine lv_goto (tgt := 4) F.1 F.2.1 dX6_leastOf_49 (by decide) ?_
          exact ih x1 (b 98 x3.toNatClampNeg) (x3 + 1) _ _ _ hf Z (lv_sub hl [2, 3, 1, 0] rfl)
set_option maxHeartbeats 4000000 in
set_option maxRecDepth 100000 in
theorem k_X6_leastOf (l : Launch) {D : va_G} {kk : Nat → ClassId} {ad : Nat → Nat} {bs : Nat} {a : ig_M} {la : Int64} {b : ig_M} {lb lo : Int64} (x1 : Int32) {post : Int32 → Prop} (hf : wp_X6_leastOf b lb x1 post) : Met l yX6_leastOf (ig_ws yX6_leastOf cX6_leastOf 4 (some .int)) (k2_rm 1 21) (va_Pc [.ref (ad 97), .int x1] (ig_Wd D kk ad bs a la b lb lo)) (va_Qi (fun (r : Int32) (_ : Unit) => post r) (fun _ t => ig_Wd D kk ad bs a la b lb lo t) (ig_A bs)) 0 0 (ig_A bs) := by
  refine Met.ofW (cc := cX6_leastOf) (maxL := 4) (ret := (some .int)) (by decide) rfl ?_
  intro p e s m args below meth c s₁ B hml hv
  obtain ⟨rfl, E, hP⟩ := hv
  have hk := B.notSynchronized
  have hr := B.returns
  have F : CallFix p m c cX6_leastOf 4 s _ ig_all RX6 := ⟨B.exec, B.bytes, hml, findClass_of_methodNamed B.named, fun w hw => atoms_spec B.pre w (List.mem_cons_of_mem _ hw)⟩
  have Z : ig_Z D kk ad bs s s.heap [] a la b lb lo := ig_Z.rf hP
  have hl := lv_entry ([.ref (ad 97), .int x1]) (n := 4) (Nat.le_of_ble_eq_true rfl)
  rw [lg_entry_eq]
  generalize (lg_sl ([.ref (ad 97), .int x1]) ++ List.replicate (4 - (lg_sl ([.ref (ad 97), .int x1])).length) Slot.unset).toArray = ls at hl ⊢
  have hl : lv_has ls 4 [(0, .ref (ad 97)), (1, .int x1)] := hl
  refine lv_iconst (v := 0) F.1 F.2.1 dX6_leastOf_0 (by decide) ?_
  refine lv_istore_n (lv' := [(2, .int 0), (0, .ref (ad 97)), (1, .int x1)]) F.1 F.2.1 dX6_leastOf_1 rfl hl (by decide) rfl (fun ls hl => ?_)
  refine lv_iconst (v := 0) F.1 F.2.1 dX6_leastOf_2 (by decide) ?_
  refine lv_istore_n (lv' := [(3, .int 0), (2, .int 0), (0, .ref (ad 97)), (1, .int x1)]) F.1 F.2.1 dX6_leastOf_3 rfl hl (by decide) rfl (fun ls hl => ?_)
  obtain ⟨n1, hf⟩ := hf
  exact wm_X6_leastOf_4 F E hr hk post n1 x1 0 0 _ _ _ hf Z (lv_sub hl [2, 3, 1, 0] rfl)
set_option maxHeartbeats 4000000 in
set_option maxRecDepth 100000 in
theorem wm_X6_isNew_4 (F : CallFix p m c cX6_isNew 4 s args ig_all RX6) (E : ig_E D kk ad bs s) (hr : meth.sig.returnType = (some .boolean)) (hk : meth.locks = false) (post : Int32 → Prop) :
    ∀ (n : Nat) (x1 : Int32) (x2 : Int32) (x3 : Int32) (H : Heap) (locs : List Loc) (ls : Array Slot), wp_X6_isNew_4 b lb post n x1 x2 x3 → ig_Z D kk ad bs s H locs a la b lb lo → lv_has ls 4 [(0, .ref (ad 97)), (1, .int x1), (2, .int x2), (3, .int x3)] → W p l e (k2_rm 0 0) s m args below meth c H locs 0 0 (MQ below (va_Qi (fun (r : Int32) (_ : Unit) => post r) (fun _ t => ig_Wd D kk ad bs a la b lb lo t) (ig_A bs)) args s 0 0 (ig_A bs)) (F0 m 4 ls []) := by
  intro n
  induction n with
  | zero => intro x1 x2 x3 H locs ls hf Z hl; exact False.elim hf
  | succ n ih =>
    intro x1 x2 x3 H locs ls hf Z hl
    refine lv_iload_n F.1 F.2.1 dX6_isNew_4 rfl (lv_at hl 3 rfl) ?_
    refine lv_iload_n F.1 F.2.1 dX6_isNew_5 rfl (lv_at hl 1 rfl) ?_
    refine lv_icmp_ge (tgt := 40) F.1 F.2.1 dX6_isNew_6 (by decide) (fun c_1 => ?_) (fun c_1 => ?_)
    · have hf := hf.1 c_1
      refine lv_iload_n F.1 F.2.1 dX6_isNew_40 rfl (lv_at hl 2 rfl) ?_
      exact W.zret (v := x2) F.1 F.2.1 hr (ig_narrow hf.1) (fun t ht hW => ⟨⟨_, (), rfl, hf.2, Z.wd E ht hW⟩, Z.fr ht⟩) Z.2.2.2 dX6_isNew_41
    · have hf := hf.2 c_1
      refine lv_iload_n F.1 F.2.1 dX6_isNew_9 rfl (lv_at hl 2 rfl) ?_
      refine lv_if_eq (tgt := 32) F.1 F.2.1 dX6_isNew_10 (by decide) (fun c_2 => ?_) (fun c_2 => ?_)
      · have hf := hf.1 c_2
        refine lv_iconst (v := 0) F.1 F.2.1 dX6_isNew_32 (by decide) ?_
        refine lv_istore_n (lv' := [(2, .int 0), (0, .ref (ad 97)), (1, .int x1), (3, .int x3)]) F.1 F.2.1 dX6_isNew_33 rfl hl (by decide) rfl (fun ls hl => ?_)
        refine lv_iinc (v := x3 + 1) (lv' := [(3, .int (x3 + 1)), (2, .int 0), (0, .ref (ad 97)), (1, .int x1)]) F.1 F.2.1 dX6_isNew_34 hl (k := 3) rfl (by rfl) (by decide) rfl (fun ls hl => ?_)
        refine lv_goto (tgt := 4) F.1 F.2.1 dX6_isNew_37 (by decide) ?_
        exact ih x1 0 (x3 + 1) _ _ _ hf Z (lv_sub hl [2, 3, 1, 0] rfl)
      · have hf := hf.2 c_2
        refine lv_aload_n F.1 F.2.1 dX6_isNew_13 rfl (lv_at hl 0 rfl) ?_
        refine gf_X6_60 F E Z dX6_isNew_14 ?_
        refine lv_iload_n F.1 F.2.1 dX6_isNew_17 rfl (lv_at hl 3 rfl) ?_
        have hv3 := hf.1
        have hf := hf.2
        refine ig_iald (f := b 113) F E Z (by decide) (by rw [ig_mm_b _ _ (by decide)]; exact (ig_k_113 _ _ _ _ _ _)) hv3 dX6_isNew_18 ?_
        refine lv_aload_n F.1 F.2.1 dX6_isNew_19 rfl (lv_at hl 0 rfl) ?_
        refine gf_X6_60 F E Z dX6_isNew_20 ?_
        refine lv_iload_n F.1 F.2.1 dX6_isNew_23 rfl (lv_at hl 1 rfl) ?_
        have hv4 := hf.1
        have hf := hf.2
        refine ig_iald (f := b 113) F E Z (by decide) (by rw [ig_mm_b _ _ (by decide)]; exact (ig_k_113 _ _ _ _ _ _)) hv4 dX6_isNew_24 ?_
        refine lv_icmp_eq (tgt := 32) F.1 F.2.1 dX6_isNew_25 (by decide) (fun c_5 => ?_) (fun c_5 => ?_)
        · have hf := hf.1 c_5
          refine lv_iconst (v := 0) F.1 F.2.1 dX6_isNew_32 (by decide) ?_
          refine lv_istore_n (lv' := [(2, .int 0), (0, .ref (ad 97)), (1, .int x1), (3, .int x3)]) F.1 F.2.1 dX6_isNew_33 rfl hl (by decide) rfl (fun ls hl => ?_)
          refine lv_iinc (v := x3 + 1) (lv' := [(3, .int (x3 + 1)), (2, .int 0), (0, .ref (ad 97)), (1, .int x1)]) F.1 F.2.1 dX6_isNew_34 hl (k := 3) rfl (by rfl) (by decide) rfl (fun ls hl => ?_)
          refine lv_goto (tgt := 4) F.1 F.2.1 dX6_isNew_37 (by decide) ?_
          exact ih x1 0 (x3 + 1) _ _ _ hf Z (lv_sub hl [2, 3, 1, 0] rfl)
        · have hf := hf.2 c_5
          refine lv_iconst (v := 1) F.1 F.2.1 dX6_isNew_28 (by decide) ?_
          refine lv_goto (tgt := 33) F.1 F.2.1 dX6_isNew_29 (by decide) ?_
          refine lv_istore_n (lv' := [(2, .int 1), (0, .ref (ad 97)), (1, .int x1), (3, .int x3)]) F.1 F.2.1 dX6_isNew_33 rfl hl (by decide) rfl (fun ls hl => ?_)
          refine lv_iinc (v := x3 + 1) (lv' := [(3, .int (x3 + 1)), (2, .int 1), (0, .ref (ad 97)), (1, .int x1)]) F.1 F.2.1 dX6_isNew_34 hl (k := 3) rfl (by rfl) (by decide) rfl (fun ls hl => ?_)
          refine lv_goto (tgt := 4) F.1 F.2.1 dX6_isNew_37 (by decide) ?_
          exact ih x1 1 (x3 + 1) _ _ _ hf Z (lv_sub hl [2, 3, 1, 0] rfl)
set_option maxHeartbeats 4000000 in
set_option maxRecDepth 100000 in
theorem k_X6_isNew (l : Launch) {D : va_G} {kk : Nat → ClassId} {ad : Nat → Nat} {bs : Nat} {a : ig_M} {la : Int64} {b : ig_M} {lb lo : Int64} (x1 : Int32) {post : Int32 → Prop} (hf : wp_X6_isNew b lb x1 post) : Met l yX6_isNew (ig_ws yX6_isNew cX6_isNew 4 (some .boolean)) (k2_rm 0 0) (va_Pc [.ref (ad 97), .int x1] (ig_Wd D kk ad bs a la b lb lo)) (va_Qi (fun (r : Int32) (_ : Unit) => post r) (fun _ t => ig_Wd D kk ad bs a la b lb lo t) (ig_A bs)) 0 0 (ig_A bs) := by
  refine Met.ofW (cc := cX6_isNew) (maxL := 4) (ret := (some .boolean)) (by decide) rfl ?_
  intro p e s m args below meth c s₁ B hml hv
  obtain ⟨rfl, E, hP⟩ := hv
  have hk := B.notSynchronized
  have hr := B.returns
  have F : CallFix p m c cX6_isNew 4 s _ ig_all RX6 := ⟨B.exec, B.bytes, hml, findClass_of_methodNamed B.named, fun w hw => atoms_spec B.pre w (List.mem_cons_of_mem _ hw)⟩
  have Z : ig_Z D kk ad bs s s.heap [] a la b lb lo := ig_Z.rf hP
  have hl := lv_entry ([.ref (ad 97), .int x1]) (n := 4) (Nat.le_of_ble_eq_true rfl)
  rw [lg_entry_eq]
  generalize (lg_sl ([.ref (ad 97), .int x1]) ++ List.replicate (4 - (lg_sl ([.ref (ad 97), .int x1])).length) Slot.unset).toArray = ls at hl ⊢
  have hl : lv_has ls 4 [(0, .ref (ad 97)), (1, .int x1)] := hl
  refine lv_iconst (v := 1) F.1 F.2.1 dX6_isNew_0 (by decide) ?_
  refine lv_istore_n (lv' := [(2, .int 1), (0, .ref (ad 97)), (1, .int x1)]) F.1 F.2.1 dX6_isNew_1 rfl hl (by decide) rfl (fun ls hl => ?_)
  refine lv_iconst (v := 0) F.1 F.2.1 dX6_isNew_2 (by decide) ?_
  refine lv_istore_n (lv' := [(3, .int 0), (2, .int 1), (0, .ref (ad 97)), (1, .int x1)]) F.1 F.2.1 dX6_isNew_3 rfl hl (by decide) rfl (fun ls hl => ?_)
  obtain ⟨n1, hf⟩ := hf
  exact wm_X6_isNew_4 F E hr hk post n1 x1 1 0 _ _ _ hf Z (lv_sub hl [2, 3, 1, 0] rfl)
set_option maxHeartbeats 4000000 in
set_option maxRecDepth 100000 in
theorem wm_X6_takes_4 (F : CallFix p m c cX6_takes 3 s args ig_all RX6) (E : ig_E D kk ad bs s) (hr : meth.sig.returnType = (some .int)) (hk : meth.locks = false) (post : Int32 → Prop) :
    ∀ (n : Nat) (x1 : Int32) (x2 : Int32) (H : Heap) (locs : List Loc) (ls : Array Slot), wp_X6_takes_4 b lb post n x1 x2 → ig_Z D kk ad bs s H locs a la b lb lo → lv_has ls 3 [(0, .ref (ad 97)), (1, .int x1), (2, .int x2)] → W p l e (k2_rm 2 47) s m args below meth c H locs 0 0 (MQ below (va_Qi (fun (r : Int32) (_ : Unit) => post r) (fun _ t => ig_Wd D kk ad bs a la b lb lo t) (ig_A bs)) args s 0 0 (ig_A bs)) (F0 m 4 ls []) := by
  intro n
  induction n with
  | zero => intro x1 x2 H locs ls hf Z hl; exact False.elim hf
  | succ n ih =>
    intro x1 x2 H locs ls hf Z hl
    refine lv_iload_n F.1 F.2.1 dX6_takes_4 rfl (lv_at hl 2 rfl) ?_
    refine lv_aload_n F.1 F.2.1 dX6_takes_5 rfl (lv_at hl 0 rfl) ?_
    refine gf_X6_76 F E Z dX6_takes_6 ?_
    refine lv_icmp_ge (tgt := 55) F.1 F.2.1 dX6_takes_9 (by decide) (fun c_1 => ?_) (fun c_1 => ?_)
    · have hf := hf.1 c_1
      refine lv_iload_n F.1 F.2.1 dX6_takes_55 rfl (lv_at hl 1 rfl) ?_
      exact W.iret (v := x1) F.1 F.2.1 hr (fun t ht hW => ⟨⟨_, (), rfl, hf, Z.wd E ht hW⟩, Z.fr ht⟩) Z.2.2.2 dX6_takes_56
    · have hf := hf.2 c_1
      refine lv_iload_n F.1 F.2.1 dX6_takes_12 rfl (lv_at hl 1 rfl) ?_
      refine lv_aload_n F.1 F.2.1 dX6_takes_13 rfl (lv_at hl 0 rfl) ?_
      refine lv_aload_n F.1 F.2.1 dX6_takes_14 rfl (lv_at hl 0 rfl) ?_
      refine gf_X6_60 F E Z dX6_takes_15 ?_
      refine lv_iload_n F.1 F.2.1 dX6_takes_18 rfl (lv_at hl 2 rfl) ?_
      have hv2 := hf.1
      have hf := hf.2
      refine ig_iald (f := b 113) F E Z (by decide) (by rw [ig_mm_b _ _ (by decide)]; exact (ig_k_113 _ _ _ _ _ _)) hv2 dX6_takes_19 ?_
      have hM := k_X6_leastOf l (D := D) (kk := kk) (ad := ad) (bs := bs) (a := a) (la := la) (b := b) (lb := lb) (lo := lo) (b 113 x2.toNatClampNeg) hf
      refine ig_calli E Z (ig_runV (As := [.int (b 113 x2.toNatClampNeg)]) (rest := [.int x1]) F E Z hl G_X6_165 hM (i := 97) (by decide) (ig_k_97 _ _ _ _ _ _) rfl rfl md_X6_leastOf rfl ⟨rfl, rfl⟩ ⟨Nat.le_of_ble_eq_true rfl, Nat.le_of_ble_eq_true rfl⟩ (Nat.le_of_ble_eq_true rfl) dX6_takes_20 ⟨Nat.le_of_ble_eq_true rfl, Nat.le_of_ble_eq_true rfl⟩) (fun r3 u H locs hf Z => ?_)
      refine lv_aload_n F.1 F.2.1 dX6_takes_23 rfl (lv_at hl 0 rfl) ?_
      refine lv_aload_n F.1 F.2.1 dX6_takes_24 rfl (lv_at hl 0 rfl) ?_
      refine gf_X6_60 F E Z dX6_takes_25 ?_
      refine lv_iload_n F.1 F.2.1 dX6_takes_28 rfl (lv_at hl 2 rfl) ?_
      have hv4 := hf.1
      have hf := hf.2
      refine ig_iald (f := b 113) F E Z (by decide) (by rw [ig_mm_b _ _ (by decide)]; exact (ig_k_113 _ _ _ _ _ _)) hv4 dX6_takes_29 ?_
      refine lv_aload_n F.1 F.2.1 dX6_takes_30 rfl (lv_at hl 0 rfl) ?_
      refine gf_X6_60 F E Z dX6_takes_31 ?_
      refine lv_iload_n F.1 F.2.1 dX6_takes_34 rfl (lv_at hl 2 rfl) ?_
      refine lv_iconst (v := 1) F.1 F.2.1 dX6_takes_35 (by decide) ?_
      refine lv_iadd F.1 F.2.1 dX6_takes_36 ?_
      refine lv_aload_n F.1 F.2.1 dX6_takes_37 rfl (lv_at hl 0 rfl) ?_
      refine gf_X6_76 F E Z dX6_takes_38 ?_
      have hz5 := hf.1
      have hf := hf.2
      refine lv_irem F.1 F.2.1 dX6_takes_41 hz5 ?_
      have hv6 := hf.1
      have hf := hf.2
      refine ig_iald (f := b 113) F E Z (by decide) (by rw [ig_mm_b _ _ (by decide)]; exact (ig_k_113 _ _ _ _ _ _)) hv6 dX6_takes_42 ?_
      have hM := k_X6_changeOf l (D := D) (kk := kk) (ad := ad) (bs := bs) (a := a) (la := la) (b := b) (lb := lb) (lo := lo) (b 113 x2.toNatClampNeg) (b 113 ((x2 + 1) - (x2 + 1) / (b 97 7) * (b 97 7)).toNatClampNeg) hf
      refine ig_calli E Z (ig_runV (As := [.int (b 113 x2.toNatClampNeg), .int (b 113 ((x2 + 1) - (x2 + 1) / (b 97 7) * (b 97 7)).toNatClampNeg)]) (rest := [.int r3, .int x1]) F E Z hl G_X6_162 hM (i := 97) (by decide) (ig_k_97 _ _ _ _ _ _) rfl rfl md_X6_changeOf rfl ⟨rfl, rfl⟩ ⟨Nat.le_of_ble_eq_true rfl, Nat.le_of_ble_eq_true rfl⟩ (Nat.le_of_ble_eq_true rfl) dX6_takes_43 ⟨Nat.le_of_ble_eq_true rfl, Nat.le_of_ble_eq_true rfl⟩) (fun r7 u H locs hf Z => ?_)
      refine lv_iadd F.1 F.2.1 dX6_takes_46 ?_
      refine lv_iadd F.1 F.2.1 dX6_takes_47 ?_
      refine lv_istore_n (lv' := [(1, .int (x1 + (r3 + r7))), (0, .ref (ad 97)), (2, .int x2)]) F.1 F.2.1 dX6_takes_48 rfl hl (by decide) rfl (fun ls hl => ?_)
      refine lv_iinc (v := x2 + 1) (lv' := [(2, .int (x2 + 1)), (1, .int (x1 + (r3 + r7))), (0, .ref (ad 97))]) F.1 F.2.1 dX6_takes_49 hl (k := 2) rfl (by rfl) (by decide) rfl (fun ls hl => ?_)
      refine lv_goto (tgt := 4) F.1 F.2.1 dX6_takes_52 (by decide) ?_
      exact ih (x1 + (r3 + r7)) (x2 + 1) _ _ _ hf Z (lv_sub hl [2, 1, 0] rfl)
set_option maxHeartbeats 4000000 in
set_option maxRecDepth 100000 in
theorem k_X6_takes (l : Launch) {D : va_G} {kk : Nat → ClassId} {ad : Nat → Nat} {bs : Nat} {a : ig_M} {la : Int64} {b : ig_M} {lb lo : Int64} {post : Int32 → Prop} (hf : wp_X6_takes b lb post) : Met l yX6_takes (ig_ws yX6_takes cX6_takes 3 (some .int)) (k2_rm 2 47) (va_Pc [.ref (ad 97)] (ig_Wd D kk ad bs a la b lb lo)) (va_Qi (fun (r : Int32) (_ : Unit) => post r) (fun _ t => ig_Wd D kk ad bs a la b lb lo t) (ig_A bs)) 0 0 (ig_A bs) := by
  refine Met.ofW (cc := cX6_takes) (maxL := 3) (ret := (some .int)) (by decide) rfl ?_
  intro p e s m args below meth c s₁ B hml hv
  obtain ⟨rfl, E, hP⟩ := hv
  have hk := B.notSynchronized
  have hr := B.returns
  have F : CallFix p m c cX6_takes 3 s _ ig_all RX6 := ⟨B.exec, B.bytes, hml, findClass_of_methodNamed B.named, fun w hw => atoms_spec B.pre w (List.mem_cons_of_mem _ hw)⟩
  have Z : ig_Z D kk ad bs s s.heap [] a la b lb lo := ig_Z.rf hP
  have hl := lv_entry ([.ref (ad 97)]) (n := 3) (Nat.le_of_ble_eq_true rfl)
  rw [lg_entry_eq]
  generalize (lg_sl ([.ref (ad 97)]) ++ List.replicate (3 - (lg_sl ([.ref (ad 97)])).length) Slot.unset).toArray = ls at hl ⊢
  have hl : lv_has ls 3 [(0, .ref (ad 97))] := hl
  refine lv_iconst (v := 0) F.1 F.2.1 dX6_takes_0 (by decide) ?_
  refine lv_istore_n (lv' := [(1, .int 0), (0, .ref (ad 97))]) F.1 F.2.1 dX6_takes_1 rfl hl (by decide) rfl (fun ls hl => ?_)
  refine lv_iconst (v := 0) F.1 F.2.1 dX6_takes_2 (by decide) ?_
  refine lv_istore_n (lv' := [(2, .int 0), (1, .int 0), (0, .ref (ad 97))]) F.1 F.2.1 dX6_takes_3 rfl hl (by decide) rfl (fun ls hl => ?_)
  obtain ⟨n1, hf⟩ := hf
  exact wm_X6_takes_4 F E hr hk post n1 0 0 _ _ _ hf Z (lv_sub hl [2, 1, 0] rfl)
set_option maxHeartbeats 4000000 in
set_option maxRecDepth 100000 in
theorem wm_X6_shortest_141 (F : CallFix p m c cX6_shortest 6 s args ig_all RX6) (E : ig_E D kk ad bs s) (hr : meth.sig.returnType = (some .int)) (hk : meth.locks = false) (k_11 : ig_M → Int64 → Int32 → Int32 → Prop) (post : Int32 → ig_M → Int64 → Prop) (h_11 : ∀ (b : ig_M) (lb : Int64) (x1 : Int32) (x2 : Int32) (H : Heap) (locs : List Loc) (ls : Array Slot), k_11 b lb x1 x2 → ig_Z D kk ad bs s H locs a la b lb lo → lv_has ls 6 [(0, .ref (ad 97)), (1, .int x1), (2, .int x2)] → W p l e (k2_rm 3 69) s m args below meth c H locs 0 0 (MQ below (va_Qi (fun (r : Int32) (u : ig_M × Int64) => post r u.1 u.2) (fun u t => ig_Wd D kk ad bs a la u.1 u.2 lo t) (ig_A bs)) args s 0 0 (ig_A bs)) (F0 m 11 ls [])) :
    ∀ (b : ig_M) (lb : Int64) (x1 : Int32) (x2 : Int32) (x3 : Int32) (x4 : Int32) (H : Heap) (locs : List Loc) (ls : Array Slot), wp_X6_shortest_141 k_11 post b lb x1 x2 x3 x4 → ig_Z D kk ad bs s H locs a la b lb lo → lv_has ls 6 [(0, .ref (ad 97)), (1, .int x1), (2, .int x2), (3, .int x3), (4, .int x4)] → W p l e (k2_rm 3 69) s m args below meth c H locs 0 0 (MQ below (va_Qi (fun (r : Int32) (u : ig_M × Int64) => post r u.1 u.2) (fun u t => ig_Wd D kk ad bs a la u.1 u.2 lo t) (ig_A bs)) args s 0 0 (ig_A bs)) (F0 m 141 ls []) := by
  intro b lb x1 x2 x3 x4 H locs ls hf Z hl
  refine lv_iload F.1 F.2.1 dX6_shortest_141 (lv_at hl 4 rfl) ?_
  refine lv_if_eq (tgt := 150) F.1 F.2.1 dX6_shortest_143 (by decide) (fun c_24 => ?_) (fun c_24 => ?_)
  · have hf := hf.1 c_24
    refine lv_iload_n F.1 F.2.1 dX6_shortest_150 rfl (lv_at hl 1 rfl) ?_
    refine lv_istore_n (lv' := [(1, .int x1), (0, .ref (ad 97)), (2, .int x2), (3, .int x3), (4, .int x4)]) F.1 F.2.1 dX6_shortest_151 rfl hl (by decide) rfl (fun ls hl => ?_)
    refine lv_goto (tgt := 11) F.1 F.2.1 dX6_shortest_152 (by decide) ?_
    exact h_11 b lb x1 x2 _ _ _ hf Z (lv_sub hl [1, 0, 2] rfl)
  · have hf := hf.2 c_24
    refine lv_iload_n F.1 F.2.1 dX6_shortest_146 rfl (lv_at hl 3 rfl) ?_
    refine lv_goto (tgt := 151) F.1 F.2.1 dX6_shortest_147 (by decide) ?_
    refine lv_istore_n (lv' := [(1, .int x3), (0, .ref (ad 97)), (2, .int x2), (3, .int x3), (4, .int x4)]) F.1 F.2.1 dX6_shortest_151 rfl hl (by decide) rfl (fun ls hl => ?_)
    refine lv_goto (tgt := 11) F.1 F.2.1 dX6_shortest_152 (by decide) ?_
    exact h_11 b lb x3 x2 _ _ _ hf Z (lv_sub hl [1, 0, 2] rfl)
set_option maxHeartbeats 4000000 in
set_option maxRecDepth 100000 in
theorem wm_X6_shortest_107 (F : CallFix p m c cX6_shortest 6 s args ig_all RX6) (E : ig_E D kk ad bs s) (hr : meth.sig.returnType = (some .int)) (hk : meth.locks = false) (k_11 : ig_M → Int64 → Int32 → Int32 → Prop) (post : Int32 → ig_M → Int64 → Prop) (h_11 : ∀ (b : ig_M) (lb : Int64) (x1 : Int32) (x2 : Int32) (H : Heap) (locs : List Loc) (ls : Array Slot), k_11 b lb x1 x2 → ig_Z D kk ad bs s H locs a la b lb lo → lv_has ls 6 [(0, .ref (ad 97)), (1, .int x1), (2, .int x2)] → W p l e (k2_rm 3 69) s m args below meth c H locs 0 0 (MQ below (va_Qi (fun (r : Int32) (u : ig_M × Int64) => post r u.1 u.2) (fun u t => ig_Wd D kk ad bs a la u.1 u.2 lo t) (ig_A bs)) args s 0 0 (ig_A bs)) (F0 m 11 ls [])) :
    ∀ (n : Nat) (b : ig_M) (lb : Int64) (x1 : Int32) (x2 : Int32) (x3 : Int32) (x4 : Int32) (x5 : Int32) (H : Heap) (locs : List Loc) (ls : Array Slot), wp_X6_shortest_107 k_11 post n b lb x1 x2 x3 x4 x5 → ig_Z D kk ad bs s H locs a la b lb lo → lv_has ls 6 [(0, .ref (ad 97)), (1, .int x1), (2, .int x2), (3, .int x3), (4, .int x4), (5, .int x5)] → W p l e (k2_rm 3 69) s m args below meth c H locs 0 0 (MQ below (va_Qi (fun (r : Int32) (u : ig_M × Int64) => post r u.1 u.2) (fun u t => ig_Wd D kk ad bs a la u.1 u.2 lo t) (ig_A bs)) args s 0 0 (ig_A bs)) (F0 m 107 ls []) := by
  intro n
  induction n with
  | zero => intro b lb x1 x2 x3 x4 x5 H locs ls hf Z hl; exact False.elim hf
  | succ n ih =>
    intro b lb x1 x2 x3 x4 x5 H locs ls hf Z hl
    refine lv_iload F.1 F.2.1 dX6_shortest_107 (lv_at hl 5 rfl) ?_
    refine lv_aload_n F.1 F.2.1 dX6_shortest_109 rfl (lv_at hl 0 rfl) ?_
    refine gf_X6_76 F E Z dX6_shortest_110 ?_
    refine lv_icmp_ge (tgt := 141) F.1 F.2.1 dX6_shortest_113 (by decide) (fun c_19 => ?_) (fun c_19 => ?_)
    · have hf := hf.1 c_19
      exact wm_X6_shortest_141 F E hr hk k_11 post h_11 b lb x1 x2 x3 x4 _ _ _ hf Z (lv_sub hl [0, 1, 2, 3, 4] rfl)
    · have hf := hf.2 c_19
      refine lv_iload F.1 F.2.1 dX6_shortest_116 (lv_at hl 4 rfl) ?_
      refine lv_if_eq (tgt := 141) F.1 F.2.1 dX6_shortest_118 (by decide) (fun c_20 => ?_) (fun c_20 => ?_)
      · have hf := hf.1 c_20
        exact wm_X6_shortest_141 F E hr hk k_11 post h_11 b lb x1 x2 x3 x4 _ _ _ hf Z (lv_sub hl [0, 1, 2, 3, 4] rfl)
      · have hf := hf.2 c_20
        refine lv_aload_n F.1 F.2.1 dX6_shortest_121 rfl (lv_at hl 0 rfl) ?_
        refine gf_X6_63 F E Z dX6_shortest_122 ?_
        refine lv_iload F.1 F.2.1 dX6_shortest_125 (lv_at hl 5 rfl) ?_
        refine lv_aload_n F.1 F.2.1 dX6_shortest_127 rfl (lv_at hl 0 rfl) ?_
        refine gf_X6_60 F E Z dX6_shortest_128 ?_
        refine lv_iload F.1 F.2.1 dX6_shortest_131 (lv_at hl 5 rfl) ?_
        have hv21 := hf.1
        have hf := hf.2
        refine ig_iald (f := b 113) F E Z (by decide) (by rw [ig_mm_b _ _ (by decide)]; exact (ig_k_113 _ _ _ _ _ _)) hv21 dX6_shortest_133 ?_
        have hv22 := hf.1
        have hf := hf.2
        refine ig_iastB (n := 6) F E Z (by decide) (by decide) (fun r => ig_k_114 _ _ _ _ _ r) hv22 dX6_shortest_134 (fun H locs b23 hb23 Z => ?_)
        have hf := hf b23 hb23
        refine lv_iinc (v := x5 + 1) (lv' := [(5, .int (x5 + 1)), (0, .ref (ad 97)), (1, .int x1), (2, .int x2), (3, .int x3), (4, .int x4)]) F.1 F.2.1 dX6_shortest_135 hl (k := 5) rfl (by rfl) (by decide) rfl (fun ls hl => ?_)
        refine lv_goto (tgt := 107) F.1 F.2.1 dX6_shortest_138 (by decide) ?_
        exact ih b23 lb x1 x2 x3 x4 (x5 + 1) _ _ _ hf Z (lv_sub hl [1, 2, 3, 4, 5, 0] rfl)
set_option maxHeartbeats 4000000 in
set_option maxRecDepth 100000 in
theorem wm_X6_shortest_155 (F : CallFix p m c cX6_shortest 6 s args ig_all RX6) (E : ig_E D kk ad bs s) (hr : meth.sig.returnType = (some .int)) (hk : meth.locks = false) (k_11 : ig_M → Int64 → Int32 → Int32 → Prop) (post : Int32 → ig_M → Int64 → Prop) (h_11 : ∀ (b : ig_M) (lb : Int64) (x1 : Int32) (x2 : Int32) (H : Heap) (locs : List Loc) (ls : Array Slot), k_11 b lb x1 x2 → ig_Z D kk ad bs s H locs a la b lb lo → lv_has ls 6 [(0, .ref (ad 97)), (1, .int x1), (2, .int x2)] → W p l e (k2_rm 3 69) s m args below meth c H locs 0 0 (MQ below (va_Qi (fun (r : Int32) (u : ig_M × Int64) => post r u.1 u.2) (fun u t => ig_Wd D kk ad bs a la u.1 u.2 lo t) (ig_A bs)) args s 0 0 (ig_A bs)) (F0 m 11 ls [])) :
    ∀ (b : ig_M) (lb : Int64) (x1 : Int32) (x2 : Int32) (H : Heap) (locs : List Loc) (ls : Array Slot), wp_X6_shortest_155 k_11 post b lb x1 x2 → ig_Z D kk ad bs s H locs a la b lb lo → lv_has ls 6 [(0, .ref (ad 97)), (1, .int x1), (2, .int x2)] → W p l e (k2_rm 3 69) s m args below meth c H locs 0 0 (MQ below (va_Qi (fun (r : Int32) (u : ig_M × Int64) => post r u.1 u.2) (fun u t => ig_Wd D kk ad bs a la u.1 u.2 lo t) (ig_A bs)) args s 0 0 (ig_A bs)) (F0 m 155 ls []) := by
  intro b lb x1 x2 H locs ls hf Z hl
  refine lv_aload_n F.1 F.2.1 dX6_shortest_155 rfl (lv_at hl 0 rfl) ?_
  refine lv_iload_n F.1 F.2.1 dX6_shortest_156 rfl (lv_at hl 2 rfl) ?_
  have hM := k_X6_isNew l (D := D) (kk := kk) (ad := ad) (bs := bs) (a := a) (la := la) (b := b) (lb := lb) (lo := lo) x2 hf
  refine ig_calli E Z (ig_runV (As := [.int x2]) (rest := []) F E Z hl G_X6_169 hM (i := 97) (by decide) (ig_k_97 _ _ _ _ _ _) rfl rfl md_X6_isNew rfl ⟨rfl, rfl⟩ ⟨Nat.le_of_ble_eq_true rfl, Nat.le_of_ble_eq_true rfl⟩ (Nat.le_of_ble_eq_true rfl) dX6_shortest_157 ⟨Nat.le_of_ble_eq_true rfl, Nat.le_of_ble_eq_true rfl⟩) (fun r25 u H locs hf Z => ?_)
  refine lv_if_eq (tgt := 11) F.1 F.2.1 dX6_shortest_160 (by decide) (fun c_26 => ?_) (fun c_26 => ?_)
  · have hf := hf.1 c_26
    exact h_11 b lb x1 x2 _ _ _ hf Z (lv_sub hl [0, 1, 2] rfl)
  · have hf := hf.2 c_26
    refine lv_iinc (v := x2 + 1) (lv' := [(2, .int (x2 + 1)), (0, .ref (ad 97)), (1, .int x1)]) F.1 F.2.1 dX6_shortest_163 hl (k := 2) rfl (by rfl) (by decide) rfl (fun ls hl => ?_)
    refine lv_aload_n F.1 F.2.1 dX6_shortest_166 rfl (lv_at hl 1 rfl) ?_
    refine gf_X6_60 F E Z dX6_shortest_167 ?_
    refine lv_iload_n F.1 F.2.1 dX6_shortest_170 rfl (lv_at hl 0 rfl) ?_
    refine lv_iconst (v := (-1)) F.1 F.2.1 dX6_shortest_171 (by decide) ?_
    have hv27 := hf.1
    have hf := hf.2
    refine ig_iastB (n := 6) F E Z (by decide) (by decide) (fun r => ig_k_113 _ _ _ _ _ r) hv27 dX6_shortest_172 (fun H locs b28 hb28 Z => ?_)
    have hf := hf b28 hb28
    refine lv_goto (tgt := 11) F.1 F.2.1 dX6_shortest_173 (by decide) ?_
    exact h_11 b28 lb x1 (x2 + 1) _ _ _ hf Z (lv_sub hl [1, 2, 0] rfl)
set_option maxHeartbeats 4000000 in
set_option maxRecDepth 100000 in
theorem wm_X6_shortest_64 (F : CallFix p m c cX6_shortest 6 s args ig_all RX6) (E : ig_E D kk ad bs s) (hr : meth.sig.returnType = (some .int)) (hk : meth.locks = false) (k_11 : ig_M → Int64 → Int32 → Int32 → Prop) (post : Int32 → ig_M → Int64 → Prop) (h_11 : ∀ (b : ig_M) (lb : Int64) (x1 : Int32) (x2 : Int32) (H : Heap) (locs : List Loc) (ls : Array Slot), k_11 b lb x1 x2 → ig_Z D kk ad bs s H locs a la b lb lo → lv_has ls 6 [(0, .ref (ad 97)), (1, .int x1), (2, .int x2)] → W p l e (k2_rm 3 69) s m args below meth c H locs 0 0 (MQ below (va_Qi (fun (r : Int32) (u : ig_M × Int64) => post r u.1 u.2) (fun u t => ig_Wd D kk ad bs a la u.1 u.2 lo t) (ig_A bs)) args s 0 0 (ig_A bs)) (F0 m 11 ls [])) :
    ∀ (b : ig_M) (lb : Int64) (x1 : Int32) (x2 : Int32) (H : Heap) (locs : List Loc) (ls : Array Slot), wp_X6_shortest_64 k_11 post b lb x1 x2 → ig_Z D kk ad bs s H locs a la b lb lo → lv_has ls 6 [(0, .ref (ad 97)), (1, .int x1), (2, .int x2)] → W p l e (k2_rm 3 69) s m args below meth c H locs 0 0 (MQ below (va_Qi (fun (r : Int32) (u : ig_M × Int64) => post r u.1 u.2) (fun u t => ig_Wd D kk ad bs a la u.1 u.2 lo t) (ig_A bs)) args s 0 0 (ig_A bs)) (F0 m 64 ls []) := by
  intro b lb x1 x2 H locs ls hf Z hl
  refine lv_aload_n F.1 F.2.1 dX6_shortest_64 rfl (lv_at hl 0 rfl) ?_
  refine lv_iload_n F.1 F.2.1 dX6_shortest_65 rfl (lv_at hl 2 rfl) ?_
  have hM := k_X6_isNew l (D := D) (kk := kk) (ad := ad) (bs := bs) (a := a) (la := la) (b := b) (lb := lb) (lo := lo) x2 hf
  refine ig_calli E Z (ig_runV (As := [.int x2]) (rest := []) F E Z hl G_X6_169 hM (i := 97) (by decide) (ig_k_97 _ _ _ _ _ _) rfl rfl md_X6_isNew rfl ⟨rfl, rfl⟩ ⟨Nat.le_of_ble_eq_true rfl, Nat.le_of_ble_eq_true rfl⟩ (Nat.le_of_ble_eq_true rfl) dX6_shortest_66 ⟨Nat.le_of_ble_eq_true rfl, Nat.le_of_ble_eq_true rfl⟩) (fun r13 u H locs hf Z => ?_)
  refine lv_if_eq (tgt := 155) F.1 F.2.1 dX6_shortest_69 (by decide) (fun c_14 => ?_) (fun c_14 => ?_)
  · have hf := hf.1 c_14
    exact wm_X6_shortest_155 F E hr hk k_11 post h_11 b lb x1 x2 _ _ _ hf Z (lv_sub hl [0, 1, 2] rfl)
  · have hf := hf.2 c_14
    refine lv_iload_n F.1 F.2.1 dX6_shortest_72 rfl (lv_at hl 2 rfl) ?_
    refine lv_aload_n F.1 F.2.1 dX6_shortest_73 rfl (lv_at hl 0 rfl) ?_
    refine gf_X6_76 F E Z dX6_shortest_74 ?_
    refine lv_iconst (v := 1) F.1 F.2.1 dX6_shortest_77 (by decide) ?_
    refine lv_isub F.1 F.2.1 dX6_shortest_78 ?_
    refine lv_icmp_ne (tgt := 155) F.1 F.2.1 dX6_shortest_79 (by decide) (fun c_15 => ?_) (fun c_15 => ?_)
    · have hf := hf.1 c_15
      exact wm_X6_shortest_155 F E hr hk k_11 post h_11 b lb x1 x2 _ _ _ hf Z (lv_sub hl [0, 1, 2] rfl)
    · have hf := hf.2 c_15
      refine lv_aload_n F.1 F.2.1 dX6_shortest_82 rfl (lv_at hl 0 rfl) ?_
      have hM := k_X6_takes l (D := D) (kk := kk) (ad := ad) (bs := bs) (a := a) (la := la) (b := b) (lb := lb) (lo := lo) hf
      refine ig_calli E Z (ig_runV (As := []) (rest := []) F E Z hl G_X6_172 hM (i := 97) (by decide) (ig_k_97 _ _ _ _ _ _) rfl rfl md_X6_takes rfl ⟨rfl, rfl⟩ ⟨Nat.le_of_ble_eq_true rfl, Nat.le_of_ble_eq_true rfl⟩ (Nat.le_of_ble_eq_true rfl) dX6_shortest_83 ⟨Nat.le_of_ble_eq_true rfl, Nat.le_of_ble_eq_true rfl⟩) (fun r16 u H locs hf Z => ?_)
      refine lv_istore_n (lv' := [(3, .int r16), (0, .ref (ad 97)), (1, .int x1), (2, .int x2)]) F.1 F.2.1 dX6_shortest_86 rfl hl (by decide) rfl (fun ls hl => ?_)
      refine lv_iload_n F.1 F.2.1 dX6_shortest_87 rfl (lv_at hl 2 rfl) ?_
      refine lv_iconst (v := (-1)) F.1 F.2.1 dX6_shortest_88 (by decide) ?_
      refine lv_icmp_eq (tgt := 97) F.1 F.2.1 dX6_shortest_89 (by decide) (fun c_17 => ?_) (fun c_17 => ?_)
      · have hf := hf.1 c_17
        refine lv_iconst (v := 1) F.1 F.2.1 dX6_shortest_97 (by decide) ?_
        refine lv_goto (tgt := 102) F.1 F.2.1 dX6_shortest_98 (by decide) ?_
        refine lv_istore (lv' := [(4, .int 1), (3, .int r16), (0, .ref (ad 97)), (1, .int x1), (2, .int x2)]) F.1 F.2.1 dX6_shortest_102 hl (by decide) rfl (fun ls hl => ?_)
        refine lv_iconst (v := 0) F.1 F.2.1 dX6_shortest_104 (by decide) ?_
        refine lv_istore (lv' := [(5, .int 0), (4, .int 1), (3, .int r16), (0, .ref (ad 97)), (1, .int x1), (2, .int x2)]) F.1 F.2.1 dX6_shortest_105 hl (by decide) rfl (fun ls hl => ?_)
        obtain ⟨n1, hf⟩ := hf
        exact wm_X6_shortest_107 F E hr hk k_11 post h_11 n1 b lb x1 x2 r16 1 0 _ _ _ hf Z (lv_sub hl [3, 4, 5, 2, 1, 0] rfl)
      · have hf := hf.2 c_17
        refine lv_iload_n F.1 F.2.1 dX6_shortest_92 rfl (lv_at hl 0 rfl) ?_
        refine lv_iload_n F.1 F.2.1 dX6_shortest_93 rfl (lv_at hl 2 rfl) ?_
        refine lv_icmp_ge (tgt := 101) F.1 F.2.1 dX6_shortest_94 (by decide) (fun c_18 => ?_) (fun c_18 => ?_)
        · have hf := hf.1 c_18
          refine lv_iconst (v := 0) F.1 F.2.1 dX6_shortest_101 (by decide) ?_
          refine lv_istore (lv' := [(4, .int 0), (3, .int r16), (0, .ref (ad 97)), (1, .int x1), (2, .int x2)]) F.1 F.2.1 dX6_shortest_102 hl (by decide) rfl (fun ls hl => ?_)
          refine lv_iconst (v := 0) F.1 F.2.1 dX6_shortest_104 (by decide) ?_
          refine lv_istore (lv' := [(5, .int 0), (4, .int 0), (3, .int r16), (0, .ref (ad 97)), (1, .int x1), (2, .int x2)]) F.1 F.2.1 dX6_shortest_105 hl (by decide) rfl (fun ls hl => ?_)
          obtain ⟨n1, hf⟩ := hf
          exact wm_X6_shortest_107 F E hr hk k_11 post h_11 n1 b lb x1 x2 r16 0 0 _ _ _ hf Z (lv_sub hl [3, 4, 5, 2, 1, 0] rfl)
        · have hf := hf.2 c_18
          refine lv_iconst (v := 1) F.1 F.2.1 dX6_shortest_97 (by decide) ?_
          refine lv_goto (tgt := 102) F.1 F.2.1 dX6_shortest_98 (by decide) ?_
          refine lv_istore (lv' := [(4, .int 1), (3, .int r16), (0, .ref (ad 97)), (1, .int x1), (2, .int x2)]) F.1 F.2.1 dX6_shortest_102 hl (by decide) rfl (fun ls hl => ?_)
          refine lv_iconst (v := 0) F.1 F.2.1 dX6_shortest_104 (by decide) ?_
          refine lv_istore (lv' := [(5, .int 0), (4, .int 1), (3, .int r16), (0, .ref (ad 97)), (1, .int x1), (2, .int x2)]) F.1 F.2.1 dX6_shortest_105 hl (by decide) rfl (fun ls hl => ?_)
          obtain ⟨n1, hf⟩ := hf
          exact wm_X6_shortest_107 F E hr hk k_11 post h_11 n1 b lb x1 x2 r16 1 0 _ _ _ hf Z (lv_sub hl [3, 4, 5, 2, 1, 0] rfl)
set_option maxHeartbeats 4000000 in
set_option maxRecDepth 100000 in
theorem wm_X6_shortest_11 (F : CallFix p m c cX6_shortest 6 s args ig_all RX6) (E : ig_E D kk ad bs s) (hr : meth.sig.returnType = (some .int)) (hk : meth.locks = false) (post : Int32 → ig_M → Int64 → Prop) :
    ∀ (n : Nat) (b : ig_M) (lb : Int64) (x1 : Int32) (x2 : Int32) (H : Heap) (locs : List Loc) (ls : Array Slot), wp_X6_shortest_11 post n b lb x1 x2 → ig_Z D kk ad bs s H locs a la b lb lo → lv_has ls 6 [(0, .ref (ad 97)), (1, .int x1), (2, .int x2)] → W p l e (k2_rm 3 69) s m args below meth c H locs 0 0 (MQ below (va_Qi (fun (r : Int32) (u : ig_M × Int64) => post r u.1 u.2) (fun u t => ig_Wd D kk ad bs a la u.1 u.2 lo t) (ig_A bs)) args s 0 0 (ig_A bs)) (F0 m 11 ls []) := by
  intro n
  induction n with
  | zero => intro b lb x1 x2 H locs ls hf Z hl; exact False.elim hf
  | succ n ih =>
    intro b lb x1 x2 H locs ls hf Z hl
    refine lv_iload_n F.1 F.2.1 dX6_shortest_11 rfl (lv_at hl 2 rfl) ?_
    refine lv_if_lt (tgt := 176) F.1 F.2.1 dX6_shortest_12 (by decide) (fun c_3 => ?_) (fun c_3 => ?_)
    · have hf := hf.1 c_3
      refine lv_iload_n F.1 F.2.1 dX6_shortest_176 rfl (lv_at hl 1 rfl) ?_
      exact W.iret (v := x1) F.1 F.2.1 hr (fun t ht hW => ⟨⟨_, (b, lb), rfl, hf, Z.wd E ht hW⟩, Z.fr ht⟩) Z.2.2.2 dX6_shortest_177
    · have hf := hf.2 c_3
      refine lv_aload_n F.1 F.2.1 dX6_shortest_15 rfl (lv_at hl 0 rfl) ?_
      refine gf_X6_76 F E Z dX6_shortest_16 ?_
      refine lv_if_le (tgt := 176) F.1 F.2.1 dX6_shortest_19 (by decide) (fun c_4 => ?_) (fun c_4 => ?_)
      · have hf := hf.1 c_4
        refine lv_iload_n F.1 F.2.1 dX6_shortest_176 rfl (lv_at hl 1 rfl) ?_
        exact W.iret (v := x1) F.1 F.2.1 hr (fun t ht hW => ⟨⟨_, (b, lb), rfl, hf, Z.wd E ht hW⟩, Z.fr ht⟩) Z.2.2.2 dX6_shortest_177
      · have hf := hf.2 c_4
        refine lv_aload_n F.1 F.2.1 dX6_shortest_22 rfl (lv_at hl 0 rfl) ?_
        refine gf_X6_60 F E Z dX6_shortest_23 ?_
        refine lv_iload_n F.1 F.2.1 dX6_shortest_26 rfl (lv_at hl 2 rfl) ?_
        refine lv_dup2_11 F.1 F.2.1 dX6_shortest_27 rfl rfl ?_
        have hv5 := hf.1
        have hf := hf.2
        refine ig_iald (f := b 113) F E Z (by decide) (by rw [ig_mm_b _ _ (by decide)]; exact (ig_k_113 _ _ _ _ _ _)) hv5 dX6_shortest_28 ?_
        refine lv_iconst (v := 1) F.1 F.2.1 dX6_shortest_29 (by decide) ?_
        refine lv_iadd F.1 F.2.1 dX6_shortest_30 ?_
        have hv6 := hf.1
        have hf := hf.2
        refine ig_iastB (n := 6) F E Z (by decide) (by decide) (fun r => ig_k_113 _ _ _ _ _ r) hv6 dX6_shortest_31 (fun H locs b7 hb7 Z => ?_)
        have hf := hf b7 hb7
        refine lv_aload_n F.1 F.2.1 dX6_shortest_32 rfl (lv_at hl 0 rfl) ?_
        refine gf_X6_60 F E Z dX6_shortest_33 ?_
        refine lv_iload_n F.1 F.2.1 dX6_shortest_36 rfl (lv_at hl 2 rfl) ?_
        have hv8 := hf.1
        have hf := hf.2
        refine ig_iald (f := b7 113) F E Z (by decide) (by rw [ig_mm_b _ _ (by decide)]; exact (ig_k_113 _ _ _ _ _ _)) hv8 dX6_shortest_37 ?_
        refine lv_aload_n F.1 F.2.1 dX6_shortest_38 rfl (lv_at hl 0 rfl) ?_
        refine gf_X6_76 F E Z dX6_shortest_39 ?_
        refine lv_icmp_eq (tgt := 58) F.1 F.2.1 dX6_shortest_42 (by decide) (fun c_9 => ?_) (fun c_9 => ?_)
        · have hf := hf.1 c_9
          refine lv_iinc (v := x2 + (-1)) (lv' := [(2, .int (x2 + (-1))), (0, .ref (ad 97)), (1, .int x1)]) F.1 F.2.1 dX6_shortest_58 hl (k := 2) rfl (by rfl) (by decide) rfl (fun ls hl => ?_)
          refine lv_goto (tgt := 11) F.1 F.2.1 dX6_shortest_61 (by decide) ?_
          exact ih b7 lb x1 (x2 + (-1)) _ _ _ hf Z (lv_sub hl [1, 2, 0] rfl)
        · have hf := hf.2 c_9
          refine lv_iload_n F.1 F.2.1 dX6_shortest_45 rfl (lv_at hl 2 rfl) ?_
          refine lv_if_ne (tgt := 64) F.1 F.2.1 dX6_shortest_46 (by decide) (fun c_10 => ?_) (fun c_10 => ?_)
          · have hf := hf.1 c_10
            exact wm_X6_shortest_64 F E hr hk (fun (z0 : ig_M) (z1 : Int64) (z2 : Int32) (z3 : Int32) => wp_X6_shortest_11 post n z0 z1 z2 z3) post ih b7 lb x1 x2 _ _ _ hf Z (lv_sub hl [0, 1, 2] rfl)
          · have hf := hf.2 c_10
            refine lv_aload_n F.1 F.2.1 dX6_shortest_49 rfl (lv_at hl 0 rfl) ?_
            refine gf_X6_60 F E Z dX6_shortest_50 ?_
            refine lv_iconst (v := 0) F.1 F.2.1 dX6_shortest_53 (by decide) ?_
            have hv11 := hf.1
            have hf := hf.2
            refine ig_iald (f := b7 113) F E Z (by decide) (by rw [ig_mm_b _ _ (by decide)]; exact (ig_k_113 _ _ _ _ _ _)) hv11 dX6_shortest_54 ?_
            refine lv_if_le (tgt := 64) F.1 F.2.1 dX6_shortest_55 (by decide) (fun c_12 => ?_) (fun c_12 => ?_)
            · have hf := hf.1 c_12
              exact wm_X6_shortest_64 F E hr hk (fun (z0 : ig_M) (z1 : Int64) (z2 : Int32) (z3 : Int32) => wp_X6_shortest_11 post n z0 z1 z2 z3) post ih b7 lb x1 x2 _ _ _ hf Z (lv_sub hl [0, 1, 2] rfl)
            · have hf := hf.2 c_12
              refine lv_iinc (v := x2 + (-1)) (lv' := [(2, .int (x2 + (-1))), (0, .ref (ad 97)), (1, .int x1)]) F.1 F.2.1 dX6_shortest_58 hl (k := 2) rfl (by rfl) (by decide) rfl (fun ls hl => ?_)
              refine lv_goto (tgt := 11) F.1 F.2.1 dX6_shortest_61 (by decide) ?_
              exact ih b7 lb x1 (x2 + (-1)) _ _ _ hf Z (lv_sub hl [1, 2, 0] rfl)
set_option maxHeartbeats 4000000 in
set_option maxRecDepth 100000 in
theorem k_X6_shortest (l : Launch) {D : va_G} {kk : Nat → ClassId} {ad : Nat → Nat} {bs : Nat} {a : ig_M} {la : Int64} {b : ig_M} {lb lo : Int64} {post : Int32 → ig_M → Int64 → Prop} (hf : wp_X6_shortest b lb post) : Met l yX6_shortest (ig_ws yX6_shortest cX6_shortest 6 (some .int)) (k2_rm 3 69) (va_Pc [.ref (ad 97)] (ig_Wd D kk ad bs a la b lb lo)) (va_Qi (fun (r : Int32) (u : ig_M × Int64) => post r u.1 u.2) (fun u t => ig_Wd D kk ad bs a la u.1 u.2 lo t) (ig_A bs)) 0 0 (ig_A bs) := by
  refine Met.ofW (cc := cX6_shortest) (maxL := 6) (ret := (some .int)) (by decide) rfl ?_
  intro p e s m args below meth c s₁ B hml hv
  obtain ⟨rfl, E, hP⟩ := hv
  have hk := B.notSynchronized
  have hr := B.returns
  have F : CallFix p m c cX6_shortest 6 s _ ig_all RX6 := ⟨B.exec, B.bytes, hml, findClass_of_methodNamed B.named, fun w hw => atoms_spec B.pre w (List.mem_cons_of_mem _ hw)⟩
  have Z : ig_Z D kk ad bs s s.heap [] a la b lb lo := ig_Z.rf hP
  have hl := lv_entry ([.ref (ad 97)]) (n := 6) (Nat.le_of_ble_eq_true rfl)
  rw [lg_entry_eq]
  generalize (lg_sl ([.ref (ad 97)]) ++ List.replicate (6 - (lg_sl ([.ref (ad 97)])).length) Slot.unset).toArray = ls at hl ⊢
  have hl : lv_has ls 6 [(0, .ref (ad 97))] := hl
  refine lv_iconst (v := (-1)) F.1 F.2.1 dX6_shortest_0 (by decide) ?_
  refine lv_istore_n (lv' := [(1, .int ((-1))), (0, .ref (ad 97))]) F.1 F.2.1 dX6_shortest_1 rfl hl (by decide) rfl (fun ls hl => ?_)
  refine lv_iconst (v := 0) F.1 F.2.1 dX6_shortest_2 (by decide) ?_
  refine lv_istore_n (lv' := [(2, .int 0), (1, .int ((-1))), (0, .ref (ad 97))]) F.1 F.2.1 dX6_shortest_3 rfl hl (by decide) rfl (fun ls hl => ?_)
  refine lv_aload_n F.1 F.2.1 dX6_shortest_4 rfl (lv_at hl 2 rfl) ?_
  refine gf_X6_60 F E Z dX6_shortest_5 ?_
  refine lv_iconst (v := 0) F.1 F.2.1 dX6_shortest_8 (by decide) ?_
  refine lv_iconst (v := (-1)) F.1 F.2.1 dX6_shortest_9 (by decide) ?_
  have hv1 := hf.1
  have hf := hf.2
  refine ig_iastB (n := 6) F E Z (by decide) (by decide) (fun r => ig_k_113 _ _ _ _ _ r) hv1 dX6_shortest_10 (fun H locs b2 hb2 Z => ?_)
  have hf := hf b2 hb2
  obtain ⟨n1, hf⟩ := hf
  exact wm_X6_shortest_11 F E hr hk post n1 b2 lb ((-1)) 0 _ _ _ hf Z (lv_sub hl [2, 1, 0] rfl)
set_option maxHeartbeats 4000000 in
set_option maxRecDepth 100000 in
theorem k_X6_round (l : Launch) {D : va_G} {kk : Nat → ClassId} {ad : Nat → Nat} {bs : Nat} {a : ig_M} {la : Int64} {b : ig_M} {lb lo : Int64} {post : Int32 → ig_M → Int64 → Prop} (hf : wp_X6_round b lb post) : Met l yX6_round (ig_ws yX6_round cX6_round 1 (some .int)) (k2_rm 4 94) (va_Pc [.ref (ad 97)] (ig_Wd D kk ad bs a la b lb lo)) (va_Qi (fun (r : Int32) (u : ig_M × Int64) => post r u.1 u.2) (fun u t => ig_Wd D kk ad bs a la u.1 u.2 lo t) (ig_A bs)) 0 0 (ig_A bs) := by
  refine Met.ofW (cc := cX6_round) (maxL := 1) (ret := (some .int)) (by decide) rfl ?_
  intro p e s m args below meth c s₁ B hml hv
  obtain ⟨rfl, E, hP⟩ := hv
  have hk := B.notSynchronized
  have hr := B.returns
  have F : CallFix p m c cX6_round 1 s _ ig_all RX6 := ⟨B.exec, B.bytes, hml, findClass_of_methodNamed B.named, fun w hw => atoms_spec B.pre w (List.mem_cons_of_mem _ hw)⟩
  have Z : ig_Z D kk ad bs s s.heap [] a la b lb lo := ig_Z.rf hP
  have hl := lv_entry ([.ref (ad 97)]) (n := 1) (Nat.le_of_ble_eq_true rfl)
  rw [lg_entry_eq]
  generalize (lg_sl ([.ref (ad 97)]) ++ List.replicate (1 - (lg_sl ([.ref (ad 97)])).length) Slot.unset).toArray = ls at hl ⊢
  have hl : lv_has ls 1 [(0, .ref (ad 97))] := hl
  refine lv_aload_n F.1 F.2.1 dX6_round_0 rfl (lv_at hl 0 rfl) ?_
  refine lv_iconst (v := 0) F.1 F.2.1 dX6_round_1 (by decide) ?_
  refine pf_X6_66 F E Z dX6_round_2 (fun H locs b1 hb1 Z => ?_)
  have hf := hf b1 hb1
  refine lv_aload_n F.1 F.2.1 dX6_round_5 rfl (lv_at hl 0 rfl) ?_
  have hM := k_X6_shortest l (D := D) (kk := kk) (ad := ad) (bs := bs) (a := a) (la := la) (b := b1) (lb := lb) (lo := lo) hf
  refine ig_calli E Z (ig_runV (As := []) (rest := []) F E Z hl G_X6_175 hM (i := 97) (by decide) (ig_k_97 _ _ _ _ _ _) rfl rfl md_X6_shortest rfl ⟨rfl, rfl⟩ ⟨Nat.le_of_ble_eq_true rfl, Nat.le_of_ble_eq_true rfl⟩ (Nat.le_of_ble_eq_true rfl) dX6_round_6 ⟨Nat.le_of_ble_eq_true rfl, Nat.le_of_ble_eq_true rfl⟩) (fun r2 u H locs hf Z => ?_)
  obtain ⟨b3, lb4⟩ := u
  have Z : ig_Z D kk ad bs s H locs a la b3 lb4 lo := Z
  exact W.iret (v := r2) F.1 F.2.1 hr (fun t ht hW => ⟨⟨_, (b3, lb4), rfl, hf, Z.wd E ht hW⟩, Z.fr ht⟩) Z.2.2.2 dX6_round_9
set_option maxHeartbeats 4000000 in
set_option maxRecDepth 100000 in
theorem k_X6_roundAnew (l : Launch) {D : va_G} {kk : Nat → ClassId} {ad : Nat → Nat} {bs : Nat} {a : ig_M} {la : Int64} {b : ig_M} {lb lo : Int64} {post : Int32 → ig_M → Int64 → Prop} (hf : wp_X6_roundAnew b lb post) : Met l yX6_roundAnew (ig_ws yX6_roundAnew cX6_roundAnew 1 (some .int)) (k2_rm 4 94) (va_Pc [.ref (ad 97)] (ig_Wd D kk ad bs a la b lb lo)) (va_Qi (fun (r : Int32) (u : ig_M × Int64) => post r u.1 u.2) (fun u t => ig_Wd D kk ad bs a la u.1 u.2 lo t) (ig_A bs)) 0 0 (ig_A bs) := by
  refine Met.ofW (cc := cX6_roundAnew) (maxL := 1) (ret := (some .int)) (by decide) rfl ?_
  intro p e s m args below meth c s₁ B hml hv
  obtain ⟨rfl, E, hP⟩ := hv
  have hk := B.notSynchronized
  have hr := B.returns
  have F : CallFix p m c cX6_roundAnew 1 s _ ig_all RX6 := ⟨B.exec, B.bytes, hml, findClass_of_methodNamed B.named, fun w hw => atoms_spec B.pre w (List.mem_cons_of_mem _ hw)⟩
  have Z : ig_Z D kk ad bs s s.heap [] a la b lb lo := ig_Z.rf hP
  have hl := lv_entry ([.ref (ad 97)]) (n := 1) (Nat.le_of_ble_eq_true rfl)
  rw [lg_entry_eq]
  generalize (lg_sl ([.ref (ad 97)]) ++ List.replicate (1 - (lg_sl ([.ref (ad 97)])).length) Slot.unset).toArray = ls at hl ⊢
  have hl : lv_has ls 1 [(0, .ref (ad 97))] := hl
  refine lv_aload_n F.1 F.2.1 dX6_roundAnew_0 rfl (lv_at hl 0 rfl) ?_
  refine lv_iconst (v := 0) F.1 F.2.1 dX6_roundAnew_1 (by decide) ?_
  refine pf_X6_66 F E Z dX6_roundAnew_2 (fun H locs b1 hb1 Z => ?_)
  have hf := hf b1 hb1
  refine lv_aload_n F.1 F.2.1 dX6_roundAnew_5 rfl (lv_at hl 0 rfl) ?_
  have hM := k_X6_shortest l (D := D) (kk := kk) (ad := ad) (bs := bs) (a := a) (la := la) (b := b1) (lb := lb) (lo := lo) hf
  refine ig_calli E Z (ig_runV (As := []) (rest := []) F E Z hl G_X6_175 hM (i := 97) (by decide) (ig_k_97 _ _ _ _ _ _) rfl rfl md_X6_shortest rfl ⟨rfl, rfl⟩ ⟨Nat.le_of_ble_eq_true rfl, Nat.le_of_ble_eq_true rfl⟩ (Nat.le_of_ble_eq_true rfl) dX6_roundAnew_6 ⟨Nat.le_of_ble_eq_true rfl, Nat.le_of_ble_eq_true rfl⟩) (fun r2 u H locs hf Z => ?_)
  obtain ⟨b3, lb4⟩ := u
  have Z : ig_Z D kk ad bs s H locs a la b3 lb4 lo := Z
  exact W.iret (v := r2) F.1 F.2.1 hr (fun t ht hW => ⟨⟨_, (b3, lb4), rfl, hf, Z.wd E ht hW⟩, Z.fr ht⟩) Z.2.2.2 dX6_roundAnew_9
set_option maxHeartbeats 4000000 in
set_option maxRecDepth 100000 in
theorem wm_X6_inRound_20 (F : CallFix p m c cX6_inRound 3 s args ig_all RX6) (E : ig_E D kk ad bs s) (hr : meth.sig.returnType = (some .int)) (hk : meth.locks = false) (post : Int32 → ig_M → Int64 → Prop) :
    ∀ (b : ig_M) (lb : Int64) (x1 : Int32) (t0 : Int32) (H : Heap) (locs : List Loc) (ls : Array Slot), wp_X6_inRound_20 post b lb x1 t0 → ig_Z D kk ad bs s H locs a la b lb lo → lv_has ls 3 [(0, .ref (ad 97)), (1, .int x1)] → W p l e (k2_rm 4 94) s m args below meth c H locs 0 0 (MQ below (va_Qi (fun (r : Int32) (u : ig_M × Int64) => post r u.1 u.2) (fun u t => ig_Wd D kk ad bs a la u.1 u.2 lo t) (ig_A bs)) args s 0 0 (ig_A bs)) (F0 m 20 ls [.int t0, .ref (ad 97)]) := by
  intro b lb x1 t0 H locs ls hf Z hl
  have hM := k_X6_goesWell l (D := D) (kk := kk) (ad := ad) (bs := bs) (a := a) (la := la) (b := b) (lb := lb) (lo := lo) t0 hf
  refine ig_calli E Z (ig_runV (As := [.int t0]) (rest := []) F E Z hl G_X6_83 hM (i := 97) (by decide) (ig_k_97 _ _ _ _ _ _) rfl rfl md_X6_goesWell rfl ⟨rfl, rfl⟩ ⟨Nat.le_of_ble_eq_true rfl, Nat.le_of_ble_eq_true rfl⟩ (Nat.le_of_ble_eq_true rfl) dX6_inRound_20 ⟨Nat.le_of_ble_eq_true rfl, Nat.le_of_ble_eq_true rfl⟩) (fun r3 u H locs hf Z => ?_)
  obtain ⟨b4, lb5⟩ := u
  have Z : ig_Z D kk ad bs s H locs a la b4 lb5 lo := Z
  refine lv_if_ne (tgt := 28) F.1 F.2.1 dX6_inRound_23 (by decide) (fun c_6 => ?_) (fun c_6 => ?_)
  · have hf := hf.1 c_6
    refine lv_aload_n F.1 F.2.1 dX6_inRound_28 rfl (lv_at hl 0 rfl) ?_
    have hM := k_X6_shortest l (D := D) (kk := kk) (ad := ad) (bs := bs) (a := a) (la := la) (b := b4) (lb := lb5) (lo := lo) hf
    refine ig_calli E Z (ig_runV (As := []) (rest := []) F E Z hl G_X6_175 hM (i := 97) (by decide) (ig_k_97 _ _ _ _ _ _) rfl rfl md_X6_shortest rfl ⟨rfl, rfl⟩ ⟨Nat.le_of_ble_eq_true rfl, Nat.le_of_ble_eq_true rfl⟩ (Nat.le_of_ble_eq_true rfl) dX6_inRound_29 ⟨Nat.le_of_ble_eq_true rfl, Nat.le_of_ble_eq_true rfl⟩) (fun r7 u H locs hf Z => ?_)
    obtain ⟨b8, lb9⟩ := u
    have Z : ig_Z D kk ad bs s H locs a la b8 lb9 lo := Z
    refine lv_istore_n (lv' := [(2, .int r7), (0, .ref (ad 97)), (1, .int x1)]) F.1 F.2.1 dX6_inRound_32 rfl hl (by decide) rfl (fun ls hl => ?_)
    refine lv_iload_n F.1 F.2.1 dX6_inRound_33 rfl (lv_at hl 0 rfl) ?_
    refine lv_iconst (v := (-1)) F.1 F.2.1 dX6_inRound_34 (by decide) ?_
    refine lv_icmp_ne (tgt := 42) F.1 F.2.1 dX6_inRound_35 (by decide) (fun c_10 => ?_) (fun c_10 => ?_)
    · have hf := hf.1 c_10
      refine lv_aload_n F.1 F.2.1 dX6_inRound_42 rfl (lv_at hl 1 rfl) ?_
      refine gf_X6_63 F E Z dX6_inRound_43 ?_
      refine lv_iload_n F.1 F.2.1 dX6_inRound_46 rfl (lv_at hl 2 rfl) ?_
      have hv11 := hf.1
      have hf := hf.2
      refine ig_iald (f := b8 114) F E Z (by decide) (by rw [ig_mm_b _ _ (by decide)]; exact (ig_k_114 _ _ _ _ _ _)) hv11 dX6_inRound_47 ?_
      exact W.iret (v := b8 114 x1.toNatClampNeg) F.1 F.2.1 hr (fun t ht hW => ⟨⟨_, (b8, lb9), rfl, hf, Z.wd E ht hW⟩, Z.fr ht⟩) Z.2.2.2 dX6_inRound_48
    · have hf := hf.2 c_10
      refine lv_iconst (v := (-1)) F.1 F.2.1 dX6_inRound_38 (by decide) ?_
      refine lv_goto (tgt := 48) F.1 F.2.1 dX6_inRound_39 (by decide) ?_
      exact W.iret (v := (-1)) F.1 F.2.1 hr (fun t ht hW => ⟨⟨_, (b8, lb9), rfl, hf, Z.wd E ht hW⟩, Z.fr ht⟩) Z.2.2.2 dX6_inRound_48
  · have hf := hf.2 c_6
    refine lv_iconst (v := 0) F.1 F.2.1 dX6_inRound_26 (by decide) ?_
    exact W.iret (v := 0) F.1 F.2.1 hr (fun t ht hW => ⟨⟨_, (b4, lb5), rfl, hf, Z.wd E ht hW⟩, Z.fr ht⟩) Z.2.2.2 dX6_inRound_27
set_option maxHeartbeats 4000000 in
set_option maxRecDepth 100000 in
theorem k_X6_inRound (l : Launch) {D : va_G} {kk : Nat → ClassId} {ad : Nat → Nat} {bs : Nat} {a : ig_M} {la : Int64} {b : ig_M} {lb lo : Int64} (x1 : Int32) {post : Int32 → ig_M → Int64 → Prop} (hf : wp_X6_inRound b lb x1 post) : Met l yX6_inRound (ig_ws yX6_inRound cX6_inRound 3 (some .int)) (k2_rm 4 94) (va_Pc [.ref (ad 97), .int x1] (ig_Wd D kk ad bs a la b lb lo)) (va_Qi (fun (r : Int32) (u : ig_M × Int64) => post r u.1 u.2) (fun u t => ig_Wd D kk ad bs a la u.1 u.2 lo t) (ig_A bs)) 0 0 (ig_A bs) := by
  refine Met.ofW (cc := cX6_inRound) (maxL := 3) (ret := (some .int)) (by decide) rfl ?_
  intro p e s m args below meth c s₁ B hml hv
  obtain ⟨rfl, E, hP⟩ := hv
  have hk := B.notSynchronized
  have hr := B.returns
  have F : CallFix p m c cX6_inRound 3 s _ ig_all RX6 := ⟨B.exec, B.bytes, hml, findClass_of_methodNamed B.named, fun w hw => atoms_spec B.pre w (List.mem_cons_of_mem _ hw)⟩
  have Z : ig_Z D kk ad bs s s.heap [] a la b lb lo := ig_Z.rf hP
  have hl := lv_entry ([.ref (ad 97), .int x1]) (n := 3) (Nat.le_of_ble_eq_true rfl)
  rw [lg_entry_eq]
  generalize (lg_sl ([.ref (ad 97), .int x1]) ++ List.replicate (3 - (lg_sl ([.ref (ad 97), .int x1])).length) Slot.unset).toArray = ls at hl ⊢
  have hl : lv_has ls 3 [(0, .ref (ad 97)), (1, .int x1)] := hl
  refine lv_aload_n F.1 F.2.1 dX6_inRound_0 rfl (lv_at hl 0 rfl) ?_
  refine lv_iload_n F.1 F.2.1 dX6_inRound_1 rfl (lv_at hl 1 rfl) ?_
  refine lv_iconst (v := 0) F.1 F.2.1 dX6_inRound_2 (by decide) ?_
  refine lv_aload_n F.1 F.2.1 dX6_inRound_3 rfl (lv_at hl 0 rfl) ?_
  refine gf_X6_76 F E Z dX6_inRound_4 ?_
  refine lv_iconst (v := 1) F.1 F.2.1 dX6_inRound_7 (by decide) ?_
  refine lv_isub F.1 F.2.1 dX6_inRound_8 ?_
  have hM := k_X6_in l (D := D) (kk := kk) (ad := ad) (bs := bs) (a := a) (la := la) (b := b) (lb := lb) (lo := lo) x1 0 ((b 97 7) - 1) hf
  refine ig_calli E Z (ig_runS (As := [.int x1, .int 0, .int ((b 97 7) - 1)]) (rest := [.ref (ad 97)]) F E Z hl G_X6_72 hM rfl md_X6_in rfl ⟨rfl, rfl⟩ ⟨Nat.le_of_ble_eq_true rfl, Nat.le_of_ble_eq_true rfl⟩ (Nat.le_of_ble_eq_true rfl) dX6_inRound_9 ⟨Nat.le_of_ble_eq_true rfl, Nat.le_of_ble_eq_true rfl⟩) (fun r1 u H locs hf Z => ?_)
  refine lv_if_eq (tgt := 19) F.1 F.2.1 dX6_inRound_12 (by decide) (fun c_2 => ?_) (fun c_2 => ?_)
  · have hf := hf.1 c_2
    refine lv_iconst (v := 1) F.1 F.2.1 dX6_inRound_19 (by decide) ?_
    exact wm_X6_inRound_20 F E hr hk post b lb x1 1 _ _ _ hf Z (lv_sub hl [0, 1] rfl)
  · have hf := hf.2 c_2
    refine lv_iconst (v := 0) F.1 F.2.1 dX6_inRound_15 (by decide) ?_
    refine lv_goto (tgt := 20) F.1 F.2.1 dX6_inRound_16 (by decide) ?_
    exact wm_X6_inRound_20 F E hr hk post b lb x1 0 _ _ _ hf Z (lv_sub hl [0, 1] rfl)
end IGM
