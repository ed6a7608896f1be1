section IGM
variable {p : Program} {l : Launch} {e : Env} {s : State} {m : MethodId} {args : Array Value} {below : List Frame} {meth : Method} {c : Code}
variable {D : va_G} {kk : Nat → ClassId} {ad : Nat → Nat} {bs : Nat} {a b a9 : ig_M} {la lb lo la9 : Int64}
set_option maxHeartbeats 4000000 in
set_option maxRecDepth 100000 in
theorem k_X5_phase (l : Launch) {D : va_G} {kk : Nat → ClassId} {ad : Nat → Nat} {bs : Nat} {a : ig_M} {la : Int64} {b : ig_M} {lb lo : Int64} (x1 : Int32) (x2 : Int32) (x3 : Int32) (hlt : l.stackTraces = false) {post : Int32 → ig_M → Int64 → Prop} {px : Nat → Prop} (hf : wp_X5_phase a la x1 x2 x3 post px) : vx_Met l yX5_phase (ig_ws yX5_phase cX5_phase 4 (some .int)) ({ frames := 6, cells := 1, slots := 6, locals := 90 } : Room) (va_Pc [.ref (ad 0), .int x1, .int x2, .int x3] (ig_Wd D kk ad bs a la b lb lo)) (va_Qi (fun (r : Int32) (u : ig_M × Int64) => post r u.1 u.2) (fun u t => ig_Wd D kk ad bs u.1 u.2 b lb lo t) (ig_A bs)) (ig_XC D kk ad bs a la b lb lo px) 1 6 (ig_A bs) := by
  refine vx_ofW (cc := cX5_phase) (maxL := 4) (ret := (some .int)) (by decide) rfl ?_
  intro p e s m args below meth c s₁ B hml hout hv
  obtain ⟨rfl, E, hP⟩ := hv
  have hk := B.notSynchronized
  have hr := B.returns
  have F : CallFix p m c cX5_phase 4 s _ ig_all RX5 := ⟨B.exec, B.bytes, hml, findClass_of_methodNamed B.named, fun w hw => atoms_spec B.pre w (List.mem_cons_of_mem _ hw)⟩
  have Z : ig_Z D kk ad bs s s.heap [] a la b lb lo := ig_Z.rf hP
  have hl := lv_entry ([.ref (ad 0), .int x1, .int x2, .int x3]) (n := 4) (Nat.le_of_ble_eq_true rfl)
  rw [lg_entry_eq]
  generalize (lg_sl ([.ref (ad 0), .int x1, .int x2, .int x3]) ++ List.replicate (4 - (lg_sl ([.ref (ad 0), .int x1, .int x2, .int x3])).length) Slot.unset).toArray = ls at hl ⊢
  have hl : lv_has ls 4 [(0, .ref (ad 0)), (1, .int x1), (2, .int x2), (3, .int x3)] := hl
  refine lv_iload_n F.1 F.2.1 dX5_phase_0 rfl (lv_at hl 1 rfl) ?_
  refine lv_iconst (v := 1) F.1 F.2.1 dX5_phase_1 (by decide) ?_
  refine lv_bipush (v := 30) F.1 F.2.1 dX5_phase_2 (by decide) ?_
  have hM := k_X5_isWithin l (D := D) (kk := kk) (ad := ad) (bs := bs) (a := a) (la := la) (b := b) (lb := lb) (lo := lo) x1 1 30 hf
  refine ig_calli E Z (ig_runS (As := [.int x1, .int 1, .int 30]) (rest := []) F E Z hl G_X5_41 hM rfl md_X5_isWithin rfl ⟨rfl, rfl⟩ ⟨Nat.le_of_ble_eq_true rfl, Nat.le_of_ble_eq_true rfl⟩ (Nat.le_of_ble_eq_true rfl) dX5_phase_4 ⟨Nat.le_of_ble_eq_true rfl, Nat.le_of_ble_eq_true rfl⟩) (fun r1 u H locs hf Z => ?_)
  refine lv_if_eq (tgt := 30) F.1 F.2.1 dX5_phase_7 (by decide) (fun c_2 => ?_) (fun c_2 => ?_)
  · have hf := hf.1 c_2
    obtain ⟨sa, hsa⟩ := E.2.2.2.1.2.2.2.2 (47, "least, most or gap is out of range") (by decide +kernel)
    exact ig_throw 0 F E Z hl hlt hk hout (by decide) hf mw_316 mw_317 (ig_at0 E F) (ig_gd0) hsa dX5_phase_30 dX5_phase_33 dX5_phase_34 dX5_phase_36 dX5_phase_39 (Nat.le_of_ble_eq_true rfl) (Nat.le_of_ble_eq_true rfl) (Nat.le_of_ble_eq_true rfl) (Nat.le_of_ble_eq_true rfl) (Nat.le_of_ble_eq_true rfl) (Nat.le_of_ble_eq_true rfl)
  · have hf := hf.2 c_2
    refine lv_iload_n F.1 F.2.1 dX5_phase_10 rfl (lv_at hl 2 rfl) ?_
    refine lv_iload_n F.1 F.2.1 dX5_phase_11 rfl (lv_at hl 1 rfl) ?_
    refine lv_bipush (v := 120) F.1 F.2.1 dX5_phase_12 (by decide) ?_
    have hM := k_X5_isWithin l (D := D) (kk := kk) (ad := ad) (bs := bs) (a := a) (la := la) (b := b) (lb := lb) (lo := lo) x2 x1 120 hf
    refine ig_calli E Z (ig_runS (As := [.int x2, .int x1, .int 120]) (rest := []) F E Z hl G_X5_41 hM rfl md_X5_isWithin rfl ⟨rfl, rfl⟩ ⟨Nat.le_of_ble_eq_true rfl, Nat.le_of_ble_eq_true rfl⟩ (Nat.le_of_ble_eq_true rfl) dX5_phase_14 ⟨Nat.le_of_ble_eq_true rfl, Nat.le_of_ble_eq_true rfl⟩) (fun r3 u H locs hf Z => ?_)
    refine lv_if_eq (tgt := 30) F.1 F.2.1 dX5_phase_17 (by decide) (fun c_4 => ?_) (fun c_4 => ?_)
    · have hf := hf.1 c_4
      obtain ⟨sa, hsa⟩ := E.2.2.2.1.2.2.2.2 (47, "least, most or gap is out of range") (by decide +kernel)
      exact ig_throw 0 F E Z hl hlt hk hout (by decide) hf mw_316 mw_317 (ig_at0 E F) (ig_gd0) hsa dX5_phase_30 dX5_phase_33 dX5_phase_34 dX5_phase_36 dX5_phase_39 (Nat.le_of_ble_eq_true rfl) (Nat.le_of_ble_eq_true rfl) (Nat.le_of_ble_eq_true rfl) (Nat.le_of_ble_eq_true rfl) (Nat.le_of_ble_eq_true rfl) (Nat.le_of_ble_eq_true rfl)
    · have hf := hf.2 c_4
      refine lv_iload_n F.1 F.2.1 dX5_phase_20 rfl (lv_at hl 3 rfl) ?_
      refine lv_iconst (v := 0) F.1 F.2.1 dX5_phase_21 (by decide) ?_
      refine lv_bipush (v := 10) F.1 F.2.1 dX5_phase_22 (by decide) ?_
      have hM := k_X5_isWithin l (D := D) (kk := kk) (ad := ad) (bs := bs) (a := a) (la := la) (b := b) (lb := lb) (lo := lo) x3 0 10 hf
      refine ig_calli E Z (ig_runS (As := [.int x3, .int 0, .int 10]) (rest := []) F E Z hl G_X5_41 hM rfl md_X5_isWithin rfl ⟨rfl, rfl⟩ ⟨Nat.le_of_ble_eq_true rfl, Nat.le_of_ble_eq_true rfl⟩ (Nat.le_of_ble_eq_true rfl) dX5_phase_24 ⟨Nat.le_of_ble_eq_true rfl, Nat.le_of_ble_eq_true rfl⟩) (fun r5 u H locs hf Z => ?_)
      refine lv_if_ne (tgt := 40) F.1 F.2.1 dX5_phase_27 (by decide) (fun c_6 => ?_) (fun c_6 => ?_)
      · have hf := hf.1 c_6
        refine lv_aload_n F.1 F.2.1 dX5_phase_40 rfl (lv_at hl 0 rfl) ?_
        refine gf_X5_28 F E Z dX5_phase_41 ?_
        refine gf_X5_52 F E Z dX5_phase_44 ?_
        refine lv_if_ne (tgt := 62) F.1 F.2.1 dX5_phase_47 (by decide) (fun c_7 => ?_) (fun c_7 => ?_)
        · have hf := hf.1 c_7
          obtain ⟨sa, hsa⟩ := E.2.2.2.1.2.2.2.2 (62, "no phase can be told any more") (by decide +kernel)
          exact ig_throw 1 F E Z hl hlt hk hout (by decide) hf mw_318 mw_319 (ig_at1 E F) (ig_gd1) hsa dX5_phase_62 dX5_phase_65 dX5_phase_66 dX5_phase_68 dX5_phase_71 (Nat.le_of_ble_eq_true rfl) (Nat.le_of_ble_eq_true rfl) (Nat.le_of_ble_eq_true rfl) (Nat.le_of_ble_eq_true rfl) (Nat.le_of_ble_eq_true rfl) (Nat.le_of_ble_eq_true rfl)
        · have hf := hf.2 c_7
          refine lv_aload_n F.1 F.2.1 dX5_phase_50 rfl (lv_at hl 0 rfl) ?_
          refine gf_X5_10 F E Z dX5_phase_51 ?_
          refine gf_X5_56 F E Z dX5_phase_54 ?_
          refine lv_bipush (v := 8) F.1 F.2.1 dX5_phase_57 (by decide) ?_
          refine lv_icmp_lt (tgt := 72) F.1 F.2.1 dX5_phase_59 (by decide) (fun c_8 => ?_) (fun c_8 => ?_)
          · have hf := hf.1 c_8
            refine lv_aload_n F.1 F.2.1 dX5_phase_72 rfl (lv_at hl 0 rfl) ?_
            refine gf_X5_10 F E Z dX5_phase_73 ?_
            refine lv_iload_n F.1 F.2.1 dX5_phase_76 rfl (lv_at hl 1 rfl) ?_
            refine lv_iload_n F.1 F.2.1 dX5_phase_77 rfl (lv_at hl 2 rfl) ?_
            refine lv_iload_n F.1 F.2.1 dX5_phase_78 rfl (lv_at hl 3 rfl) ?_
            have hM := k_X3_addPhase l (D := D) (kk := kk) (ad := ad) (bs := bs) (a := a) (la := la) (b := b) (lb := lb) (lo := lo) x1 x2 x3 hf
            refine ig_calli E Z (ig_runV (As := [.int x1, .int x2, .int x3]) (rest := []) F E Z hl G_X5_65 hM (i := 1) (by decide) (ig_k_1 _ _ _ _ _ _) rfl rfl md_X3_addPhase rfl ⟨rfl, rfl⟩ ⟨Nat.le_of_ble_eq_true rfl, Nat.le_of_ble_eq_true rfl⟩ (Nat.le_of_ble_eq_true rfl) dX5_phase_79 ⟨Nat.le_of_ble_eq_true rfl, Nat.le_of_ble_eq_true rfl⟩) (fun r9 u H locs hf Z => ?_)
            obtain ⟨a10, la11⟩ := u
            have Z : ig_Z D kk ad bs s H locs a10 la11 b lb lo := Z
            refine vx_ret (W.widen (k := 1) (n := 6) (Nat.le_of_ble_eq_true rfl) (Nat.le_of_ble_eq_true rfl) ?_)
            exact W.iret (v := r9) F.1 F.2.1 hr (fun t ht hW => ⟨⟨_, (a10, la11), rfl, hf, Z.wd E ht hW⟩, Z.fr ht⟩) Z.2.2.2 dX5_phase_82
          · have hf := hf.2 c_8
            obtain ⟨sa, hsa⟩ := E.2.2.2.1.2.2.2.2 (62, "no phase can be told any more") (by decide +kernel)
            exact ig_throw 1 F E Z hl hlt hk hout (by decide) hf mw_318 mw_319 (ig_at1 E F) (ig_gd1) hsa dX5_phase_62 dX5_phase_65 dX5_phase_66 dX5_phase_68 dX5_phase_71 (Nat.le_of_ble_eq_true rfl) (Nat.le_of_ble_eq_true rfl) (Nat.le_of_ble_eq_true rfl) (Nat.le_of_ble_eq_true rfl) (Nat.le_of_ble_eq_true rfl) (Nat.le_of_ble_eq_true rfl)
      · have hf := hf.2 c_6
        obtain ⟨sa, hsa⟩ := E.2.2.2.1.2.2.2.2 (47, "least, most or gap is out of range") (by decide +kernel)
        exact ig_throw 0 F E Z hl hlt hk hout (by decide) hf mw_316 mw_317 (ig_at0 E F) (ig_gd0) hsa dX5_phase_30 dX5_phase_33 dX5_phase_34 dX5_phase_36 dX5_phase_39 (Nat.le_of_ble_eq_true rfl) (Nat.le_of_ble_eq_true rfl) (Nat.le_of_ble_eq_true rfl) (Nat.le_of_ble_eq_true rfl) (Nat.le_of_ble_eq_true rfl) (Nat.le_of_ble_eq_true rfl)
set_option maxHeartbeats 4000000 in
set_option maxRecDepth 100000 in
theorem k_X5_needPhase (l : Launch) {D : va_G} {kk : Nat → ClassId} {ad : Nat → Nat} {bs : Nat} {a : ig_M} {la : Int64} {b : ig_M} {lb lo : Int64} (x1 : Int32) (hlt : l.stackTraces = false) {post : Prop} {px : Nat → Prop} (hf : wp_X5_needPhase a la x1 post px) : vx_Met l yX5_needPhase (ig_ws yX5_needPhase cX5_needPhase 2 none) ({ frames := 6, cells := 1, slots := 6, locals := 90 } : Room) (va_Pc [.ref (ad 0), .int x1] (ig_Wd D kk ad bs a la b lb lo)) (va_Qv (fun _ : Unit => post) (fun _ t => ig_Wd D kk ad bs a la b lb lo t) (ig_A bs)) (ig_XC D kk ad bs a la b lb lo px) 1 6 (ig_A bs) := by
  refine vx_ofW (cc := cX5_needPhase) (maxL := 2) (ret := none) (by decide) rfl ?_
  intro p e s m args below meth c s₁ B hml hout hv
  obtain ⟨rfl, E, hP⟩ := hv
  have hk := B.notSynchronized
  have hr := B.returns
  have F : CallFix p m c cX5_needPhase 2 s _ ig_all RX5 := ⟨B.exec, B.bytes, hml, findClass_of_methodNamed B.named, fun w hw => atoms_spec B.pre w (List.mem_cons_of_mem _ hw)⟩
  have Z : ig_Z D kk ad bs s s.heap [] a la b lb lo := ig_Z.rf hP
  have hl := lv_entry ([.ref (ad 0), .int x1]) (n := 2) (Nat.le_of_ble_eq_true rfl)
  rw [lg_entry_eq]
  generalize (lg_sl ([.ref (ad 0), .int x1]) ++ List.replicate (2 - (lg_sl ([.ref (ad 0), .int x1])).length) Slot.unset).toArray = ls at hl ⊢
  have hl : lv_has ls 2 [(0, .ref (ad 0)), (1, .int x1)] := hl
  refine lv_iload_n F.1 F.2.1 dX5_needPhase_0 rfl (lv_at hl 1 rfl) ?_
  refine lv_iconst (v := 0) F.1 F.2.1 dX5_needPhase_1 (by decide) ?_
  refine lv_aload_n F.1 F.2.1 dX5_needPhase_2 rfl (lv_at hl 0 rfl) ?_
  refine gf_X5_10 F E Z dX5_needPhase_3 ?_
  refine gf_X5_56 F E Z dX5_needPhase_6 ?_
  refine lv_iconst (v := 1) F.1 F.2.1 dX5_needPhase_9 (by decide) ?_
  refine lv_isub F.1 F.2.1 dX5_needPhase_10 ?_
  have hM := k_X5_isWithin l (D := D) (kk := kk) (ad := ad) (bs := bs) (a := a) (la := la) (b := b) (lb := lb) (lo := lo) x1 0 ((a 1 1) - 1) hf
  refine ig_calli E Z (ig_runS (As := [.int x1, .int 0, .int ((a 1 1) - 1)]) (rest := []) F E Z hl G_X5_41 hM rfl md_X5_isWithin rfl ⟨rfl, rfl⟩ ⟨Nat.le_of_ble_eq_true rfl, Nat.le_of_ble_eq_true rfl⟩ (Nat.le_of_ble_eq_true rfl) dX5_needPhase_11 ⟨Nat.le_of_ble_eq_true rfl, Nat.le_of_ble_eq_true rfl⟩) (fun r1 u H locs hf Z => ?_)
  refine lv_if_ne (tgt := 27) F.1 F.2.1 dX5_needPhase_14 (by decide) (fun c_2 => ?_) (fun c_2 => ?_)
  · have hf := hf.1 c_2
    refine vx_ret (W.widen (k := 1) (n := 6) (Nat.le_of_ble_eq_true rfl) (Nat.le_of_ble_eq_true rfl) ?_)
    exact W.vret F.1 F.2.1 hr (fun t ht hW => ⟨⟨(), rfl, hf, Z.wd E ht hW⟩, Z.fr ht⟩) Z.2.2.2 dX5_needPhase_27
  · have hf := hf.2 c_2
    obtain ⟨sa, hsa⟩ := E.2.2.2.1.2.2.2.2 (207, "there is no such phase") (by decide +kernel)
    exact ig_throw 2 F E Z hl hlt hk hout (by decide) hf mw_320 mw_321 (ig_at2 E F) (ig_gd2) hsa dX5_needPhase_17 dX5_needPhase_20 dX5_needPhase_21 dX5_needPhase_23 dX5_needPhase_26 (Nat.le_of_ble_eq_true rfl) (Nat.le_of_ble_eq_true rfl) (Nat.le_of_ble_eq_true rfl) (Nat.le_of_ble_eq_true rfl) (Nat.le_of_ble_eq_true rfl) (Nat.le_of_ble_eq_true rfl)
set_option maxHeartbeats 4000000 in
set_option maxRecDepth 100000 in
theorem k_X5_meet (l : Launch) {D : va_G} {kk : Nat → ClassId} {ad : Nat → Nat} {bs : Nat} {a : ig_M} {la : Int64} {b : ig_M} {lb lo : Int64} (x1 : Int32) (x2 : Int32) (x3 : Int32) (x4 : Int32) (hlt : l.stackTraces = false) {post : ig_M → Int64 → Prop} {px : Nat → Prop} (hf : wp_X5_meet a la x1 x2 x3 x4 post px) : vx_Met l yX5_meet (ig_ws yX5_meet cX5_meet 5 none) ({ frames := 7, cells := 3, slots := 18, locals := 111 } : Room) (va_Pc [.ref (ad 0), .int x1, .int x2, .int x3, .int x4] (ig_Wd D kk ad bs a la b lb lo)) (va_Qv (fun u : ig_M × Int64 => post u.1 u.2) (fun u t => ig_Wd D kk ad bs u.1 u.2 b lb lo t) (ig_A bs)) (ig_XC D kk ad bs a la b lb lo px) 3 18 (ig_A bs) := by
  refine vx_ofW (cc := cX5_meet) (maxL := 5) (ret := none) (by decide) rfl ?_
  intro p e s m args below meth c s₁ B hml hout hv
  obtain ⟨rfl, E, hP⟩ := hv
  have hk := B.notSynchronized
  have hr := B.returns
  have F : CallFix p m c cX5_meet 5 s _ ig_all RX5 := ⟨B.exec, B.bytes, hml, findClass_of_methodNamed B.named, fun w hw => atoms_spec B.pre w (List.mem_cons_of_mem _ hw)⟩
  have Z : ig_Z D kk ad bs s s.heap [] a la b lb lo := ig_Z.rf hP
  have hl := lv_entry ([.ref (ad 0), .int x1, .int x2, .int x3, .int x4]) (n := 5) (Nat.le_of_ble_eq_true rfl)
  rw [lg_entry_eq]
  generalize (lg_sl ([.ref (ad 0), .int x1, .int x2, .int x3, .int x4]) ++ List.replicate (5 - (lg_sl ([.ref (ad 0), .int x1, .int x2, .int x3, .int x4])).length) Slot.unset).toArray = ls at hl ⊢
  have hl : lv_has ls 5 [(0, .ref (ad 0)), (1, .int x1), (2, .int x2), (3, .int x3), (4, .int x4)] := hl
  refine lv_aload_n F.1 F.2.1 dX5_meet_0 rfl (lv_at hl 0 rfl) ?_
  refine lv_iload_n F.1 F.2.1 dX5_meet_1 rfl (lv_at hl 1 rfl) ?_
  have hM := k_X5_needPhase l (D := D) (kk := kk) (ad := ad) (bs := bs) (a := a) (la := la) (b := b) (lb := lb) (lo := lo) x1 hlt hf
  refine ig_callvX E Z hk hout (ig_runVX (As := [.int x1]) (rest := []) F E Z hl G_X5_69 hM (i := 0) (by decide) (ig_k_0 _ _ _ _ _ _) rfl rfl md_X5_needPhase rfl ⟨rfl, rfl⟩ ⟨Nat.le_of_ble_eq_true rfl, Nat.le_of_ble_eq_true rfl⟩ (Nat.le_of_ble_eq_true rfl) dX5_meet_2 ⟨Nat.le_of_ble_eq_true rfl, Nat.le_of_ble_eq_true rfl⟩) (fun u hu => hu) (Nat.le_of_ble_eq_true rfl) (Nat.le_of_ble_eq_true rfl) (fun u H locs hf Z => ?_)
  refine lv_aload_n F.1 F.2.1 dX5_meet_5 rfl (lv_at hl 0 rfl) ?_
  refine lv_iload_n F.1 F.2.1 dX5_meet_6 rfl (lv_at hl 2 rfl) ?_
  have hM := k_X5_needPhase l (D := D) (kk := kk) (ad := ad) (bs := bs) (a := a) (la := la) (b := b) (lb := lb) (lo := lo) x2 hlt hf
  refine ig_callvX E Z hk hout (ig_runVX (As := [.int x2]) (rest := []) F E Z hl G_X5_69 hM (i := 0) (by decide) (ig_k_0 _ _ _ _ _ _) rfl rfl md_X5_needPhase rfl ⟨rfl, rfl⟩ ⟨Nat.le_of_ble_eq_true rfl, Nat.le_of_ble_eq_true rfl⟩ (Nat.le_of_ble_eq_true rfl) dX5_meet_7 ⟨Nat.le_of_ble_eq_true rfl, Nat.le_of_ble_eq_true rfl⟩) (fun u hu => hu) (Nat.le_of_ble_eq_true rfl) (Nat.le_of_ble_eq_true rfl) (fun u H locs hf Z => ?_)
  refine lv_iload_n F.1 F.2.1 dX5_meet_10 rfl (lv_at hl 1 rfl) ?_
  refine lv_iload_n F.1 F.2.1 dX5_meet_11 rfl (lv_at hl 2 rfl) ?_
  refine lv_icmp_eq (tgt := 36) F.1 F.2.1 dX5_meet_12 (by decide) (fun c_1 => ?_) (fun c_1 => ?_)
  · have hf := hf.1 c_1
    obtain ⟨sa, hsa⟩ := E.2.2.2.1.2.2.2.2 (73, "the same phase twice, or seconds out of range") (by decide +kernel)
    exact ig_throw 0 F E Z hl hlt hk hout (by decide) hf mw_316 mw_317 (ig_at0 E F) (ig_gd0) hsa dX5_meet_36 dX5_meet_39 dX5_meet_40 dX5_meet_42 dX5_meet_45 (Nat.le_of_ble_eq_true rfl) (Nat.le_of_ble_eq_true rfl) (Nat.le_of_ble_eq_true rfl) (Nat.le_of_ble_eq_true rfl) (Nat.le_of_ble_eq_true rfl) (Nat.le_of_ble_eq_true rfl)
  · have hf := hf.2 c_1
    refine lv_iload_n F.1 F.2.1 dX5_meet_15 rfl (lv_at hl 3 rfl) ?_
    refine lv_iconst (v := 1) F.1 F.2.1 dX5_meet_16 (by decide) ?_
    refine lv_bipush (v := 20) F.1 F.2.1 dX5_meet_17 (by decide) ?_
    have hM := k_X5_isWithin l (D := D) (kk := kk) (ad := ad) (bs := bs) (a := a) (la := la) (b := b) (lb := lb) (lo := lo) x3 1 20 hf
    refine ig_calli E Z (ig_runS (As := [.int x3, .int 1, .int 20]) (rest := []) F E Z hl G_X5_41 hM rfl md_X5_isWithin rfl ⟨rfl, rfl⟩ ⟨Nat.le_of_ble_eq_true rfl, Nat.le_of_ble_eq_true rfl⟩ (Nat.le_of_ble_eq_true rfl) dX5_meet_19 ⟨Nat.le_of_ble_eq_true rfl, Nat.le_of_ble_eq_true rfl⟩) (fun r2 u H locs hf Z => ?_)
    refine lv_if_eq (tgt := 36) F.1 F.2.1 dX5_meet_22 (by decide) (fun c_3 => ?_) (fun c_3 => ?_)
    · have hf := hf.1 c_3
      obtain ⟨sa, hsa⟩ := E.2.2.2.1.2.2.2.2 (73, "the same phase twice, or seconds out of range") (by decide +kernel)
      exact ig_throw 0 F E Z hl hlt hk hout (by decide) hf mw_316 mw_317 (ig_at0 E F) (ig_gd0) hsa dX5_meet_36 dX5_meet_39 dX5_meet_40 dX5_meet_42 dX5_meet_45 (Nat.le_of_ble_eq_true rfl) (Nat.le_of_ble_eq_true rfl) (Nat.le_of_ble_eq_true rfl) (Nat.le_of_ble_eq_true rfl) (Nat.le_of_ble_eq_true rfl) (Nat.le_of_ble_eq_true rfl)
    · have hf := hf.2 c_3
      refine lv_iload F.1 F.2.1 dX5_meet_25 (lv_at hl 4 rfl) ?_
      refine lv_iconst (v := 1) F.1 F.2.1 dX5_meet_27 (by decide) ?_
      refine lv_bipush (v := 20) F.1 F.2.1 dX5_meet_28 (by decide) ?_
      have hM := k_X5_isWithin l (D := D) (kk := kk) (ad := ad) (bs := bs) (a := a) (la := la) (b := b) (lb := lb) (lo := lo) x4 1 20 hf
      refine ig_calli E Z (ig_runS (As := [.int x4, .int 1, .int 20]) (rest := []) F E Z hl G_X5_41 hM rfl md_X5_isWithin rfl ⟨rfl, rfl⟩ ⟨Nat.le_of_ble_eq_true rfl, Nat.le_of_ble_eq_true rfl⟩ (Nat.le_of_ble_eq_true rfl) dX5_meet_30 ⟨Nat.le_of_ble_eq_true rfl, Nat.le_of_ble_eq_true rfl⟩) (fun r4 u H locs hf Z => ?_)
      refine lv_if_ne (tgt := 46) F.1 F.2.1 dX5_meet_33 (by decide) (fun c_5 => ?_) (fun c_5 => ?_)
      · have hf := hf.1 c_5
        refine lv_aload_n F.1 F.2.1 dX5_meet_46 rfl (lv_at hl 0 rfl) ?_
        refine gf_X5_28 F E Z dX5_meet_47 ?_
        refine gf_X5_52 F E Z dX5_meet_50 ?_
        refine lv_if_ne (tgt := 68) F.1 F.2.1 dX5_meet_53 (by decide) (fun c_6 => ?_) (fun c_6 => ?_)
        · have hf := hf.1 c_6
          obtain ⟨sa, hsa⟩ := E.2.2.2.1.2.2.2.2 (79, "the lights were started, or a stage has both") (by decide +kernel)
          exact ig_throw 1 F E Z hl hlt hk hout (by decide) hf mw_318 mw_319 (ig_at1 E F) (ig_gd1) hsa dX5_meet_68 dX5_meet_71 dX5_meet_72 dX5_meet_74 dX5_meet_77 (Nat.le_of_ble_eq_true rfl) (Nat.le_of_ble_eq_true rfl) (Nat.le_of_ble_eq_true rfl) (Nat.le_of_ble_eq_true rfl) (Nat.le_of_ble_eq_true rfl) (Nat.le_of_ble_eq_true rfl)
        · have hf := hf.2 c_6
          refine lv_aload_n F.1 F.2.1 dX5_meet_56 rfl (lv_at hl 0 rfl) ?_
          refine gf_X5_10 F E Z dX5_meet_57 ?_
          refine lv_iload_n F.1 F.2.1 dX5_meet_60 rfl (lv_at hl 1 rfl) ?_
          refine lv_iload_n F.1 F.2.1 dX5_meet_61 rfl (lv_at hl 2 rfl) ?_
          have hM := k_X3_hasStageWithBoth l (D := D) (kk := kk) (ad := ad) (bs := bs) (a := a) (la := la) (b := b) (lb := lb) (lo := lo) x1 x2 hf
          refine ig_calli E Z (ig_runV (As := [.int x1, .int x2]) (rest := []) F E Z hl G_X5_75 hM (i := 1) (by decide) (ig_k_1 _ _ _ _ _ _) rfl rfl md_X3_hasStageWithBoth rfl ⟨rfl, rfl⟩ ⟨Nat.le_of_ble_eq_true rfl, Nat.le_of_ble_eq_true rfl⟩ (Nat.le_of_ble_eq_true rfl) dX5_meet_62 ⟨Nat.le_of_ble_eq_true rfl, Nat.le_of_ble_eq_true rfl⟩) (fun r7 u H locs hf Z => ?_)
          refine lv_if_eq (tgt := 78) F.1 F.2.1 dX5_meet_65 (by decide) (fun c_8 => ?_) (fun c_8 => ?_)
          · have hf := hf.1 c_8
            refine lv_aload_n F.1 F.2.1 dX5_meet_78 rfl (lv_at hl 0 rfl) ?_
            refine gf_X5_10 F E Z dX5_meet_79 ?_
            refine lv_iload_n F.1 F.2.1 dX5_meet_82 rfl (lv_at hl 1 rfl) ?_
            refine lv_iload_n F.1 F.2.1 dX5_meet_83 rfl (lv_at hl 2 rfl) ?_
            refine lv_iload_n F.1 F.2.1 dX5_meet_84 rfl (lv_at hl 3 rfl) ?_
            have hM := k_X3_setBetween l (D := D) (kk := kk) (ad := ad) (bs := bs) (a := a) (la := la) (b := b) (lb := lb) (lo := lo) x1 x2 x3 hf
            refine ig_callv E Z (ig_runV (As := [.int x1, .int x2, .int x3]) (rest := []) F E Z hl G_X5_81 hM (i := 1) (by decide) (ig_k_1 _ _ _ _ _ _) rfl rfl md_X3_setBetween rfl ⟨rfl, rfl⟩ ⟨Nat.le_of_ble_eq_true rfl, Nat.le_of_ble_eq_true rfl⟩ (Nat.le_of_ble_eq_true rfl) dX5_meet_85 ⟨Nat.le_of_ble_eq_true rfl, Nat.le_of_ble_eq_true rfl⟩) (fun u H locs hf Z => ?_)
            obtain ⟨a9, la10⟩ := u
            have Z : ig_Z D kk ad bs s H locs a9 la10 b lb lo := Z
            refine lv_aload_n F.1 F.2.1 dX5_meet_88 rfl (lv_at hl 0 rfl) ?_
            refine gf_X5_10 F E Z dX5_meet_89 ?_
            refine lv_iload_n F.1 F.2.1 dX5_meet_92 rfl (lv_at hl 2 rfl) ?_
            refine lv_iload_n F.1 F.2.1 dX5_meet_93 rfl (lv_at hl 1 rfl) ?_
            refine lv_iload F.1 F.2.1 dX5_meet_94 (lv_at hl 4 rfl) ?_
            have hM := k_X3_setBetween l (D := D) (kk := kk) (ad := ad) (bs := bs) (a := a9) (la := la10) (b := b) (lb := lb) (lo := lo) x2 x1 x4 hf
            refine ig_callv E Z (ig_runV (As := [.int x2, .int x1, .int x4]) (rest := []) F E Z hl G_X5_81 hM (i := 1) (by decide) (ig_k_1 _ _ _ _ _ _) rfl rfl md_X3_setBetween rfl ⟨rfl, rfl⟩ ⟨Nat.le_of_ble_eq_true rfl, Nat.le_of_ble_eq_true rfl⟩ (Nat.le_of_ble_eq_true rfl) dX5_meet_96 ⟨Nat.le_of_ble_eq_true rfl, Nat.le_of_ble_eq_true rfl⟩) (fun u H locs hf Z => ?_)
            obtain ⟨a11, la12⟩ := u
            have Z : ig_Z D kk ad bs s H locs a11 la12 b lb lo := Z
            refine vx_ret (W.widen (k := 3) (n := 18) (Nat.le_of_ble_eq_true rfl) (Nat.le_of_ble_eq_true rfl) ?_)
            exact W.vret F.1 F.2.1 hr (fun t ht hW => ⟨⟨(a11, la12), rfl, hf, Z.wd E ht hW⟩, Z.fr ht⟩) Z.2.2.2 dX5_meet_99
          · have hf := hf.2 c_8
            obtain ⟨sa, hsa⟩ := E.2.2.2.1.2.2.2.2 (79, "the lights were started, or a stage has both") (by decide +kernel)
            exact ig_throw 1 F E Z hl hlt hk hout (by decide) hf mw_318 mw_319 (ig_at1 E F) (ig_gd1) hsa dX5_meet_68 dX5_meet_71 dX5_meet_72 dX5_meet_74 dX5_meet_77 (Nat.le_of_ble_eq_true rfl) (Nat.le_of_ble_eq_true rfl) (Nat.le_of_ble_eq_true rfl) (Nat.le_of_ble_eq_true rfl) (Nat.le_of_ble_eq_true rfl) (Nat.le_of_ble_eq_true rfl)
      · have hf := hf.2 c_5
        obtain ⟨sa, hsa⟩ := E.2.2.2.1.2.2.2.2 (73, "the same phase twice, or seconds out of range") (by decide +kernel)
        exact ig_throw 0 F E Z hl hlt hk hout (by decide) hf mw_316 mw_317 (ig_at0 E F) (ig_gd0) hsa dX5_meet_36 dX5_meet_39 dX5_meet_40 dX5_meet_42 dX5_meet_45 (Nat.le_of_ble_eq_true rfl) (Nat.le_of_ble_eq_true rfl) (Nat.le_of_ble_eq_true rfl) (Nat.le_of_ble_eq_true rfl) (Nat.le_of_ble_eq_true rfl) (Nat.le_of_ble_eq_true rfl)
set_option maxHeartbeats 4000000 in
set_option maxRecDepth 100000 in
theorem k_X5_stage (l : Launch) {D : va_G} {kk : Nat → ClassId} {ad : Nat → Nat} {bs : Nat} {a : ig_M} {la : Int64} {b : ig_M} {lb lo : Int64} (x1 : Int32) (hlt : l.stackTraces = false) {post : Int32 → ig_M → Int64 → Prop} {px : Nat → Prop} (hf : wp_X5_stage a la x1 post px) : vx_Met l yX5_stage (ig_ws yX5_stage cX5_stage 2 (some .int)) ({ frames := 6, cells := 1, slots := 6, locals := 90 } : Room) (va_Pc [.ref (ad 0), .int x1] (ig_Wd D kk ad bs a la b lb lo)) (va_Qi (fun (r : Int32) (u : ig_M × Int64) => post r u.1 u.2) (fun u t => ig_Wd D kk ad bs u.1 u.2 b lb lo t) (ig_A bs)) (ig_XC D kk ad bs a la b lb lo px) 1 6 (ig_A bs) := by
  refine vx_ofW (cc := cX5_stage) (maxL := 2) (ret := (some .int)) (by decide) rfl ?_
  intro p e s m args below meth c s₁ B hml hout hv
  obtain ⟨rfl, E, hP⟩ := hv
  have hk := B.notSynchronized
  have hr := B.returns
  have F : CallFix p m c cX5_stage 2 s _ ig_all RX5 := ⟨B.exec, B.bytes, hml, findClass_of_methodNamed B.named, fun w hw => atoms_spec B.pre w (List.mem_cons_of_mem _ hw)⟩
  have Z : ig_Z D kk ad bs s s.heap [] a la b lb lo := ig_Z.rf hP
  have hl := lv_entry ([.ref (ad 0), .int x1]) (n := 2) (Nat.le_of_ble_eq_true rfl)
  rw [lg_entry_eq]
  generalize (lg_sl ([.ref (ad 0), .int x1]) ++ List.replicate (2 - (lg_sl ([.ref (ad 0), .int x1])).length) Slot.unset).toArray = ls at hl ⊢
  have hl : lv_has ls 2 [(0, .ref (ad 0)), (1, .int x1)] := hl
  refine lv_iload_n F.1 F.2.1 dX5_stage_0 rfl (lv_at hl 1 rfl) ?_
  refine lv_if_eq (tgt := 16) F.1 F.2.1 dX5_stage_1 (by decide) (fun c_1 => ?_) (fun c_1 => ?_)
  · have hf := hf.1 c_1
    obtain ⟨sa, hsa⟩ := E.2.2.2.1.2.2.2.2 (85, "a stage of no phase, or of one that there is not") (by decide +kernel)
    exact ig_throw 0 F E Z hl hlt hk hout (by decide) hf mw_316 mw_317 (ig_at0 E F) (ig_gd0) hsa dX5_stage_16 dX5_stage_19 dX5_stage_20 dX5_stage_22 dX5_stage_25 (Nat.le_of_ble_eq_true rfl) (Nat.le_of_ble_eq_true rfl) (Nat.le_of_ble_eq_true rfl) (Nat.le_of_ble_eq_true rfl) (Nat.le_of_ble_eq_true rfl) (Nat.le_of_ble_eq_true rfl)
  · have hf := hf.2 c_1
    refine lv_iload_n F.1 F.2.1 dX5_stage_4 rfl (lv_at hl 1 rfl) ?_
    refine lv_aload_n F.1 F.2.1 dX5_stage_5 rfl (lv_at hl 0 rfl) ?_
    refine gf_X5_10 F E Z dX5_stage_6 ?_
    refine gf_X5_56 F E Z dX5_stage_9 ?_
    refine lv_iushr F.1 F.2.1 dX5_stage_12 rfl ?_
    refine lv_if_eq (tgt := 26) F.1 F.2.1 dX5_stage_13 (by decide) (fun c_2 => ?_) (fun c_2 => ?_)
    · have hf := hf.1 c_2
      refine lv_aload_n F.1 F.2.1 dX5_stage_26 rfl (lv_at hl 0 rfl) ?_
      refine gf_X5_28 F E Z dX5_stage_27 ?_
      refine gf_X5_52 F E Z dX5_stage_30 ?_
      refine lv_if_ne (tgt := 59) F.1 F.2.1 dX5_stage_33 (by decide) (fun c_3 => ?_) (fun c_3 => ?_)
      · have hf := hf.1 c_3
        obtain ⟨sa, hsa⟩ := E.2.2.2.1.2.2.2.2 (94, "no such stage can be told") (by decide +kernel)
        exact ig_throw 1 F E Z hl hlt hk hout (by decide) hf mw_318 mw_319 (ig_at1 E F) (ig_gd1) hsa dX5_stage_59 dX5_stage_62 dX5_stage_63 dX5_stage_65 dX5_stage_68 (Nat.le_of_ble_eq_true rfl) (Nat.le_of_ble_eq_true rfl) (Nat.le_of_ble_eq_true rfl) (Nat.le_of_ble_eq_true rfl) (Nat.le_of_ble_eq_true rfl) (Nat.le_of_ble_eq_true rfl)
      · have hf := hf.2 c_3
        refine lv_aload_n F.1 F.2.1 dX5_stage_36 rfl (lv_at hl 0 rfl) ?_
        refine gf_X5_10 F E Z dX5_stage_37 ?_
        refine lv_iload_n F.1 F.2.1 dX5_stage_40 rfl (lv_at hl 1 rfl) ?_
        have hM := k_X3_hasTwoThatMeet l (D := D) (kk := kk) (ad := ad) (bs := bs) (a := a) (la := la) (b := b) (lb := lb) (lo := lo) x1 hf
        refine ig_calli E Z (ig_runV (As := [.int x1]) (rest := []) F E Z hl G_X5_87 hM (i := 1) (by decide) (ig_k_1 _ _ _ _ _ _) rfl rfl md_X3_hasTwoThatMeet rfl ⟨rfl, rfl⟩ ⟨Nat.le_of_ble_eq_true rfl, Nat.le_of_ble_eq_true rfl⟩ (Nat.le_of_ble_eq_true rfl) dX5_stage_41 ⟨Nat.le_of_ble_eq_true rfl, Nat.le_of_ble_eq_true rfl⟩) (fun r4 u H locs hf Z => ?_)
        refine lv_if_ne (tgt := 59) F.1 F.2.1 dX5_stage_44 (by decide) (fun c_5 => ?_) (fun c_5 => ?_)
        · have hf := hf.1 c_5
          obtain ⟨sa, hsa⟩ := E.2.2.2.1.2.2.2.2 (94, "no such stage can be told") (by decide +kernel)
          exact ig_throw 1 F E Z hl hlt hk hout (by decide) hf mw_318 mw_319 (ig_at1 E F) (ig_gd1) hsa dX5_stage_59 dX5_stage_62 dX5_stage_63 dX5_stage_65 dX5_stage_68 (Nat.le_of_ble_eq_true rfl) (Nat.le_of_ble_eq_true rfl) (Nat.le_of_ble_eq_true rfl) (Nat.le_of_ble_eq_true rfl) (Nat.le_of_ble_eq_true rfl) (Nat.le_of_ble_eq_true rfl)
        · have hf := hf.2 c_5
          refine lv_aload_n F.1 F.2.1 dX5_stage_47 rfl (lv_at hl 0 rfl) ?_
          refine gf_X5_10 F E Z dX5_stage_48 ?_
          refine gf_X5_91 F E Z dX5_stage_51 ?_
          refine lv_bipush (v := 6) F.1 F.2.1 dX5_stage_54 (by decide) ?_
          refine lv_icmp_lt (tgt := 69) F.1 F.2.1 dX5_stage_56 (by decide) (fun c_6 => ?_) (fun c_6 => ?_)
          · have hf := hf.1 c_6
            refine lv_aload_n F.1 F.2.1 dX5_stage_69 rfl (lv_at hl 0 rfl) ?_
            refine gf_X5_10 F E Z dX5_stage_70 ?_
            refine lv_iload_n F.1 F.2.1 dX5_stage_73 rfl (lv_at hl 1 rfl) ?_
            have hM := k_X3_addStage l (D := D) (kk := kk) (ad := ad) (bs := bs) (a := a) (la := la) (b := b) (lb := lb) (lo := lo) x1 hf
            refine ig_calli E Z (ig_runV (As := [.int x1]) (rest := []) F E Z hl G_X5_96 hM (i := 1) (by decide) (ig_k_1 _ _ _ _ _ _) rfl rfl md_X3_addStage rfl ⟨rfl, rfl⟩ ⟨Nat.le_of_ble_eq_true rfl, Nat.le_of_ble_eq_true rfl⟩ (Nat.le_of_ble_eq_true rfl) dX5_stage_74 ⟨Nat.le_of_ble_eq_true rfl, Nat.le_of_ble_eq_true rfl⟩) (fun r7 u H locs hf Z => ?_)
            obtain ⟨a8, la9⟩ := u
            have Z : ig_Z D kk ad bs s H locs a8 la9 b lb lo := Z
            refine vx_ret (W.widen (k := 1) (n := 6) (Nat.le_of_ble_eq_true rfl) (Nat.le_of_ble_eq_true rfl) ?_)
            exact W.iret (v := r7) F.1 F.2.1 hr (fun t ht hW => ⟨⟨_, (a8, la9), rfl, hf, Z.wd E ht hW⟩, Z.fr ht⟩) Z.2.2.2 dX5_stage_77
          · have hf := hf.2 c_6
            obtain ⟨sa, hsa⟩ := E.2.2.2.1.2.2.2.2 (94, "no such stage can be told") (by decide +kernel)
            exact ig_throw 1 F E Z hl hlt hk hout (by decide) hf mw_318 mw_319 (ig_at1 E F) (ig_gd1) hsa dX5_stage_59 dX5_stage_62 dX5_stage_63 dX5_stage_65 dX5_stage_68 (Nat.le_of_ble_eq_true rfl) (Nat.le_of_ble_eq_true rfl) (Nat.le_of_ble_eq_true rfl) (Nat.le_of_ble_eq_true rfl) (Nat.le_of_ble_eq_true rfl) (Nat.le_of_ble_eq_true rfl)
    · have hf := hf.2 c_2
      obtain ⟨sa, hsa⟩ := E.2.2.2.1.2.2.2.2 (85, "a stage of no phase, or of one that there is not") (by decide +kernel)
      exact ig_throw 0 F E Z hl hlt hk hout (by decide) hf mw_316 mw_317 (ig_at0 E F) (ig_gd0) hsa dX5_stage_16 dX5_stage_19 dX5_stage_20 dX5_stage_22 dX5_stage_25 (Nat.le_of_ble_eq_true rfl) (Nat.le_of_ble_eq_true rfl) (Nat.le_of_ble_eq_true rfl) (Nat.le_of_ble_eq_true rfl) (Nat.le_of_ble_eq_true rfl) (Nat.le_of_ble_eq_true rfl)
set_option maxHeartbeats 4000000 in
set_option maxRecDepth 100000 in
theorem k_X5_needStage (l : Launch) {D : va_G} {kk : Nat → ClassId} {ad : Nat → Nat} {bs : Nat} {a : ig_M} {la : Int64} {b : ig_M} {lb lo : Int64} (x1 : Int32) (hlt : l.stackTraces = false) {post : Prop} {px : Nat → Prop} (hf : wp_X5_needStage a la x1 post px) : vx_Met l yX5_needStage (ig_ws yX5_needStage cX5_needStage 2 none) ({ frames := 6, cells := 1, slots := 6, locals := 90 } : Room) (va_Pc [.ref (ad 0), .int x1] (ig_Wd D kk ad bs a la b lb lo)) (va_Qv (fun _ : Unit => post) (fun _ t => ig_Wd D kk ad bs a la b lb lo t) (ig_A bs)) (ig_XC D kk ad bs a la b lb lo px) 1 6 (ig_A bs) := by
  refine vx_ofW (cc := cX5_needStage) (maxL := 2) (ret := none) (by decide) rfl ?_
  intro p e s m args below meth c s₁ B hml hout hv
  obtain ⟨rfl, E, hP⟩ := hv
  have hk := B.notSynchronized
  have hr := B.returns
  have F : CallFix p m c cX5_needStage 2 s _ ig_all RX5 := ⟨B.exec, B.bytes, hml, findClass_of_methodNamed B.named, fun w hw => atoms_spec B.pre w (List.mem_cons_of_mem _ hw)⟩
  have Z : ig_Z D kk ad bs s s.heap [] a la b lb lo := ig_Z.rf hP
  have hl := lv_entry ([.ref (ad 0), .int x1]) (n := 2) (Nat.le_of_ble_eq_true rfl)
  rw [lg_entry_eq]
  generalize (lg_sl ([.ref (ad 0), .int x1]) ++ List.replicate (2 - (lg_sl ([.ref (ad 0), .int x1])).length) Slot.unset).toArray = ls at hl ⊢
  have hl : lv_has ls 2 [(0, .ref (ad 0)), (1, .int x1)] := hl
  refine lv_iload_n F.1 F.2.1 dX5_needStage_0 rfl (lv_at hl 1 rfl) ?_
  refine lv_iconst (v := 0) F.1 F.2.1 dX5_needStage_1 (by decide) ?_
  refine lv_aload_n F.1 F.2.1 dX5_needStage_2 rfl (lv_at hl 0 rfl) ?_
  refine gf_X5_10 F E Z dX5_needStage_3 ?_
  refine gf_X5_91 F E Z dX5_needStage_6 ?_
  refine lv_iconst (v := 1) F.1 F.2.1 dX5_needStage_9 (by decide) ?_
  refine lv_isub F.1 F.2.1 dX5_needStage_10 ?_
  have hM := k_X5_isWithin l (D := D) (kk := kk) (ad := ad) (bs := bs) (a := a) (la := la) (b := b) (lb := lb) (lo := lo) x1 0 ((a 1 4) - 1) hf
  refine ig_calli E Z (ig_runS (As := [.int x1, .int 0, .int ((a 1 4) - 1)]) (rest := []) F E Z hl G_X5_41 hM rfl md_X5_isWithin rfl ⟨rfl, rfl⟩ ⟨Nat.le_of_ble_eq_true rfl, Nat.le_of_ble_eq_true rfl⟩ (Nat.le_of_ble_eq_true rfl) dX5_needStage_11 ⟨Nat.le_of_ble_eq_true rfl, Nat.le_of_ble_eq_true rfl⟩) (fun r1 u H locs hf Z => ?_)
  refine lv_if_ne (tgt := 27) F.1 F.2.1 dX5_needStage_14 (by decide) (fun c_2 => ?_) (fun c_2 => ?_)
  · have hf := hf.1 c_2
    refine vx_ret (W.widen (k := 1) (n := 6) (Nat.le_of_ble_eq_true rfl) (Nat.le_of_ble_eq_true rfl) ?_)
    exact W.vret F.1 F.2.1 hr (fun t ht hW => ⟨⟨(), rfl, hf, Z.wd E ht hW⟩, Z.fr ht⟩) Z.2.2.2 dX5_needStage_27
  · have hf := hf.2 c_2
    obtain ⟨sa, hsa⟩ := E.2.2.2.1.2.2.2.2 (209, "there is no such stage") (by decide +kernel)
    exact ig_throw 2 F E Z hl hlt hk hout (by decide) hf mw_320 mw_321 (ig_at2 E F) (ig_gd2) hsa dX5_needStage_17 dX5_needStage_20 dX5_needStage_21 dX5_needStage_23 dX5_needStage_26 (Nat.le_of_ble_eq_true rfl) (Nat.le_of_ble_eq_true rfl) (Nat.le_of_ble_eq_true rfl) (Nat.le_of_ble_eq_true rfl) (Nat.le_of_ble_eq_true rfl) (Nat.le_of_ble_eq_true rfl)
set_option maxHeartbeats 4000000 in
set_option maxRecDepth 100000 in
theorem k_X5_start (l : Launch) {D : va_G} {kk : Nat → ClassId} {ad : Nat → Nat} {bs : Nat} {a : ig_M} {la : Int64} {b : ig_M} {lb lo : Int64} (x1 : Int32) (hlt : l.stackTraces = false) {post : ig_M → Int64 → Prop} {px : Nat → Prop} (hf : wp_X5_start a la x1 post px) : vx_Met l yX5_start (ig_ws yX5_start cX5_start 2 none) ({ frames := 7, cells := 2, slots := 12, locals := 111 } : Room) (va_Pc [.ref (ad 0), .int x1] (ig_Wd D kk ad bs a la b lb lo)) (va_Qv (fun u : ig_M × Int64 => post u.1 u.2) (fun u t => ig_Wd D kk ad bs u.1 u.2 b lb lo t) (ig_A bs)) (ig_XC D kk ad bs a la b lb lo px) 2 12 (ig_A bs) := by
  refine vx_ofW (cc := cX5_start) (maxL := 2) (ret := none) (by decide) rfl ?_
  intro p e s m args below meth c s₁ B hml hout hv
  obtain ⟨rfl, E, hP⟩ := hv
  have hk := B.notSynchronized
  have hr := B.returns
  have F : CallFix p m c cX5_start 2 s _ ig_all RX5 := ⟨B.exec, B.bytes, hml, findClass_of_methodNamed B.named, fun w hw => atoms_spec B.pre w (List.mem_cons_of_mem _ hw)⟩
  have Z : ig_Z D kk ad bs s s.heap [] a la b lb lo := ig_Z.rf hP
  have hl := lv_entry ([.ref (ad 0), .int x1]) (n := 2) (Nat.le_of_ble_eq_true rfl)
  rw [lg_entry_eq]
  generalize (lg_sl ([.ref (ad 0), .int x1]) ++ List.replicate (2 - (lg_sl ([.ref (ad 0), .int x1])).length) Slot.unset).toArray = ls at hl ⊢
  have hl : lv_has ls 2 [(0, .ref (ad 0)), (1, .int x1)] := hl
  refine lv_aload_n F.1 F.2.1 dX5_start_0 rfl (lv_at hl 0 rfl) ?_
  refine lv_iload_n F.1 F.2.1 dX5_start_1 rfl (lv_at hl 1 rfl) ?_
  have hM := k_X5_needStage l (D := D) (kk := kk) (ad := ad) (bs := bs) (a := a) (la := la) (b := b) (lb := lb) (lo := lo) x1 hlt hf
  refine ig_callvX E Z hk hout (ig_runVX (As := [.int x1]) (rest := []) F E Z hl G_X5_100 hM (i := 0) (by decide) (ig_k_0 _ _ _ _ _ _) rfl rfl md_X5_needStage rfl ⟨rfl, rfl⟩ ⟨Nat.le_of_ble_eq_true rfl, Nat.le_of_ble_eq_true rfl⟩ (Nat.le_of_ble_eq_true rfl) dX5_start_2 ⟨Nat.le_of_ble_eq_true rfl, Nat.le_of_ble_eq_true rfl⟩) (fun u hu => hu) (Nat.le_of_ble_eq_true rfl) (Nat.le_of_ble_eq_true rfl) (fun u H locs hf Z => ?_)
  refine lv_aload_n F.1 F.2.1 dX5_start_5 rfl (lv_at hl 0 rfl) ?_
  refine gf_X5_28 F E Z dX5_start_6 ?_
  have hM := k_X0_areWorking l (D := D) (kk := kk) (ad := ad) (bs := bs) (a := a) (la := la) (b := b) (lb := lb) (lo := lo) hf
  refine ig_calli E Z (ig_runV (As := []) (rest := []) F E Z hl G_X5_103 hM (i := 23) (by decide) (ig_k_23 _ _ _ _ _ _) rfl rfl md_X0_areWorking rfl ⟨rfl, rfl⟩ ⟨Nat.le_of_ble_eq_true rfl, Nat.le_of_ble_eq_true rfl⟩ (Nat.le_of_ble_eq_true rfl) dX5_start_9 ⟨Nat.le_of_ble_eq_true rfl, Nat.le_of_ble_eq_true rfl⟩) (fun r1 u H locs hf Z => ?_)
  refine lv_if_eq (tgt := 25) F.1 F.2.1 dX5_start_12 (by decide) (fun c_2 => ?_) (fun c_2 => ?_)
  · have hf := hf.1 c_2
    refine lv_aload_n F.1 F.2.1 dX5_start_25 rfl (lv_at hl 0 rfl) ?_
    refine gf_X5_28 F E Z dX5_start_26 ?_
    refine lv_iload_n F.1 F.2.1 dX5_start_29 rfl (lv_at hl 1 rfl) ?_
    have hM := k_X0_begin l (D := D) (kk := kk) (ad := ad) (bs := bs) (a := a) (la := la) (b := b) (lb := lb) (lo := lo) x1 hf
    refine ig_callv E Z (ig_runV (As := [.int x1]) (rest := []) F E Z hl G_X5_109 hM (i := 23) (by decide) (ig_k_23 _ _ _ _ _ _) rfl rfl md_X0_begin rfl ⟨rfl, rfl⟩ ⟨Nat.le_of_ble_eq_true rfl, Nat.le_of_ble_eq_true rfl⟩ (Nat.le_of_ble_eq_true rfl) dX5_start_30 ⟨Nat.le_of_ble_eq_true rfl, Nat.le_of_ble_eq_true rfl⟩) (fun u H locs hf Z => ?_)
    obtain ⟨a3, la4⟩ := u
    have Z : ig_Z D kk ad bs s H locs a3 la4 b lb lo := Z
    refine vx_ret (W.widen (k := 2) (n := 12) (Nat.le_of_ble_eq_true rfl) (Nat.le_of_ble_eq_true rfl) ?_)
    exact W.vret F.1 F.2.1 hr (fun t ht hW => ⟨⟨(a3, la4), rfl, hf, Z.wd E ht hW⟩, Z.fr ht⟩) Z.2.2.2 dX5_start_33
  · have hf := hf.2 c_2
    obtain ⟨sa, hsa⟩ := E.2.2.2.1.2.2.2.2 (107, "the lights are changing or on") (by decide +kernel)
    exact ig_throw 1 F E Z hl hlt hk hout (by decide) hf mw_318 mw_319 (ig_at1 E F) (ig_gd1) hsa dX5_start_15 dX5_start_18 dX5_start_19 dX5_start_21 dX5_start_24 (Nat.le_of_ble_eq_true rfl) (Nat.le_of_ble_eq_true rfl) (Nat.le_of_ble_eq_true rfl) (Nat.le_of_ble_eq_true rfl) (Nat.le_of_ble_eq_true rfl) (Nat.le_of_ble_eq_true rfl)
set_option maxHeartbeats 4000000 in
set_option maxRecDepth 100000 in
theorem k_X5_stop (l : Launch) {D : va_G} {kk : Nat → ClassId} {ad : Nat → Nat} {bs : Nat} {a : ig_M} {la : Int64} {b : ig_M} {lb lo : Int64} (hlt : l.stackTraces = false) {post : ig_M → Int64 → Prop} {px : Nat → Prop} (hf : wp_X5_stop a la post px) : vx_Met l yX5_stop (ig_ws yX5_stop cX5_stop 1 none) ({ frames := 6, cells := 1, slots := 6, locals := 90 } : Room) (va_Pc [.ref (ad 0)] (ig_Wd D kk ad bs a la b lb lo)) (va_Qv (fun u : ig_M × Int64 => post u.1 u.2) (fun u t => ig_Wd D kk ad bs u.1 u.2 b lb lo t) (ig_A bs)) (ig_XC D kk ad bs a la b lb lo px) 1 6 (ig_A bs) := by
  refine vx_ofW (cc := cX5_stop) (maxL := 1) (ret := none) (by decide) rfl ?_
  intro p e s m args below meth c s₁ B hml hout hv
  obtain ⟨rfl, E, hP⟩ := hv
  have hk := B.notSynchronized
  have hr := B.returns
  have F : CallFix p m c cX5_stop 1 s _ ig_all RX5 := ⟨B.exec, B.bytes, hml, findClass_of_methodNamed B.named, fun w hw => atoms_spec B.pre w (List.mem_cons_of_mem _ hw)⟩
  have Z : ig_Z D kk ad bs s s.heap [] a la b lb lo := ig_Z.rf hP
  have hl := lv_entry ([.ref (ad 0)]) (n := 1) (Nat.le_of_ble_eq_true rfl)
  rw [lg_entry_eq]
  generalize (lg_sl ([.ref (ad 0)]) ++ List.replicate (1 - (lg_sl ([.ref (ad 0)])).length) Slot.unset).toArray = ls at hl ⊢
  have hl : lv_has ls 1 [(0, .ref (ad 0))] := hl
  refine lv_aload_n F.1 F.2.1 dX5_stop_0 rfl (lv_at hl 0 rfl) ?_
  refine gf_X5_28 F E Z dX5_stop_1 ?_
  refine gf_X5_112 F E Z dX5_stop_4 ?_
  refine lv_if_ne (tgt := 20) F.1 F.2.1 dX5_stop_7 (by decide) (fun c_1 => ?_) (fun c_1 => ?_)
  · have hf := hf.1 c_1
    refine lv_aload_n F.1 F.2.1 dX5_stop_20 rfl (lv_at hl 0 rfl) ?_
    refine gf_X5_28 F E Z dX5_stop_21 ?_
    refine lv_iconst (v := 0) F.1 F.2.1 dX5_stop_24 (by decide) ?_
    have hM := k_X0_fallBack l (D := D) (kk := kk) (ad := ad) (bs := bs) (a := a) (la := la) (b := b) (lb := lb) (lo := lo) 0 hf
    refine ig_callv E Z (ig_runV (As := [.int 0]) (rest := []) F E Z hl G_X5_117 hM (i := 23) (by decide) (ig_k_23 _ _ _ _ _ _) rfl rfl md_X0_fallBack rfl ⟨rfl, rfl⟩ ⟨Nat.le_of_ble_eq_true rfl, Nat.le_of_ble_eq_true rfl⟩ (Nat.le_of_ble_eq_true rfl) dX5_stop_25 ⟨Nat.le_of_ble_eq_true rfl, Nat.le_of_ble_eq_true rfl⟩) (fun u H locs hf Z => ?_)
    obtain ⟨a2, la3⟩ := u
    have Z : ig_Z D kk ad bs s H locs a2 la3 b lb lo := Z
    refine vx_ret (W.widen (k := 1) (n := 6) (Nat.le_of_ble_eq_true rfl) (Nat.le_of_ble_eq_true rfl) ?_)
    exact W.vret F.1 F.2.1 hr (fun t ht hW => ⟨⟨(a2, la3), rfl, hf, Z.wd E ht hW⟩, Z.fr ht⟩) Z.2.2.2 dX5_stop_28
  · have hf := hf.2 c_1
    obtain ⟨sa, hsa⟩ := E.2.2.2.1.2.2.2.2 (115, "the lights are stopped") (by decide +kernel)
    exact ig_throw 1 F E Z hl hlt hk hout (by decide) hf mw_318 mw_319 (ig_at1 E F) (ig_gd1) hsa dX5_stop_10 dX5_stop_13 dX5_stop_14 dX5_stop_16 dX5_stop_19 (Nat.le_of_ble_eq_true rfl) (Nat.le_of_ble_eq_true rfl) (Nat.le_of_ble_eq_true rfl) (Nat.le_of_ble_eq_true rfl) (Nat.le_of_ble_eq_true rfl) (Nat.le_of_ble_eq_true rfl)
set_option maxHeartbeats 4000000 in
set_option maxRecDepth 100000 in
theorem k_X5_press (l : Launch) {D : va_G} {kk : Nat → ClassId} {ad : Nat → Nat} {bs : Nat} {a : ig_M} {la : Int64} {b : ig_M} {lb lo : Int64} (x1 : Int32) (hlt : l.stackTraces = false) {post : Int32 → ig_M → Int64 → Prop} {px : Nat → Prop} (hf : wp_X5_press a la x1 post px) : vx_Met l yX5_press (ig_ws yX5_press cX5_press 3 (some .boolean)) ({ frames := 7, cells := 1, slots := 6, locals := 111 } : Room) (va_Pc [.ref (ad 0), .int x1] (ig_Wd D kk ad bs a la b lb lo)) (va_Qi (fun (r : Int32) (u : ig_M × Int64) => post r u.1 u.2) (fun u t => ig_Wd D kk ad bs u.1 u.2 b lb lo t) (ig_A bs)) (ig_XC D kk ad bs a la b lb lo px) 1 6 (ig_A bs) := by
  refine vx_ofW (cc := cX5_press) (maxL := 3) (ret := (some .boolean)) (by decide) rfl ?_
  intro p e s m args below meth c s₁ B hml hout hv
  obtain ⟨rfl, E, hP⟩ := hv
  have hk := B.notSynchronized
  have hr := B.returns
  have F : CallFix p m c cX5_press 3 s _ ig_all RX5 := ⟨B.exec, B.bytes, hml, findClass_of_methodNamed B.named, fun w hw => atoms_spec B.pre w (List.mem_cons_of_mem _ hw)⟩
  have Z : ig_Z D kk ad bs s s.heap [] a la b lb lo := ig_Z.rf hP
  have hl := lv_entry ([.ref (ad 0), .int x1]) (n := 3) (Nat.le_of_ble_eq_true rfl)
  rw [lg_entry_eq]
  generalize (lg_sl ([.ref (ad 0), .int x1]) ++ List.replicate (3 - (lg_sl ([.ref (ad 0), .int x1])).length) Slot.unset).toArray = ls at hl ⊢
  have hl : lv_has ls 3 [(0, .ref (ad 0)), (1, .int x1)] := hl
  refine lv_aload_n F.1 F.2.1 dX5_press_0 rfl (lv_at hl 0 rfl) ?_
  refine lv_iload_n F.1 F.2.1 dX5_press_1 rfl (lv_at hl 1 rfl) ?_
  have hM := k_X5_needPhase l (D := D) (kk := kk) (ad := ad) (bs := bs) (a := a) (la := la) (b := b) (lb := lb) (lo := lo) x1 hlt hf
  refine ig_callvX E Z hk hout (ig_runVX (As := [.int x1]) (rest := []) F E Z hl G_X5_69 hM (i := 0) (by decide) (ig_k_0 _ _ _ _ _ _) rfl rfl md_X5_needPhase rfl ⟨rfl, rfl⟩ ⟨Nat.le_of_ble_eq_true rfl, Nat.le_of_ble_eq_true rfl⟩ (Nat.le_of_ble_eq_true rfl) dX5_press_2 ⟨Nat.le_of_ble_eq_true rfl, Nat.le_of_ble_eq_true rfl⟩) (fun u hu => hu) (Nat.le_of_ble_eq_true rfl) (Nat.le_of_ble_eq_true rfl) (fun u H locs hf Z => ?_)
  refine lv_aload_n F.1 F.2.1 dX5_press_5 rfl (lv_at hl 0 rfl) ?_
  refine gf_X5_10 F E Z dX5_press_6 ?_
  refine gf_X5_120 F E Z dX5_press_9 ?_
  refine lv_iload_n F.1 F.2.1 dX5_press_12 rfl (lv_at hl 1 rfl) ?_
  have hv1 := hf.1
  have hf := hf.2
  refine ig_aald (t0 := 3) (n := 8) (b0 := 3) F E Z rfl (Or.inl rfl) (by decide) (ig_k_2 _ _ _ _ _ _) hv1 dX5_press_13 ?_
  refine lv_astore_n (lv' := [(2, .ref (ad (3 + x1.toNatClampNeg))), (0, .ref (ad 0)), (1, .int x1)]) F.1 F.2.1 dX5_press_14 rfl hl (by decide) rfl (fun ls hl => ?_)
  refine lv_aload_n F.1 F.2.1 dX5_press_15 rfl (lv_at hl 0 rfl) ?_
  have hM := k_X2_pushButton l (D := D) (kk := kk) (ad := ad) (bs := bs) (a := a) (la := la) (b := b) (lb := lb) (lo := lo) x1.toNatClampNeg (ig_lt hv1) hf
  refine ig_callv E Z (ig_runV (As := []) (rest := []) F E Z hl G_X5_124 hM (i := 3 + x1.toNatClampNeg) (by have := ig_lt hv1; omega) (ig_c_ph _ _ _ _ _ _ (ig_lt hv1)) rfl rfl md_X2_pushButton rfl ⟨rfl, rfl⟩ ⟨Nat.le_of_ble_eq_true rfl, Nat.le_of_ble_eq_true rfl⟩ (Nat.le_of_ble_eq_true rfl) dX5_press_16 ⟨Nat.le_of_ble_eq_true rfl, Nat.le_of_ble_eq_true rfl⟩) (fun u H locs hf Z => ?_)
  obtain ⟨a2, la3⟩ := u
  have Z : ig_Z D kk ad bs s H locs a2 la3 b lb lo := Z
  refine lv_aload_n F.1 F.2.1 dX5_press_19 rfl (lv_at hl 0 rfl) ?_
  have hM := k_X2_isDemanded l (D := D) (kk := kk) (ad := ad) (bs := bs) (a := a2) (la := la3) (b := b) (lb := lb) (lo := lo) x1.toNatClampNeg (ig_lt hv1) hf
  refine ig_calli E Z (ig_runV (As := []) (rest := []) F E Z hl G_X5_129 hM (i := 3 + x1.toNatClampNeg) (by have := ig_lt hv1; omega) (ig_c_ph _ _ _ _ _ _ (ig_lt hv1)) rfl rfl md_X2_isDemanded rfl ⟨rfl, rfl⟩ ⟨Nat.le_of_ble_eq_true rfl, Nat.le_of_ble_eq_true rfl⟩ (Nat.le_of_ble_eq_true rfl) dX5_press_20 ⟨Nat.le_of_ble_eq_true rfl, Nat.le_of_ble_eq_true rfl⟩) (fun r4 u H locs hf Z => ?_)
  refine vx_ret (W.widen (k := 1) (n := 6) (Nat.le_of_ble_eq_true rfl) (Nat.le_of_ble_eq_true rfl) ?_)
  exact W.zret (v := r4) F.1 F.2.1 hr (ig_narrow hf.1) (fun t ht hW => ⟨⟨_, (a2, la3), rfl, hf.2, Z.wd E ht hW⟩, Z.fr ht⟩) Z.2.2.2 dX5_press_23
set_option maxHeartbeats 4000000 in
set_option maxRecDepth 100000 in
theorem k_X5_arrive (l : Launch) {D : va_G} {kk : Nat → ClassId} {ad : Nat → Nat} {bs : Nat} {a : ig_M} {la : Int64} {b : ig_M} {lb lo : Int64} (x1 : Int32) (x2 : Int32) (hlt : l.stackTraces = false) {post : Int32 → ig_M → Int64 → Prop} {px : Nat → Prop} (hf : wp_X5_arrive a la x1 x2 post px) : vx_Met l yX5_arrive (ig_ws yX5_arrive cX5_arrive 4 (some .int)) ({ frames := 7, cells := 2, slots := 12, locals := 111 } : Room) (va_Pc [.ref (ad 0), .int x1, .int x2] (ig_Wd D kk ad bs a la b lb lo)) (va_Qi (fun (r : Int32) (u : ig_M × Int64) => post r u.1 u.2) (fun u t => ig_Wd D kk ad bs u.1 u.2 b lb lo t) (ig_A bs)) (ig_XC D kk ad bs a la b lb lo px) 2 12 (ig_A bs) := by
  refine vx_ofW (cc := cX5_arrive) (maxL := 4) (ret := (some .int)) (by decide) rfl ?_
  intro p e s m args below meth c s₁ B hml hout hv
  obtain ⟨rfl, E, hP⟩ := hv
  have hk := B.notSynchronized
  have hr := B.returns
  have F : CallFix p m c cX5_arrive 4 s _ ig_all RX5 := ⟨B.exec, B.bytes, hml, findClass_of_methodNamed B.named, fun w hw => atoms_spec B.pre w (List.mem_cons_of_mem _ hw)⟩
  have Z : ig_Z D kk ad bs s s.heap [] a la b lb lo := ig_Z.rf hP
  have hl := lv_entry ([.ref (ad 0), .int x1, .int x2]) (n := 4) (Nat.le_of_ble_eq_true rfl)
  rw [lg_entry_eq]
  generalize (lg_sl ([.ref (ad 0), .int x1, .int x2]) ++ List.replicate (4 - (lg_sl ([.ref (ad 0), .int x1, .int x2])).length) Slot.unset).toArray = ls at hl ⊢
  have hl : lv_has ls 4 [(0, .ref (ad 0)), (1, .int x1), (2, .int x2)] := hl
  refine lv_aload_n F.1 F.2.1 dX5_arrive_0 rfl (lv_at hl 0 rfl) ?_
  refine lv_iload_n F.1 F.2.1 dX5_arrive_1 rfl (lv_at hl 1 rfl) ?_
  have hM := k_X5_needPhase l (D := D) (kk := kk) (ad := ad) (bs := bs) (a := a) (la := la) (b := b) (lb := lb) (lo := lo) x1 hlt hf
  refine ig_callvX E Z hk hout (ig_runVX (As := [.int x1]) (rest := []) F E Z hl G_X5_69 hM (i := 0) (by decide) (ig_k_0 _ _ _ _ _ _) rfl rfl md_X5_needPhase rfl ⟨rfl, rfl⟩ ⟨Nat.le_of_ble_eq_true rfl, Nat.le_of_ble_eq_true rfl⟩ (Nat.le_of_ble_eq_true rfl) dX5_arrive_2 ⟨Nat.le_of_ble_eq_true rfl, Nat.le_of_ble_eq_true rfl⟩) (fun u hu => hu) (Nat.le_of_ble_eq_true rfl) (Nat.le_of_ble_eq_true rfl) (fun u H locs hf Z => ?_)
  refine lv_iload_n F.1 F.2.1 dX5_arrive_5 rfl (lv_at hl 2 rfl) ?_
  refine lv_iconst (v := 1) F.1 F.2.1 dX5_arrive_6 (by decide) ?_
  refine lv_bipush (v := 50) F.1 F.2.1 dX5_arrive_7 (by decide) ?_
  have hM := k_X5_isWithin l (D := D) (kk := kk) (ad := ad) (bs := bs) (a := a) (la := la) (b := b) (lb := lb) (lo := lo) x2 1 50 hf
  refine ig_calli E Z (ig_runS (As := [.int x2, .int 1, .int 50]) (rest := []) F E Z hl G_X5_41 hM rfl md_X5_isWithin rfl ⟨rfl, rfl⟩ ⟨Nat.le_of_ble_eq_true rfl, Nat.le_of_ble_eq_true rfl⟩ (Nat.le_of_ble_eq_true rfl) dX5_arrive_9 ⟨Nat.le_of_ble_eq_true rfl, Nat.le_of_ble_eq_true rfl⟩) (fun r1 u H locs hf Z => ?_)
  refine lv_if_ne (tgt := 25) F.1 F.2.1 dX5_arrive_12 (by decide) (fun c_2 => ?_) (fun c_2 => ?_)
  · have hf := hf.1 c_2
    refine lv_aload_n F.1 F.2.1 dX5_arrive_25 rfl (lv_at hl 0 rfl) ?_
    refine gf_X5_10 F E Z dX5_arrive_26 ?_
    refine gf_X5_120 F E Z dX5_arrive_29 ?_
    refine lv_iload_n F.1 F.2.1 dX5_arrive_32 rfl (lv_at hl 1 rfl) ?_
    have hv3 := hf.1
    have hf := hf.2
    refine ig_aald (t0 := 3) (n := 8) (b0 := 3) F E Z rfl (Or.inl rfl) (by decide) (ig_k_2 _ _ _ _ _ _) hv3 dX5_arrive_33 ?_
    refine lv_astore_n (lv' := [(3, .ref (ad (3 + x1.toNatClampNeg))), (0, .ref (ad 0)), (1, .int x1), (2, .int x2)]) F.1 F.2.1 dX5_arrive_34 rfl hl (by decide) rfl (fun ls hl => ?_)
    refine lv_aload_n F.1 F.2.1 dX5_arrive_35 rfl (lv_at hl 0 rfl) ?_
    refine gf_X5_134 F E Z (ig_lt hv3) dX5_arrive_36 ?_
    refine lv_iload_n F.1 F.2.1 dX5_arrive_39 rfl (lv_at hl 3 rfl) ?_
    refine lv_iadd F.1 F.2.1 dX5_arrive_40 ?_
    refine lv_sipush (v := 1000) F.1 F.2.1 dX5_arrive_41 (by decide) ?_
    refine lv_icmp_le (tgt := 57) F.1 F.2.1 dX5_arrive_44 (by decide) (fun c_4 => ?_) (fun c_4 => ?_)
    · have hf := hf.1 c_4
      refine lv_aload_n F.1 F.2.1 dX5_arrive_57 rfl (lv_at hl 0 rfl) ?_
      refine lv_dup F.1 F.2.1 dX5_arrive_58 rfl ?_
      refine gf_X5_134 F E Z (ig_lt hv3) dX5_arrive_59 ?_
      refine lv_iload_n F.1 F.2.1 dX5_arrive_62 rfl (lv_at hl 3 rfl) ?_
      refine lv_iadd F.1 F.2.1 dX5_arrive_63 ?_
      refine pf_X5_134 F E Z (ig_lt hv3) dX5_arrive_64 (fun H locs a5 ha5 Z => ?_)
      have hf := hf a5 ha5
      refine lv_aload_n F.1 F.2.1 dX5_arrive_67 rfl (lv_at hl 0 rfl) ?_
      refine gf_X5_134 F E Z (ig_lt hv3) dX5_arrive_68 ?_
      refine vx_ret (W.widen (k := 2) (n := 12) (Nat.le_of_ble_eq_true rfl) (Nat.le_of_ble_eq_true rfl) ?_)
      exact W.iret (v := a5 (3 + x1.toNatClampNeg) 6) F.1 F.2.1 hr (fun t ht hW => ⟨⟨_, (a5, la), rfl, hf, Z.wd E ht hW⟩, Z.fr ht⟩) Z.2.2.2 dX5_arrive_71
    · have hf := hf.2 c_4
      obtain ⟨sa, hsa⟩ := E.2.2.2.1.2.2.2.2 (137, "the queue would be too long") (by decide +kernel)
      exact ig_throw 1 F E Z hl hlt hk hout (by decide) hf mw_318 mw_319 (ig_at1 E F) (ig_gd1) hsa dX5_arrive_47 dX5_arrive_50 dX5_arrive_51 dX5_arrive_53 dX5_arrive_56 (Nat.le_of_ble_eq_true rfl) (Nat.le_of_ble_eq_true rfl) (Nat.le_of_ble_eq_true rfl) (Nat.le_of_ble_eq_true rfl) (Nat.le_of_ble_eq_true rfl) (Nat.le_of_ble_eq_true rfl)
  · have hf := hf.2 c_2
    obtain ⟨sa, hsa⟩ := E.2.2.2.1.2.2.2.2 (132, "vehicles is out of range") (by decide +kernel)
    exact ig_throw 0 F E Z hl hlt hk hout (by decide) hf mw_316 mw_317 (ig_at0 E F) (ig_gd0) hsa dX5_arrive_15 dX5_arrive_18 dX5_arrive_19 dX5_arrive_21 dX5_arrive_24 (Nat.le_of_ble_eq_true rfl) (Nat.le_of_ble_eq_true rfl) (Nat.le_of_ble_eq_true rfl) (Nat.le_of_ble_eq_true rfl) (Nat.le_of_ble_eq_true rfl) (Nat.le_of_ble_eq_true rfl)
set_option maxHeartbeats 4000000 in
set_option maxRecDepth 100000 in
theorem k_X5_ask (l : Launch) {D : va_G} {kk : Nat → ClassId} {ad : Nat → Nat} {bs : Nat} {a : ig_M} {la : Int64} {b : ig_M} {lb lo : Int64} (x1 : Int32) (hlt : l.stackTraces = false) {post : ig_M → Int64 → Prop} {px : Nat → Prop} (hf : wp_X5_ask a la x1 post px) : vx_Met l yX5_ask (ig_ws yX5_ask cX5_ask 2 none) ({ frames := 7, cells := 2, slots := 12, locals := 111 } : Room) (va_Pc [.ref (ad 0), .int x1] (ig_Wd D kk ad bs a la b lb lo)) (va_Qv (fun u : ig_M × Int64 => post u.1 u.2) (fun u t => ig_Wd D kk ad bs u.1 u.2 b lb lo t) (ig_A bs)) (ig_XC D kk ad bs a la b lb lo px) 2 12 (ig_A bs) := by
  refine vx_ofW (cc := cX5_ask) (maxL := 2) (ret := none) (by decide) rfl ?_
  intro p e s m args below meth c s₁ B hml hout hv
  obtain ⟨rfl, E, hP⟩ := hv
  have hk := B.notSynchronized
  have hr := B.returns
  have F : CallFix p m c cX5_ask 2 s _ ig_all RX5 := ⟨B.exec, B.bytes, hml, findClass_of_methodNamed B.named, fun w hw => atoms_spec B.pre w (List.mem_cons_of_mem _ hw)⟩
  have Z : ig_Z D kk ad bs s s.heap [] a la b lb lo := ig_Z.rf hP
  have hl := lv_entry ([.ref (ad 0), .int x1]) (n := 2) (Nat.le_of_ble_eq_true rfl)
  rw [lg_entry_eq]
  generalize (lg_sl ([.ref (ad 0), .int x1]) ++ List.replicate (2 - (lg_sl ([.ref (ad 0), .int x1])).length) Slot.unset).toArray = ls at hl ⊢
  have hl : lv_has ls 2 [(0, .ref (ad 0)), (1, .int x1)] := hl
  refine lv_aload_n F.1 F.2.1 dX5_ask_0 rfl (lv_at hl 0 rfl) ?_
  refine lv_iload_n F.1 F.2.1 dX5_ask_1 rfl (lv_at hl 1 rfl) ?_
  have hM := k_X5_needPhase l (D := D) (kk := kk) (ad := ad) (bs := bs) (a := a) (la := la) (b := b) (lb := lb) (lo := lo) x1 hlt hf
  refine ig_callvX E Z hk hout (ig_runVX (As := [.int x1]) (rest := []) F E Z hl G_X5_69 hM (i := 0) (by decide) (ig_k_0 _ _ _ _ _ _) rfl rfl md_X5_needPhase rfl ⟨rfl, rfl⟩ ⟨Nat.le_of_ble_eq_true rfl, Nat.le_of_ble_eq_true rfl⟩ (Nat.le_of_ble_eq_true rfl) dX5_ask_2 ⟨Nat.le_of_ble_eq_true rfl, Nat.le_of_ble_eq_true rfl⟩) (fun u hu => hu) (Nat.le_of_ble_eq_true rfl) (Nat.le_of_ble_eq_true rfl) (fun u H locs hf Z => ?_)
  refine lv_aload_n F.1 F.2.1 dX5_ask_5 rfl (lv_at hl 0 rfl) ?_
  refine gf_X5_28 F E Z dX5_ask_6 ?_
  refine gf_X5_139 F E Z dX5_ask_9 ?_
  refine lv_iconst (v := (-1)) F.1 F.2.1 dX5_ask_12 (by decide) ?_
  refine lv_icmp_eq (tgt := 26) F.1 F.2.1 dX5_ask_13 (by decide) (fun c_1 => ?_) (fun c_1 => ?_)
  · have hf := hf.1 c_1
    refine lv_aload_n F.1 F.2.1 dX5_ask_26 rfl (lv_at hl 0 rfl) ?_
    refine gf_X5_28 F E Z dX5_ask_27 ?_
    refine lv_iload_n F.1 F.2.1 dX5_ask_30 rfl (lv_at hl 1 rfl) ?_
    refine pf_X5_139 F E Z dX5_ask_31 (fun H locs a2 ha2 Z => ?_)
    have hf := hf a2 ha2
    refine vx_ret (W.widen (k := 2) (n := 12) (Nat.le_of_ble_eq_true rfl) (Nat.le_of_ble_eq_true rfl) ?_)
    exact W.vret F.1 F.2.1 hr (fun t ht hW => ⟨⟨(a2, la), rfl, hf, Z.wd E ht hW⟩, Z.fr ht⟩) Z.2.2.2 dX5_ask_34
  · have hf := hf.2 c_1
    obtain ⟨sa, hsa⟩ := E.2.2.2.1.2.2.2.2 (142, "a phase is asked for") (by decide +kernel)
    exact ig_throw 1 F E Z hl hlt hk hout (by decide) hf mw_318 mw_319 (ig_at1 E F) (ig_gd1) hsa dX5_ask_16 dX5_ask_19 dX5_ask_20 dX5_ask_22 dX5_ask_25 (Nat.le_of_ble_eq_true rfl) (Nat.le_of_ble_eq_true rfl) (Nat.le_of_ble_eq_true rfl) (Nat.le_of_ble_eq_true rfl) (Nat.le_of_ble_eq_true rfl) (Nat.le_of_ble_eq_true rfl)
set_option maxHeartbeats 4000000 in
set_option maxRecDepth 100000 in
theorem k_X5_cancel (l : Launch) {D : va_G} {kk : Nat → ClassId} {ad : Nat → Nat} {bs : Nat} {a : ig_M} {la : Int64} {b : ig_M} {lb lo : Int64} (hlt : l.stackTraces = false) {post : Int32 → ig_M → Int64 → Prop} {px : Nat → Prop} (hf : wp_X5_cancel a la post px) : vx_Met l yX5_cancel (ig_ws yX5_cancel cX5_cancel 2 (some .int)) ({ frames := 6, cells := 1, slots := 6, locals := 90 } : Room) (va_Pc [.ref (ad 0)] (ig_Wd D kk ad bs a la b lb lo)) (va_Qi (fun (r : Int32) (u : ig_M × Int64) => post r u.1 u.2) (fun u t => ig_Wd D kk ad bs u.1 u.2 b lb lo t) (ig_A bs)) (ig_XC D kk ad bs a la b lb lo px) 1 6 (ig_A bs) := by
  refine vx_ofW (cc := cX5_cancel) (maxL := 2) (ret := (some .int)) (by decide) rfl ?_
  intro p e s m args below meth c s₁ B hml hout hv
  obtain ⟨rfl, E, hP⟩ := hv
  have hk := B.notSynchronized
  have hr := B.returns
  have F : CallFix p m c cX5_cancel 2 s _ ig_all RX5 := ⟨B.exec, B.bytes, hml, findClass_of_methodNamed B.named, fun w hw => atoms_spec B.pre w (List.mem_cons_of_mem _ hw)⟩
  have Z : ig_Z D kk ad bs s s.heap [] a la b lb lo := ig_Z.rf hP
  have hl := lv_entry ([.ref (ad 0)]) (n := 2) (Nat.le_of_ble_eq_true rfl)
  rw [lg_entry_eq]
  generalize (lg_sl ([.ref (ad 0)]) ++ List.replicate (2 - (lg_sl ([.ref (ad 0)])).length) Slot.unset).toArray = ls at hl ⊢
  have hl : lv_has ls 2 [(0, .ref (ad 0))] := hl
  refine lv_aload_n F.1 F.2.1 dX5_cancel_0 rfl (lv_at hl 0 rfl) ?_
  refine gf_X5_28 F E Z dX5_cancel_1 ?_
  refine gf_X5_139 F E Z dX5_cancel_4 ?_
  refine lv_iconst (v := (-1)) F.1 F.2.1 dX5_cancel_7 (by decide) ?_
  refine lv_icmp_ne (tgt := 21) F.1 F.2.1 dX5_cancel_8 (by decide) (fun c_1 => ?_) (fun c_1 => ?_)
  · have hf := hf.1 c_1
    refine lv_aload_n F.1 F.2.1 dX5_cancel_21 rfl (lv_at hl 0 rfl) ?_
    refine gf_X5_28 F E Z dX5_cancel_22 ?_
    refine gf_X5_139 F E Z dX5_cancel_25 ?_
    refine lv_istore_n (lv' := [(1, .int (a 23 5)), (0, .ref (ad 0))]) F.1 F.2.1 dX5_cancel_28 rfl hl (by decide) rfl (fun ls hl => ?_)
    refine lv_aload_n F.1 F.2.1 dX5_cancel_29 rfl (lv_at hl 1 rfl) ?_
    refine gf_X5_28 F E Z dX5_cancel_30 ?_
    refine lv_iconst (v := (-1)) F.1 F.2.1 dX5_cancel_33 (by decide) ?_
    refine pf_X5_139 F E Z dX5_cancel_34 (fun H locs a2 ha2 Z => ?_)
    have hf := hf a2 ha2
    refine lv_iload_n F.1 F.2.1 dX5_cancel_37 rfl (lv_at hl 0 rfl) ?_
    refine vx_ret (W.widen (k := 1) (n := 6) (Nat.le_of_ble_eq_true rfl) (Nat.le_of_ble_eq_true rfl) ?_)
    exact W.iret (v := a 23 5) F.1 F.2.1 hr (fun t ht hW => ⟨⟨_, (a2, la), rfl, hf, Z.wd E ht hW⟩, Z.fr ht⟩) Z.2.2.2 dX5_cancel_38
  · have hf := hf.2 c_1
    obtain ⟨sa, hsa⟩ := E.2.2.2.1.2.2.2.2 (144, "nothing is asked for") (by decide +kernel)
    exact ig_throw 1 F E Z hl hlt hk hout (by decide) hf mw_318 mw_319 (ig_at1 E F) (ig_gd1) hsa dX5_cancel_11 dX5_cancel_14 dX5_cancel_15 dX5_cancel_17 dX5_cancel_20 (Nat.le_of_ble_eq_true rfl) (Nat.le_of_ble_eq_true rfl) (Nat.le_of_ble_eq_true rfl) (Nat.le_of_ble_eq_true rfl) (Nat.le_of_ble_eq_true rfl) (Nat.le_of_ble_eq_true rfl)
set_option maxHeartbeats 4000000 in
set_option maxRecDepth 100000 in
theorem k_X5_breaks (l : Launch) {D : va_G} {kk : Nat → ClassId} {ad : Nat → Nat} {bs : Nat} {a : ig_M} {la : Int64} {b : ig_M} {lb lo : Int64} (x1 : Int32) (x2 : Int32) (x3 : Int32) (hlt : l.stackTraces = false) {post : Int32 → ig_M → Int64 → Prop} {px : Nat → Prop} (hf : wp_X5_breaks a la x1 x2 x3 post px) : vx_Met l yX5_breaks (ig_ws yX5_breaks cX5_breaks 6 (some .boolean)) ({ frames := 7, cells := 2, slots := 12, locals := 111 } : Room) (va_Pc [.ref (ad 0), .int x1, .int x2, .int x3] (ig_Wd D kk ad bs a la b lb lo)) (va_Qi (fun (r : Int32) (u : ig_M × Int64) => post r u.1 u.2) (fun u t => ig_Wd D kk ad bs u.1 u.2 b lb lo t) (ig_A bs)) (ig_XC D kk ad bs a la b lb lo px) 2 12 (ig_A bs) := by
  refine vx_ofW (cc := cX5_breaks) (maxL := 6) (ret := (some .boolean)) (by decide) rfl ?_
  intro p e s m args below meth c s₁ B hml hout hv
  obtain ⟨rfl, E, hP⟩ := hv
  have hk := B.notSynchronized
  have hr := B.returns
  have F : CallFix p m c cX5_breaks 6 s _ ig_all RX5 := ⟨B.exec, B.bytes, hml, findClass_of_methodNamed B.named, fun w hw => atoms_spec B.pre w (List.mem_cons_of_mem _ hw)⟩
  have Z : ig_Z D kk ad bs s s.heap [] a la b lb lo := ig_Z.rf hP
  have hl := lv_entry ([.ref (ad 0), .int x1, .int x2, .int x3]) (n := 6) (Nat.le_of_ble_eq_true rfl)
  rw [lg_entry_eq]
  generalize (lg_sl ([.ref (ad 0), .int x1, .int x2, .int x3]) ++ List.replicate (6 - (lg_sl ([.ref (ad 0), .int x1, .int x2, .int x3])).length) Slot.unset).toArray = ls at hl ⊢
  have hl : lv_has ls 6 [(0, .ref (ad 0)), (1, .int x1), (2, .int x2), (3, .int x3)] := hl
  refine lv_aload_n F.1 F.2.1 dX5_breaks_0 rfl (lv_at hl 0 rfl) ?_
  refine lv_iload_n F.1 F.2.1 dX5_breaks_1 rfl (lv_at hl 1 rfl) ?_
  have hM := k_X5_needPhase l (D := D) (kk := kk) (ad := ad) (bs := bs) (a := a) (la := la) (b := b) (lb := lb) (lo := lo) x1 hlt hf
  refine ig_callvX E Z hk hout (ig_runVX (As := [.int x1]) (rest := []) F E Z hl G_X5_69 hM (i := 0) (by decide) (ig_k_0 _ _ _ _ _ _) rfl rfl md_X5_needPhase rfl ⟨rfl, rfl⟩ ⟨Nat.le_of_ble_eq_true rfl, Nat.le_of_ble_eq_true rfl⟩ (Nat.le_of_ble_eq_true rfl) dX5_breaks_2 ⟨Nat.le_of_ble_eq_true rfl, Nat.le_of_ble_eq_true rfl⟩) (fun u hu => hu) (Nat.le_of_ble_eq_true rfl) (Nat.le_of_ble_eq_true rfl) (fun u H locs hf Z => ?_)
  refine lv_iload_n F.1 F.2.1 dX5_breaks_5 rfl (lv_at hl 2 rfl) ?_
  refine lv_iconst (v := 0) F.1 F.2.1 dX5_breaks_6 (by decide) ?_
  refine lv_iconst (v := 2) F.1 F.2.1 dX5_breaks_7 (by decide) ?_
  have hM := k_X5_isWithin l (D := D) (kk := kk) (ad := ad) (bs := bs) (a := a) (la := la) (b := b) (lb := lb) (lo := lo) x2 0 2 hf
  refine ig_calli E Z (ig_runS (As := [.int x2, .int 0, .int 2]) (rest := []) F E Z hl G_X5_41 hM rfl md_X5_isWithin rfl ⟨rfl, rfl⟩ ⟨Nat.le_of_ble_eq_true rfl, Nat.le_of_ble_eq_true rfl⟩ (Nat.le_of_ble_eq_true rfl) dX5_breaks_8 ⟨Nat.le_of_ble_eq_true rfl, Nat.le_of_ble_eq_true rfl⟩) (fun r1 u H locs hf Z => ?_)
  refine lv_if_ne (tgt := 24) F.1 F.2.1 dX5_breaks_11 (by decide) (fun c_2 => ?_) (fun c_2 => ?_)
  · have hf := hf.1 c_2
    refine lv_aload_n F.1 F.2.1 dX5_breaks_24 rfl (lv_at hl 0 rfl) ?_
    refine gf_X5_10 F E Z dX5_breaks_25 ?_
    refine gf_X5_120 F E Z dX5_breaks_28 ?_
    refine lv_iload_n F.1 F.2.1 dX5_breaks_31 rfl (lv_at hl 1 rfl) ?_
    have hv3 := hf.1
    have hf := hf.2
    refine ig_aald (t0 := 3) (n := 8) (b0 := 3) F E Z rfl (Or.inl rfl) (by decide) (ig_k_2 _ _ _ _ _ _) hv3 dX5_breaks_32 ?_
    refine lv_astore (lv' := [(4, .ref (ad (3 + x1.toNatClampNeg))), (0, .ref (ad 0)), (1, .int x1), (2, .int x2), (3, .int x3)]) F.1 F.2.1 dX5_breaks_33 hl (by decide) rfl (fun ls hl => ?_)
    refine lv_aload F.1 F.2.1 dX5_breaks_35 (lv_at hl 0 rfl) ?_
    refine lv_iload_n F.1 F.2.1 dX5_breaks_37 rfl (lv_at hl 3 rfl) ?_
    have hM := k_X2_isBroken l (D := D) (kk := kk) (ad := ad) (bs := bs) (a := a) (la := la) (b := b) (lb := lb) (lo := lo) x1.toNatClampNeg x2 (ig_lt hv3) hf
    refine ig_calli E Z (ig_runV (As := [.int x2]) (rest := []) F E Z hl G_X5_148 hM (i := 3 + x1.toNatClampNeg) (by have := ig_lt hv3; omega) (ig_c_ph _ _ _ _ _ _ (ig_lt hv3)) rfl rfl md_X2_isBroken rfl ⟨rfl, rfl⟩ ⟨Nat.le_of_ble_eq_true rfl, Nat.le_of_ble_eq_true rfl⟩ (Nat.le_of_ble_eq_true rfl) dX5_breaks_38 ⟨Nat.le_of_ble_eq_true rfl, Nat.le_of_ble_eq_true rfl⟩) (fun r4 u H locs hf Z => ?_)
    refine lv_istore (lv' := [(5, .int r4), (4, .ref (ad (3 + x1.toNatClampNeg))), (0, .ref (ad 0)), (1, .int x1), (2, .int x2), (3, .int x3)]) F.1 F.2.1 dX5_breaks_41 hl (by decide) rfl (fun ls hl => ?_)
    refine lv_aload F.1 F.2.1 dX5_breaks_43 (lv_at hl 1 rfl) ?_
    refine lv_iload_n F.1 F.2.1 dX5_breaks_45 rfl (lv_at hl 4 rfl) ?_
    refine lv_iload_n F.1 F.2.1 dX5_breaks_46 rfl (lv_at hl 5 rfl) ?_
    have hM := k_X2_setBroken l (D := D) (kk := kk) (ad := ad) (bs := bs) (a := a) (la := la) (b := b) (lb := lb) (lo := lo) x1.toNatClampNeg x2 x3 (ig_lt hv3) hf
    refine ig_callv E Z (ig_runV (As := [.int x2, .int x3]) (rest := []) F E Z hl G_X5_151 hM (i := 3 + x1.toNatClampNeg) (by have := ig_lt hv3; omega) (ig_c_ph _ _ _ _ _ _ (ig_lt hv3)) rfl rfl md_X2_setBroken rfl ⟨rfl, rfl⟩ ⟨Nat.le_of_ble_eq_true rfl, Nat.le_of_ble_eq_true rfl⟩ (Nat.le_of_ble_eq_true rfl) dX5_breaks_47 ⟨Nat.le_of_ble_eq_true rfl, Nat.le_of_ble_eq_true rfl⟩) (fun u H locs hf Z => ?_)
    obtain ⟨a5, la6⟩ := u
    have Z : ig_Z D kk ad bs s H locs a5 la6 b lb lo := Z
    refine lv_iload F.1 F.2.1 dX5_breaks_50 (lv_at hl 0 rfl) ?_
    refine vx_ret (W.widen (k := 2) (n := 12) (Nat.le_of_ble_eq_true rfl) (Nat.le_of_ble_eq_true rfl) ?_)
    exact W.zret (v := r4) F.1 F.2.1 hr (ig_narrow hf.1) (fun t ht hW => ⟨⟨_, (a5, la6), rfl, hf.2, Z.wd E ht hW⟩, Z.fr ht⟩) Z.2.2.2 dX5_breaks_52
  · have hf := hf.2 c_2
    obtain ⟨sa, hsa⟩ := E.2.2.2.1.2.2.2.2 (146, "colour is out of range") (by decide +kernel)
    exact ig_throw 0 F E Z hl hlt hk hout (by decide) hf mw_316 mw_317 (ig_at0 E F) (ig_gd0) hsa dX5_breaks_14 dX5_breaks_17 dX5_breaks_18 dX5_breaks_20 dX5_breaks_23 (Nat.le_of_ble_eq_true rfl) (Nat.le_of_ble_eq_true rfl) (Nat.le_of_ble_eq_true rfl) (Nat.le_of_ble_eq_true rfl) (Nat.le_of_ble_eq_true rfl) (Nat.le_of_ble_eq_true rfl)
set_option maxHeartbeats 4000000 in
set_option maxRecDepth 100000 in
theorem wm_X5_go_56 (F : CallFix p m c cX5_go 4 s args ig_all RX5) (E : ig_E D kk ad bs s) (hr : meth.sig.returnType = (some .int)) (hk : meth.locks = false) (hout : ∀ x ∈ c.exceptionTable.toList, False) (hlt : l.stackTraces = false) (post : Int32 → ig_M → Int64 → Prop) (px : Nat → Prop) :
    ∀ (n : Nat) (a : ig_M) (la : Int64) (x1 : Int32) (x2 : Int32) (x3 : Int32) (H : Heap) (locs : List Loc) (ls : Array Slot), wp_X5_go_56 post px n a la x1 x2 x3 → ig_Z D kk ad bs s H locs a la b lb lo → lv_has ls 4 [(0, .ref (ad 0)), (1, .int x1), (2, .int x2), (3, .int x3)] → W p l e ({ frames := 6, cells := 1, slots := 6, locals := 108 } : Room) s m args below meth c H locs 0 0 (vx_MQ below (va_Qi (fun (r : Int32) (u : ig_M × Int64) => post r u.1 u.2) (fun u t => ig_Wd D kk ad bs u.1 u.2 b lb lo t) (ig_A bs)) (ig_XC D kk ad bs a9 la9 b lb lo px) args s 1 6 (ig_A bs)) (F0 m 56 ls []) := by
  intro n
  induction n with
  | zero => intro a la x1 x2 x3 H locs ls hf Z hl; exact False.elim hf
  | succ n ih =>
    intro a la x1 x2 x3 H locs ls hf Z hl
    refine lv_iload_n F.1 F.2.1 dX5_go_56 rfl (lv_at hl 3 rfl) ?_
    refine lv_iload_n F.1 F.2.1 dX5_go_57 rfl (lv_at hl 1 rfl) ?_
    refine lv_icmp_ge (tgt := 74) F.1 F.2.1 dX5_go_58 (by decide) (fun c_4 => ?_) (fun c_4 => ?_)
    · have hf := hf.1 c_4
      refine lv_aload_n F.1 F.2.1 dX5_go_74 rfl (lv_at hl 0 rfl) ?_
      refine gf_X5_28 F E Z dX5_go_75 ?_
      refine gf_X5_162 F E Z dX5_go_78 ?_
      refine lv_iload_n F.1 F.2.1 dX5_go_81 rfl (lv_at hl 2 rfl) ?_
      refine lv_isub F.1 F.2.1 dX5_go_82 ?_
      refine vx_ret (W.widen (k := 1) (n := 6) (Nat.le_of_ble_eq_true rfl) (Nat.le_of_ble_eq_true rfl) ?_)
      exact W.iret (v := (a 23 7) - x2) F.1 F.2.1 hr (fun t ht hW => ⟨⟨_, (a, la), rfl, hf, Z.wd E ht hW⟩, Z.fr ht⟩) Z.2.2.2 dX5_go_83
    · have hf := hf.2 c_4
      refine lv_aload_n F.1 F.2.1 dX5_go_61 rfl (lv_at hl 0 rfl) ?_
      refine gf_X5_28 F E Z dX5_go_62 ?_
      have hM := k_X0_passSecond l (D := D) (kk := kk) (ad := ad) (bs := bs) (a := a) (la := la) (b := b) (lb := lb) (lo := lo) hf
      refine ig_callv E Z (ig_runV (As := []) (rest := []) F E Z hl G_X5_165 hM (i := 23) (by decide) (ig_k_23 _ _ _ _ _ _) rfl rfl md_X0_passSecond rfl ⟨rfl, rfl⟩ ⟨Nat.le_of_ble_eq_true rfl, Nat.le_of_ble_eq_true rfl⟩ (Nat.le_of_ble_eq_true rfl) dX5_go_65 ⟨Nat.le_of_ble_eq_true rfl, Nat.le_of_ble_eq_true rfl⟩) (fun u H locs hf Z => ?_)
      obtain ⟨a5, la6⟩ := u
      have Z : ig_Z D kk ad bs s H locs a5 la6 b lb lo := Z
      refine lv_iinc (v := x3 + 1) (lv' := [(3, .int (x3 + 1)), (0, .ref (ad 0)), (1, .int x1), (2, .int x2)]) F.1 F.2.1 dX5_go_68 hl (k := 3) rfl (by rfl) (by decide) rfl (fun ls hl => ?_)
      refine lv_goto (tgt := 56) F.1 F.2.1 dX5_go_71 (by decide) ?_
      exact ih a5 la6 x1 x2 (x3 + 1) _ _ _ hf Z (lv_sub hl [1, 2, 3, 0] rfl)
set_option maxHeartbeats 4000000 in
set_option maxRecDepth 100000 in
theorem k_X5_go (l : Launch) {D : va_G} {kk : Nat → ClassId} {ad : Nat → Nat} {bs : Nat} {a : ig_M} {la : Int64} {b : ig_M} {lb lo : Int64} (x1 : Int32) (hlt : l.stackTraces = false) {post : Int32 → ig_M → Int64 → Prop} {px : Nat → Prop} (hf : wp_X5_go a la x1 post px) : vx_Met l yX5_go (ig_ws yX5_go cX5_go 4 (some .int)) ({ frames := 6, cells := 1, slots := 6, locals := 108 } : Room) (va_Pc [.ref (ad 0), .int x1] (ig_Wd D kk ad bs a la b lb lo)) (va_Qi (fun (r : Int32) (u : ig_M × Int64) => post r u.1 u.2) (fun u t => ig_Wd D kk ad bs u.1 u.2 b lb lo t) (ig_A bs)) (ig_XC D kk ad bs a la b lb lo px) 1 6 (ig_A bs) := by
  refine vx_ofW (cc := cX5_go) (maxL := 4) (ret := (some .int)) (by decide) rfl ?_
  intro p e s m args below meth c s₁ B hml hout hv
  obtain ⟨rfl, E, hP⟩ := hv
  have hk := B.notSynchronized
  have hr := B.returns
  have F : CallFix p m c cX5_go 4 s _ ig_all RX5 := ⟨B.exec, B.bytes, hml, findClass_of_methodNamed B.named, fun w hw => atoms_spec B.pre w (List.mem_cons_of_mem _ hw)⟩
  have Z : ig_Z D kk ad bs s s.heap [] a la b lb lo := ig_Z.rf hP
  have hl := lv_entry ([.ref (ad 0), .int x1]) (n := 4) (Nat.le_of_ble_eq_true rfl)
  rw [lg_entry_eq]
  generalize (lg_sl ([.ref (ad 0), .int x1]) ++ List.replicate (4 - (lg_sl ([.ref (ad 0), .int x1])).length) Slot.unset).toArray = ls at hl ⊢
  have hl : lv_has ls 4 [(0, .ref (ad 0)), (1, .int x1)] := hl
  refine lv_iload_n F.1 F.2.1 dX5_go_0 rfl (lv_at hl 1 rfl) ?_
  refine lv_iconst (v := 1) F.1 F.2.1 dX5_go_1 (by decide) ?_
  refine lv_sipush (v := 1000) F.1 F.2.1 dX5_go_2 (by decide) ?_
  have hM := k_X5_isWithin l (D := D) (kk := kk) (ad := ad) (bs := bs) (a := a) (la := la) (b := b) (lb := lb) (lo := lo) x1 1 1000 hf
  refine ig_calli E Z (ig_runS (As := [.int x1, .int 1, .int 1000]) (rest := []) F E Z hl G_X5_41 hM rfl md_X5_isWithin rfl ⟨rfl, rfl⟩ ⟨Nat.le_of_ble_eq_true rfl, Nat.le_of_ble_eq_true rfl⟩ (Nat.le_of_ble_eq_true rfl) dX5_go_5 ⟨Nat.le_of_ble_eq_true rfl, Nat.le_of_ble_eq_true rfl⟩) (fun r1 u H locs hf Z => ?_)
  refine lv_if_ne (tgt := 21) F.1 F.2.1 dX5_go_8 (by decide) (fun c_2 => ?_) (fun c_2 => ?_)
  · have hf := hf.1 c_2
    refine lv_aload_n F.1 F.2.1 dX5_go_21 rfl (lv_at hl 0 rfl) ?_
    refine gf_X5_28 F E Z dX5_go_22 ?_
    refine gf_X5_157 F E Z dX5_go_25 ?_
    refine lv_iload_n F.1 F.2.1 dX5_go_28 rfl (lv_at hl 1 rfl) ?_
    refine lv_iadd F.1 F.2.1 dX5_go_29 ?_
    refine lv_sipush (v := 5000) F.1 F.2.1 dX5_go_30 (by decide) ?_
    refine lv_icmp_le (tgt := 46) F.1 F.2.1 dX5_go_33 (by decide) (fun c_3 => ?_) (fun c_3 => ?_)
    · have hf := hf.1 c_3
      refine lv_aload_n F.1 F.2.1 dX5_go_46 rfl (lv_at hl 0 rfl) ?_
      refine gf_X5_28 F E Z dX5_go_47 ?_
      refine gf_X5_162 F E Z dX5_go_50 ?_
      refine lv_istore_n (lv' := [(2, .int (a 23 7)), (0, .ref (ad 0)), (1, .int x1)]) F.1 F.2.1 dX5_go_53 rfl hl (by decide) rfl (fun ls hl => ?_)
      refine lv_iconst (v := 0) F.1 F.2.1 dX5_go_54 (by decide) ?_
      refine lv_istore_n (lv' := [(3, .int 0), (2, .int (a 23 7)), (0, .ref (ad 0)), (1, .int x1)]) F.1 F.2.1 dX5_go_55 rfl hl (by decide) rfl (fun ls hl => ?_)
      obtain ⟨n1, hf⟩ := hf
      exact wm_X5_go_56 F E hr hk hout hlt post px n1 a la x1 (a 23 7) 0 _ _ _ hf Z (lv_sub hl [2, 3, 1, 0] rfl)
    · have hf := hf.2 c_3
      obtain ⟨sa, hsa⟩ := E.2.2.2.1.2.2.2.2 (160, "there would be too many seconds") (by decide +kernel)
      exact ig_throw 1 F E Z hl hlt hk hout (by decide) hf mw_318 mw_319 (ig_at1 E F) (ig_gd1) hsa dX5_go_36 dX5_go_39 dX5_go_40 dX5_go_42 dX5_go_45 (Nat.le_of_ble_eq_true rfl) (Nat.le_of_ble_eq_true rfl) (Nat.le_of_ble_eq_true rfl) (Nat.le_of_ble_eq_true rfl) (Nat.le_of_ble_eq_true rfl) (Nat.le_of_ble_eq_true rfl)
  · have hf := hf.2 c_2
    obtain ⟨sa, hsa⟩ := E.2.2.2.1.2.2.2.2 (155, "seconds is out of range") (by decide +kernel)
    exact ig_throw 0 F E Z hl hlt hk hout (by decide) hf mw_316 mw_317 (ig_at0 E F) (ig_gd0) hsa dX5_go_11 dX5_go_14 dX5_go_15 dX5_go_17 dX5_go_20 (Nat.le_of_ble_eq_true rfl) (Nat.le_of_ble_eq_true rfl) (Nat.le_of_ble_eq_true rfl) (Nat.le_of_ble_eq_true rfl) (Nat.le_of_ble_eq_true rfl) (Nat.le_of_ble_eq_true rfl)
set_option maxHeartbeats 4000000 in
set_option maxRecDepth 100000 in
theorem k_X5_lamp (l : Launch) {D : va_G} {kk : Nat → ClassId} {ad : Nat → Nat} {bs : Nat} {a : ig_M} {la : Int64} {b : ig_M} {lb lo : Int64} (x1 : Int32) (x2 : Int32) (hlt : l.stackTraces = false) {post : Int32 → Prop} {px : Nat → Prop} (hf : wp_X5_lamp a la x1 x2 post px) : vx_Met l yX5_lamp (ig_ws yX5_lamp cX5_lamp 3 (some .int)) ({ frames := 7, cells := 2, slots := 12, locals := 111 } : Room) (va_Pc [.ref (ad 0), .int x1, .int x2] (ig_Wd D kk ad bs a la b lb lo)) (va_Qi (fun (r : Int32) (_ : Unit) => post r) (fun _ t => ig_Wd D kk ad bs a la b lb lo t) (ig_A bs)) (ig_XC D kk ad bs a la b lb lo px) 2 12 (ig_A bs) := by
  refine vx_ofW (cc := cX5_lamp) (maxL := 3) (ret := (some .int)) (by decide) rfl ?_
  intro p e s m args below meth c s₁ B hml hout hv
  obtain ⟨rfl, E, hP⟩ := hv
  have hk := B.notSynchronized
  have hr := B.returns
  have F : CallFix p m c cX5_lamp 3 s _ ig_all RX5 := ⟨B.exec, B.bytes, hml, findClass_of_methodNamed B.named, fun w hw => atoms_spec B.pre w (List.mem_cons_of_mem _ hw)⟩
  have Z : ig_Z D kk ad bs s s.heap [] a la b lb lo := ig_Z.rf hP
  have hl := lv_entry ([.ref (ad 0), .int x1, .int x2]) (n := 3) (Nat.le_of_ble_eq_true rfl)
  rw [lg_entry_eq]
  generalize (lg_sl ([.ref (ad 0), .int x1, .int x2]) ++ List.replicate (3 - (lg_sl ([.ref (ad 0), .int x1, .int x2])).length) Slot.unset).toArray = ls at hl ⊢
  have hl : lv_has ls 3 [(0, .ref (ad 0)), (1, .int x1), (2, .int x2)] := hl
  refine lv_aload_n F.1 F.2.1 dX5_lamp_0 rfl (lv_at hl 0 rfl) ?_
  refine lv_iload_n F.1 F.2.1 dX5_lamp_1 rfl (lv_at hl 1 rfl) ?_
  have hM := k_X5_needPhase l (D := D) (kk := kk) (ad := ad) (bs := bs) (a := a) (la := la) (b := b) (lb := lb) (lo := lo) x1 hlt hf
  refine ig_callvX E Z hk hout (ig_runVX (As := [.int x1]) (rest := []) F E Z hl G_X5_69 hM (i := 0) (by decide) (ig_k_0 _ _ _ _ _ _) rfl rfl md_X5_needPhase rfl ⟨rfl, rfl⟩ ⟨Nat.le_of_ble_eq_true rfl, Nat.le_of_ble_eq_true rfl⟩ (Nat.le_of_ble_eq_true rfl) dX5_lamp_2 ⟨Nat.le_of_ble_eq_true rfl, Nat.le_of_ble_eq_true rfl⟩) (fun u hu => hu) (Nat.le_of_ble_eq_true rfl) (Nat.le_of_ble_eq_true rfl) (fun u H locs hf Z => ?_)
  refine lv_iload_n F.1 F.2.1 dX5_lamp_5 rfl (lv_at hl 2 rfl) ?_
  refine lv_iconst (v := 0) F.1 F.2.1 dX5_lamp_6 (by decide) ?_
  refine lv_aload_n F.1 F.2.1 dX5_lamp_7 rfl (lv_at hl 0 rfl) ?_
  refine gf_X5_28 F E Z dX5_lamp_8 ?_
  refine gf_X5_157 F E Z dX5_lamp_11 ?_
  refine lv_iconst (v := 1) F.1 F.2.1 dX5_lamp_14 (by decide) ?_
  refine lv_isub F.1 F.2.1 dX5_lamp_15 ?_
  have hM := k_X5_isWithin l (D := D) (kk := kk) (ad := ad) (bs := bs) (a := a) (la := la) (b := b) (lb := lb) (lo := lo) x2 0 ((a 23 6) - 1) hf
  refine ig_calli E Z (ig_runS (As := [.int x2, .int 0, .int ((a 23 6) - 1)]) (rest := []) F E Z hl G_X5_41 hM rfl md_X5_isWithin rfl ⟨rfl, rfl⟩ ⟨Nat.le_of_ble_eq_true rfl, Nat.le_of_ble_eq_true rfl⟩ (Nat.le_of_ble_eq_true rfl) dX5_lamp_16 ⟨Nat.le_of_ble_eq_true rfl, Nat.le_of_ble_eq_true rfl⟩) (fun r1 u H locs hf Z => ?_)
  refine lv_if_ne (tgt := 32) F.1 F.2.1 dX5_lamp_19 (by decide) (fun c_2 => ?_) (fun c_2 => ?_)
  · have hf := hf.1 c_2
    refine lv_aload_n F.1 F.2.1 dX5_lamp_32 rfl (lv_at hl 0 rfl) ?_
    refine gf_X5_19 F E Z dX5_lamp_33 ?_
    refine lv_iload_n F.1 F.2.1 dX5_lamp_36 rfl (lv_at hl 1 rfl) ?_
    refine lv_iload_n F.1 F.2.1 dX5_lamp_37 rfl (lv_at hl 2 rfl) ?_
    have hM := k_X1_shown l (D := D) (kk := kk) (ad := ad) (bs := bs) (a := a) (la := la) (b := b) (lb := lb) (lo := lo) x1 x2 hf
    refine ig_calli E Z (ig_runV (As := [.int x1, .int x2]) (rest := []) F E Z hl G_X5_173 hM (i := 21) (by decide) (ig_k_21 _ _ _ _ _ _) rfl rfl md_X1_shown rfl ⟨rfl, rfl⟩ ⟨Nat.le_of_ble_eq_true rfl, Nat.le_of_ble_eq_true rfl⟩ (Nat.le_of_ble_eq_true rfl) dX5_lamp_38 ⟨Nat.le_of_ble_eq_true rfl, Nat.le_of_ble_eq_true rfl⟩) (fun r3 u H locs hf Z => ?_)
    refine vx_ret (W.widen (k := 2) (n := 12) (Nat.le_of_ble_eq_true rfl) (Nat.le_of_ble_eq_true rfl) ?_)
    exact W.iret (v := r3) F.1 F.2.1 hr (fun t ht hW => ⟨⟨_, (), rfl, hf, Z.wd E ht hW⟩, Z.fr ht⟩) Z.2.2.2 dX5_lamp_41
  · have hf := hf.2 c_2
    obtain ⟨sa, hsa⟩ := E.2.2.2.1.2.2.2.2 (170, "that second has not gone by") (by decide +kernel)
    exact ig_throw 2 F E Z hl hlt hk hout (by decide) hf mw_320 mw_321 (ig_at2 E F) (ig_gd2) hsa dX5_lamp_22 dX5_lamp_25 dX5_lamp_26 dX5_lamp_28 dX5_lamp_31 (Nat.le_of_ble_eq_true rfl) (Nat.le_of_ble_eq_true rfl) (Nat.le_of_ble_eq_true rfl) (Nat.le_of_ble_eq_true rfl) (Nat.le_of_ble_eq_true rfl) (Nat.le_of_ble_eq_true rfl)
set_option maxHeartbeats 4000000 in
set_option maxRecDepth 100000 in
theorem k_X5_ofPhase (l : Launch) {D : va_G} {kk : Nat → ClassId} {ad : Nat → Nat} {bs : Nat} {a : ig_M} {la : Int64} {b : ig_M} {lb lo : Int64} (x1 : Int32) (x2 : Int32) (hlt : l.stackTraces = false) {post : Int32 → Prop} {px : Nat → Prop} (hf : wp_X5_ofPhase a la x1 x2 post px) : vx_Met l yX5_ofPhase (ig_ws yX5_ofPhase cX5_ofPhase 3 (some .int)) ({ frames := 7, cells := 2, slots := 12, locals := 111 } : Room) (va_Pc [.ref (ad 0), .int x1, .int x2] (ig_Wd D kk ad bs a la b lb lo)) (va_Qi (fun (r : Int32) (_ : Unit) => post r) (fun _ t => ig_Wd D kk ad bs a la b lb lo t) (ig_A bs)) (ig_XC D kk ad bs a la b lb lo px) 2 12 (ig_A bs) := by
  refine vx_ofW (cc := cX5_ofPhase) (maxL := 3) (ret := (some .int)) (by decide) rfl ?_
  intro p e s m args below meth c s₁ B hml hout hv
  obtain ⟨rfl, E, hP⟩ := hv
  have hk := B.notSynchronized
  have hr := B.returns
  have F : CallFix p m c cX5_ofPhase 3 s _ ig_all RX5 := ⟨B.exec, B.bytes, hml, findClass_of_methodNamed B.named, fun w hw => atoms_spec B.pre w (List.mem_cons_of_mem _ hw)⟩
  have Z : ig_Z D kk ad bs s s.heap [] a la b lb lo := ig_Z.rf hP
  have hl := lv_entry ([.ref (ad 0), .int x1, .int x2]) (n := 3) (Nat.le_of_ble_eq_true rfl)
  rw [lg_entry_eq]
  generalize (lg_sl ([.ref (ad 0), .int x1, .int x2]) ++ List.replicate (3 - (lg_sl ([.ref (ad 0), .int x1, .int x2])).length) Slot.unset).toArray = ls at hl ⊢
  have hl : lv_has ls 3 [(0, .ref (ad 0)), (1, .int x1), (2, .int x2)] := hl
  refine lv_aload_n F.1 F.2.1 dX5_ofPhase_0 rfl (lv_at hl 0 rfl) ?_
  refine lv_iload_n F.1 F.2.1 dX5_ofPhase_1 rfl (lv_at hl 1 rfl) ?_
  have hM := k_X5_needPhase l (D := D) (kk := kk) (ad := ad) (bs := bs) (a := a) (la := la) (b := b) (lb := lb) (lo := lo) x1 hlt hf
  refine ig_callvX E Z hk hout (ig_runVX (As := [.int x1]) (rest := []) F E Z hl G_X5_69 hM (i := 0) (by decide) (ig_k_0 _ _ _ _ _ _) rfl rfl md_X5_needPhase rfl ⟨rfl, rfl⟩ ⟨Nat.le_of_ble_eq_true rfl, Nat.le_of_ble_eq_true rfl⟩ (Nat.le_of_ble_eq_true rfl) dX5_ofPhase_2 ⟨Nat.le_of_ble_eq_true rfl, Nat.le_of_ble_eq_true rfl⟩) (fun u hu => hu) (Nat.le_of_ble_eq_true rfl) (Nat.le_of_ble_eq_true rfl) (fun u H locs hf Z => ?_)
  refine lv_iload_n F.1 F.2.1 dX5_ofPhase_5 rfl (lv_at hl 2 rfl) ?_
  refine lv_iconst (v := 0) F.1 F.2.1 dX5_ofPhase_6 (by decide) ?_
  refine lv_bipush (v := 6) F.1 F.2.1 dX5_ofPhase_7 (by decide) ?_
  have hM := k_X5_isWithin l (D := D) (kk := kk) (ad := ad) (bs := bs) (a := a) (la := la) (b := b) (lb := lb) (lo := lo) x2 0 6 hf
  refine ig_calli E Z (ig_runS (As := [.int x2, .int 0, .int 6]) (rest := []) F E Z hl G_X5_41 hM rfl md_X5_isWithin rfl ⟨rfl, rfl⟩ ⟨Nat.le_of_ble_eq_true rfl, Nat.le_of_ble_eq_true rfl⟩ (Nat.le_of_ble_eq_true rfl) dX5_ofPhase_9 ⟨Nat.le_of_ble_eq_true rfl, Nat.le_of_ble_eq_true rfl⟩) (fun r1 u H locs hf Z => ?_)
  refine lv_if_ne (tgt := 25) F.1 F.2.1 dX5_ofPhase_12 (by decide) (fun c_2 => ?_) (fun c_2 => ?_)
  · have hf := hf.1 c_2
    refine lv_aload_n F.1 F.2.1 dX5_ofPhase_25 rfl (lv_at hl 0 rfl) ?_
    refine gf_X5_10 F E Z dX5_ofPhase_26 ?_
    refine gf_X5_120 F E Z dX5_ofPhase_29 ?_
    refine lv_iload_n F.1 F.2.1 dX5_ofPhase_32 rfl (lv_at hl 1 rfl) ?_
    have hv3 := hf.1
    have hf := hf.2
    refine ig_aald (t0 := 3) (n := 8) (b0 := 3) F E Z rfl (Or.inl rfl) (by decide) (ig_k_2 _ _ _ _ _ _) hv3 dX5_ofPhase_33 ?_
    refine lv_iload_n F.1 F.2.1 dX5_ofPhase_34 rfl (lv_at hl 2 rfl) ?_
    have hM := k_X2_tell l (D := D) (kk := kk) (ad := ad) (bs := bs) (a := a) (la := la) (b := b) (lb := lb) (lo := lo) x1.toNatClampNeg x2 (ig_lt hv3) hf
    refine ig_calli E Z (ig_runV (As := [.int x2]) (rest := []) F E Z hl G_X5_179 hM (i := 3 + x1.toNatClampNeg) (by have := ig_lt hv3; omega) (ig_c_ph _ _ _ _ _ _ (ig_lt hv3)) rfl rfl md_X2_tell rfl ⟨rfl, rfl⟩ ⟨Nat.le_of_ble_eq_true rfl, Nat.le_of_ble_eq_true rfl⟩ (Nat.le_of_ble_eq_true rfl) dX5_ofPhase_35 ⟨Nat.le_of_ble_eq_true rfl, Nat.le_of_ble_eq_true rfl⟩) (fun r4 u H locs hf Z => ?_)
    refine vx_ret (W.widen (k := 2) (n := 12) (Nat.le_of_ble_eq_true rfl) (Nat.le_of_ble_eq_true rfl) ?_)
    exact W.iret (v := r4) F.1 F.2.1 hr (fun t ht hW => ⟨⟨_, (), rfl, hf, Z.wd E ht hW⟩, Z.fr ht⟩) Z.2.2.2 dX5_ofPhase_38
  · have hf := hf.2 c_2
    obtain ⟨sa, hsa⟩ := E.2.2.2.1.2.2.2.2 (177, "what is out of range") (by decide +kernel)
    exact ig_throw 0 F E Z hl hlt hk hout (by decide) hf mw_316 mw_317 (ig_at0 E F) (ig_gd0) hsa dX5_ofPhase_15 dX5_ofPhase_18 dX5_ofPhase_19 dX5_ofPhase_21 dX5_ofPhase_24 (Nat.le_of_ble_eq_true rfl) (Nat.le_of_ble_eq_true rfl) (Nat.le_of_ble_eq_true rfl) (Nat.le_of_ble_eq_true rfl) (Nat.le_of_ble_eq_true rfl) (Nat.le_of_ble_eq_true rfl)
set_option maxHeartbeats 4000000 in
set_option maxRecDepth 100000 in
theorem k_X5_of (l : Launch) {D : va_G} {kk : Nat → ClassId} {ad : Nat → Nat} {bs : Nat} {a : ig_M} {la : Int64} {b : ig_M} {lb lo : Int64} (x1 : Int32) (hlt : l.stackTraces = false) {post : Int32 → Prop} {px : Nat → Prop} (hf : wp_X5_of a la x1 post px) : vx_Met l yX5_of (ig_ws yX5_of cX5_of 2 (some .int)) ({ frames := 6, cells := 1, slots := 6, locals := 90 } : Room) (va_Pc [.ref (ad 0), .int x1] (ig_Wd D kk ad bs a la b lb lo)) (va_Qi (fun (r : Int32) (_ : Unit) => post r) (fun _ t => ig_Wd D kk ad bs a la b lb lo t) (ig_A bs)) (ig_XC D kk ad bs a la b lb lo px) 1 6 (ig_A bs) := by
  refine vx_ofW (cc := cX5_of) (maxL := 2) (ret := (some .int)) (by decide) rfl ?_
  intro p e s m args below meth c s₁ B hml hout hv
  obtain ⟨rfl, E, hP⟩ := hv
  have hk := B.notSynchronized
  have hr := B.returns
  have F : CallFix p m c cX5_of 2 s _ ig_all RX5 := ⟨B.exec, B.bytes, hml, findClass_of_methodNamed B.named, fun w hw => atoms_spec B.pre w (List.mem_cons_of_mem _ hw)⟩
  have Z : ig_Z D kk ad bs s s.heap [] a la b lb lo := ig_Z.rf hP
  have hl := lv_entry ([.ref (ad 0), .int x1]) (n := 2) (Nat.le_of_ble_eq_true rfl)
  rw [lg_entry_eq]
  generalize (lg_sl ([.ref (ad 0), .int x1]) ++ List.replicate (2 - (lg_sl ([.ref (ad 0), .int x1])).length) Slot.unset).toArray = ls at hl ⊢
  have hl : lv_has ls 2 [(0, .ref (ad 0)), (1, .int x1)] := hl
  refine lv_iload_n F.1 F.2.1 dX5_of_0 rfl (lv_at hl 1 rfl) ?_
  refine lv_iconst (v := 0) F.1 F.2.1 dX5_of_1 (by decide) ?_
  refine lv_iconst (v := 4) F.1 F.2.1 dX5_of_2 (by decide) ?_
  have hM := k_X5_isWithin l (D := D) (kk := kk) (ad := ad) (bs := bs) (a := a) (la := la) (b := b) (lb := lb) (lo := lo) x1 0 4 hf
  refine ig_calli E Z (ig_runS (As := [.int x1, .int 0, .int 4]) (rest := []) F E Z hl G_X5_41 hM rfl md_X5_isWithin rfl ⟨rfl, rfl⟩ ⟨Nat.le_of_ble_eq_true rfl, Nat.le_of_ble_eq_true rfl⟩ (Nat.le_of_ble_eq_true rfl) dX5_of_3 ⟨Nat.le_of_ble_eq_true rfl, Nat.le_of_ble_eq_true rfl⟩) (fun r1 u H locs hf Z => ?_)
  refine lv_if_ne (tgt := 19) F.1 F.2.1 dX5_of_6 (by decide) (fun c_2 => ?_) (fun c_2 => ?_)
  · have hf := hf.1 c_2
    refine lv_aload_n F.1 F.2.1 dX5_of_19 rfl (lv_at hl 0 rfl) ?_
    refine gf_X5_28 F E Z dX5_of_20 ?_
    refine lv_iload_n F.1 F.2.1 dX5_of_23 rfl (lv_at hl 1 rfl) ?_
    have hM := k_X0_tell l (D := D) (kk := kk) (ad := ad) (bs := bs) (a := a) (la := la) (b := b) (lb := lb) (lo := lo) x1 hf
    refine ig_calli E Z (ig_runV (As := [.int x1]) (rest := []) F E Z hl G_X5_182 hM (i := 23) (by decide) (ig_k_23 _ _ _ _ _ _) rfl rfl md_X0_tell rfl ⟨rfl, rfl⟩ ⟨Nat.le_of_ble_eq_true rfl, Nat.le_of_ble_eq_true rfl⟩ (Nat.le_of_ble_eq_true rfl) dX5_of_24 ⟨Nat.le_of_ble_eq_true rfl, Nat.le_of_ble_eq_true rfl⟩) (fun r3 u H locs hf Z => ?_)
    refine vx_ret (W.widen (k := 1) (n := 6) (Nat.le_of_ble_eq_true rfl) (Nat.le_of_ble_eq_true rfl) ?_)
    exact W.iret (v := r3) F.1 F.2.1 hr (fun t ht hW => ⟨⟨_, (), rfl, hf, Z.wd E ht hW⟩, Z.fr ht⟩) Z.2.2.2 dX5_of_27
  · have hf := hf.2 c_2
    obtain ⟨sa, hsa⟩ := E.2.2.2.1.2.2.2.2 (177, "what is out of range") (by decide +kernel)
    exact ig_throw 0 F E Z hl hlt hk hout (by decide) hf mw_316 mw_317 (ig_at0 E F) (ig_gd0) hsa dX5_of_9 dX5_of_12 dX5_of_13 dX5_of_15 dX5_of_18 (Nat.le_of_ble_eq_true rfl) (Nat.le_of_ble_eq_true rfl) (Nat.le_of_ble_eq_true rfl) (Nat.le_of_ble_eq_true rfl) (Nat.le_of_ble_eq_true rfl) (Nat.le_of_ble_eq_true rfl)
set_option maxHeartbeats 4000000 in
set_option maxRecDepth 100000 in
theorem k_X5_seen (l : Launch) {D : va_G} {kk : Nat → ClassId} {ad : Nat → Nat} {bs : Nat} {a : ig_M} {la : Int64} {b : ig_M} {lb lo : Int64} (x1 : Int32) (x2 : Int32) (hlt : l.stackTraces = false) {post : Int32 → Prop} {px : Nat → Prop} (hf : wp_X5_seen a la x1 x2 post px) : vx_Met l yX5_seen (ig_ws yX5_seen cX5_seen 3 (some .int)) ({ frames := 7, cells := 3, slots := 18, locals := 111 } : Room) (va_Pc [.ref (ad 0), .int x1, .int x2] (ig_Wd D kk ad bs a la b lb lo)) (va_Qi (fun (r : Int32) (_ : Unit) => post r) (fun _ t => ig_Wd D kk ad bs a la b lb lo t) (ig_A bs)) (ig_XC D kk ad bs a la b lb lo px) 3 18 (ig_A bs) := by
  refine vx_ofW (cc := cX5_seen) (maxL := 3) (ret := (some .int)) (by decide) rfl ?_
  intro p e s m args below meth c s₁ B hml hout hv
  obtain ⟨rfl, E, hP⟩ := hv
  have hk := B.notSynchronized
  have hr := B.returns
  have F : CallFix p m c cX5_seen 3 s _ ig_all RX5 := ⟨B.exec, B.bytes, hml, findClass_of_methodNamed B.named, fun w hw => atoms_spec B.pre w (List.mem_cons_of_mem _ hw)⟩
  have Z : ig_Z D kk ad bs s s.heap [] a la b lb lo := ig_Z.rf hP
  have hl := lv_entry ([.ref (ad 0), .int x1, .int x2]) (n := 3) (Nat.le_of_ble_eq_true rfl)
  rw [lg_entry_eq]
  generalize (lg_sl ([.ref (ad 0), .int x1, .int x2]) ++ List.replicate (3 - (lg_sl ([.ref (ad 0), .int x1, .int x2])).length) Slot.unset).toArray = ls at hl ⊢
  have hl : lv_has ls 3 [(0, .ref (ad 0)), (1, .int x1), (2, .int x2)] := hl
  refine lv_aload_n F.1 F.2.1 dX5_seen_0 rfl (lv_at hl 0 rfl) ?_
  refine lv_iload_n F.1 F.2.1 dX5_seen_1 rfl (lv_at hl 1 rfl) ?_
  have hM := k_X5_needPhase l (D := D) (kk := kk) (ad := ad) (bs := bs) (a := a) (la := la) (b := b) (lb := lb) (lo := lo) x1 hlt hf
  refine ig_callvX E Z hk hout (ig_runVX (As := [.int x1]) (rest := []) F E Z hl G_X5_69 hM (i := 0) (by decide) (ig_k_0 _ _ _ _ _ _) rfl rfl md_X5_needPhase rfl ⟨rfl, rfl⟩ ⟨Nat.le_of_ble_eq_true rfl, Nat.le_of_ble_eq_true rfl⟩ (Nat.le_of_ble_eq_true rfl) dX5_seen_2 ⟨Nat.le_of_ble_eq_true rfl, Nat.le_of_ble_eq_true rfl⟩) (fun u hu => hu) (Nat.le_of_ble_eq_true rfl) (Nat.le_of_ble_eq_true rfl) (fun u H locs hf Z => ?_)
  refine lv_aload_n F.1 F.2.1 dX5_seen_5 rfl (lv_at hl 0 rfl) ?_
  refine lv_iload_n F.1 F.2.1 dX5_seen_6 rfl (lv_at hl 2 rfl) ?_
  have hM := k_X5_needPhase l (D := D) (kk := kk) (ad := ad) (bs := bs) (a := a) (la := la) (b := b) (lb := lb) (lo := lo) x2 hlt hf
  refine ig_callvX E Z hk hout (ig_runVX (As := [.int x2]) (rest := []) F E Z hl G_X5_69 hM (i := 0) (by decide) (ig_k_0 _ _ _ _ _ _) rfl rfl md_X5_needPhase rfl ⟨rfl, rfl⟩ ⟨Nat.le_of_ble_eq_true rfl, Nat.le_of_ble_eq_true rfl⟩ (Nat.le_of_ble_eq_true rfl) dX5_seen_7 ⟨Nat.le_of_ble_eq_true rfl, Nat.le_of_ble_eq_true rfl⟩) (fun u hu => hu) (Nat.le_of_ble_eq_true rfl) (Nat.le_of_ble_eq_true rfl) (fun u H locs hf Z => ?_)
  refine lv_iload_n F.1 F.2.1 dX5_seen_10 rfl (lv_at hl 1 rfl) ?_
  refine lv_iload_n F.1 F.2.1 dX5_seen_11 rfl (lv_at hl 2 rfl) ?_
  refine lv_icmp_ne (tgt := 25) F.1 F.2.1 dX5_seen_12 (by decide) (fun c_1 => ?_) (fun c_1 => ?_)
  · have hf := hf.1 c_1
    refine lv_aload_n F.1 F.2.1 dX5_seen_25 rfl (lv_at hl 0 rfl) ?_
    refine gf_X5_19 F E Z dX5_seen_26 ?_
    refine lv_iload_n F.1 F.2.1 dX5_seen_29 rfl (lv_at hl 1 rfl) ?_
    refine lv_iload_n F.1 F.2.1 dX5_seen_30 rfl (lv_at hl 2 rfl) ?_
    refine lv_aload_n F.1 F.2.1 dX5_seen_31 rfl (lv_at hl 0 rfl) ?_
    refine gf_X5_28 F E Z dX5_seen_32 ?_
    refine gf_X5_157 F E Z dX5_seen_35 ?_
    have hM := k_X1_leastBetween l (D := D) (kk := kk) (ad := ad) (bs := bs) (a := a) (la := la) (b := b) (lb := lb) (lo := lo) x1 x2 (a 23 6) hf
    refine ig_calli E Z (ig_runV (As := [.int x1, .int x2, .int (a 23 6)]) (rest := []) F E Z hl G_X5_189 hM (i := 21) (by decide) (ig_k_21 _ _ _ _ _ _) rfl rfl md_X1_leastBetween rfl ⟨rfl, rfl⟩ ⟨Nat.le_of_ble_eq_true rfl, Nat.le_of_ble_eq_true rfl⟩ (Nat.le_of_ble_eq_true rfl) dX5_seen_38 ⟨Nat.le_of_ble_eq_true rfl, Nat.le_of_ble_eq_true rfl⟩) (fun r2 u H locs hf Z => ?_)
    refine vx_ret (W.widen (k := 3) (n := 18) (Nat.le_of_ble_eq_true rfl) (Nat.le_of_ble_eq_true rfl) ?_)
    exact W.iret (v := r2) F.1 F.2.1 hr (fun t ht hW => ⟨⟨_, (), rfl, hf, Z.wd E ht hW⟩, Z.fr ht⟩) Z.2.2.2 dX5_seen_41
  · have hf := hf.2 c_1
    obtain ⟨sa, hsa⟩ := E.2.2.2.1.2.2.2.2 (187, "the same phase twice") (by decide +kernel)
    exact ig_throw 0 F E Z hl hlt hk hout (by decide) hf mw_316 mw_317 (ig_at0 E F) (ig_gd0) hsa dX5_seen_15 dX5_seen_18 dX5_seen_19 dX5_seen_21 dX5_seen_24 (Nat.le_of_ble_eq_true rfl) (Nat.le_of_ble_eq_true rfl) (Nat.le_of_ble_eq_true rfl) (Nat.le_of_ble_eq_true rfl) (Nat.le_of_ble_eq_true rfl) (Nat.le_of_ble_eq_true rfl)
set_option maxHeartbeats 4000000 in
set_option maxRecDepth 100000 in
theorem k_X5_change (l : Launch) {D : va_G} {kk : Nat → ClassId} {ad : Nat → Nat} {bs : Nat} {a : ig_M} {la : Int64} {b : ig_M} {lb lo : Int64} (x1 : Int32) (x2 : Int32) (hlt : l.stackTraces = false) {post : Int32 → Prop} {px : Nat → Prop} (hf : wp_X5_change a la x1 x2 post px) : vx_Met l yX5_change (ig_ws yX5_change cX5_change 3 (some .int)) ({ frames := 7, cells := 2, slots := 12, locals := 111 } : Room) (va_Pc [.ref (ad 0), .int x1, .int x2] (ig_Wd D kk ad bs a la b lb lo)) (va_Qi (fun (r : Int32) (_ : Unit) => post r) (fun _ t => ig_Wd D kk ad bs a la b lb lo t) (ig_A bs)) (ig_XC D kk ad bs a la b lb lo px) 2 12 (ig_A bs) := by
  refine vx_ofW (cc := cX5_change) (maxL := 3) (ret := (some .int)) (by decide) rfl ?_
  intro p e s m args below meth c s₁ B hml hout hv
  obtain ⟨rfl, E, hP⟩ := hv
  have hk := B.notSynchronized
  have hr := B.returns
  have F : CallFix p m c cX5_change 3 s _ ig_all RX5 := ⟨B.exec, B.bytes, hml, findClass_of_methodNamed B.named, fun w hw => atoms_spec B.pre w (List.mem_cons_of_mem _ hw)⟩
  have Z : ig_Z D kk ad bs s s.heap [] a la b lb lo := ig_Z.rf hP
  have hl := lv_entry ([.ref (ad 0), .int x1, .int x2]) (n := 3) (Nat.le_of_ble_eq_true rfl)
  rw [lg_entry_eq]
  generalize (lg_sl ([.ref (ad 0), .int x1, .int x2]) ++ List.replicate (3 - (lg_sl ([.ref (ad 0), .int x1, .int x2])).length) Slot.unset).toArray = ls at hl ⊢
  have hl : lv_has ls 3 [(0, .ref (ad 0)), (1, .int x1), (2, .int x2)] := hl
  refine lv_aload_n F.1 F.2.1 dX5_change_0 rfl (lv_at hl 0 rfl) ?_
  refine lv_iload_n F.1 F.2.1 dX5_change_1 rfl (lv_at hl 1 rfl) ?_
  have hM := k_X5_needStage l (D := D) (kk := kk) (ad := ad) (bs := bs) (a := a) (la := la) (b := b) (lb := lb) (lo := lo) x1 hlt hf
  refine ig_callvX E Z hk hout (ig_runVX (As := [.int x1]) (rest := []) F E Z hl G_X5_100 hM (i := 0) (by decide) (ig_k_0 _ _ _ _ _ _) rfl rfl md_X5_needStage rfl ⟨rfl, rfl⟩ ⟨Nat.le_of_ble_eq_true rfl, Nat.le_of_ble_eq_true rfl⟩ (Nat.le_of_ble_eq_true rfl) dX5_change_2 ⟨Nat.le_of_ble_eq_true rfl, Nat.le_of_ble_eq_true rfl⟩) (fun u hu => hu) (Nat.le_of_ble_eq_true rfl) (Nat.le_of_ble_eq_true rfl) (fun u H locs hf Z => ?_)
  refine lv_aload_n F.1 F.2.1 dX5_change_5 rfl (lv_at hl 0 rfl) ?_
  refine lv_iload_n F.1 F.2.1 dX5_change_6 rfl (lv_at hl 2 rfl) ?_
  have hM := k_X5_needStage l (D := D) (kk := kk) (ad := ad) (bs := bs) (a := a) (la := la) (b := b) (lb := lb) (lo := lo) x2 hlt hf
  refine ig_callvX E Z hk hout (ig_runVX (As := [.int x2]) (rest := []) F E Z hl G_X5_100 hM (i := 0) (by decide) (ig_k_0 _ _ _ _ _ _) rfl rfl md_X5_needStage rfl ⟨rfl, rfl⟩ ⟨Nat.le_of_ble_eq_true rfl, Nat.le_of_ble_eq_true rfl⟩ (Nat.le_of_ble_eq_true rfl) dX5_change_7 ⟨Nat.le_of_ble_eq_true rfl, Nat.le_of_ble_eq_true rfl⟩) (fun u hu => hu) (Nat.le_of_ble_eq_true rfl) (Nat.le_of_ble_eq_true rfl) (fun u H locs hf Z => ?_)
  refine lv_aload_n F.1 F.2.1 dX5_change_10 rfl (lv_at hl 0 rfl) ?_
  refine gf_X5_10 F E Z dX5_change_11 ?_
  refine lv_iload_n F.1 F.2.1 dX5_change_14 rfl (lv_at hl 1 rfl) ?_
  refine lv_iload_n F.1 F.2.1 dX5_change_15 rfl (lv_at hl 2 rfl) ?_
  have hM := k_X3_secondsToChange l (D := D) (kk := kk) (ad := ad) (bs := bs) (a := a) (la := la) (b := b) (lb := lb) (lo := lo) x1 x2 hf
  refine ig_calli E Z (ig_runV (As := [.int x1, .int x2]) (rest := []) F E Z hl G_X5_192 hM (i := 1) (by decide) (ig_k_1 _ _ _ _ _ _) rfl rfl md_X3_secondsToChange rfl ⟨rfl, rfl⟩ ⟨Nat.le_of_ble_eq_true rfl, Nat.le_of_ble_eq_true rfl⟩ (Nat.le_of_ble_eq_true rfl) dX5_change_16 ⟨Nat.le_of_ble_eq_true rfl, Nat.le_of_ble_eq_true rfl⟩) (fun r1 u H locs hf Z => ?_)
  refine vx_ret (W.widen (k := 2) (n := 12) (Nat.le_of_ble_eq_true rfl) (Nat.le_of_ble_eq_true rfl) ?_)
  exact W.iret (v := r1) F.1 F.2.1 hr (fun t ht hW => ⟨⟨_, (), rfl, hf, Z.wd E ht hW⟩, Z.fr ht⟩) Z.2.2.2 dX5_change_19
set_option maxHeartbeats 4000000 in
set_option maxRecDepth 100000 in
theorem k_X5_inRound (l : Launch) {D : va_G} {kk : Nat → ClassId} {ad : Nat → Nat} {bs : Nat} {a : ig_M} {la : Int64} {b : ig_M} {lb lo : Int64} (x1 : Int32) (hlt : l.stackTraces = false) {post : Int32 → ig_M → Int64 → Prop} {px : Nat → Prop} (hf : wp_X5_inRound a la x1 post px) : vx_Met l yX5_inRound (ig_ws yX5_inRound cX5_inRound 2 (some .int)) ({ frames := 6, cells := 1, slots := 6, locals := 140 } : Room) (va_Pc [.ref (ad 0), .int x1] (ig_Wd D kk ad bs a la b lb lo)) (va_Qi (fun (r : Int32) (u : ig_M × Int64) => post r u.1 u.2) (fun u t => ig_Wd D kk ad bs u.1 u.2 b lb lo t) (ig_A bs)) (ig_XC D kk ad bs a la b lb lo px) 1 6 (ig_A bs) := by
  refine vx_ofW (cc := cX5_inRound) (maxL := 2) (ret := (some .int)) (by decide) rfl ?_
  intro p e s m args below meth c s₁ B hml hout hv
  obtain ⟨rfl, E, hP⟩ := hv
  have hk := B.notSynchronized
  have hr := B.returns
  have F : CallFix p m c cX5_inRound 2 s _ ig_all RX5 := ⟨B.exec, B.bytes, hml, findClass_of_methodNamed B.named, fun w hw => atoms_spec B.pre w (List.mem_cons_of_mem _ hw)⟩
  have Z : ig_Z D kk ad bs s s.heap [] a la b lb lo := ig_Z.rf hP
  have hl := lv_entry ([.ref (ad 0), .int x1]) (n := 2) (Nat.le_of_ble_eq_true rfl)
  rw [lg_entry_eq]
  generalize (lg_sl ([.ref (ad 0), .int x1]) ++ List.replicate (2 - (lg_sl ([.ref (ad 0), .int x1])).length) Slot.unset).toArray = ls at hl ⊢
  have hl : lv_has ls 2 [(0, .ref (ad 0)), (1, .int x1)] := hl
  refine lv_iload_n F.1 F.2.1 dX5_inRound_0 rfl (lv_at hl 1 rfl) ?_
  refine lv_iconst (v := 0) F.1 F.2.1 dX5_inRound_1 (by decide) ?_
  refine lv_aload_n F.1 F.2.1 dX5_inRound_2 rfl (lv_at hl 0 rfl) ?_
  refine gf_X5_10 F E Z dX5_inRound_3 ?_
  refine gf_X5_91 F E Z dX5_inRound_6 ?_
  refine lv_iconst (v := 1) F.1 F.2.1 dX5_inRound_9 (by decide) ?_
  refine lv_isub F.1 F.2.1 dX5_inRound_10 ?_
  have hM := k_X5_isWithin l (D := D) (kk := kk) (ad := ad) (bs := bs) (a := a) (la := la) (b := b) (lb := lb) (lo := lo) x1 0 ((a 1 4) - 1) hf
  refine ig_calli E Z (ig_runS (As := [.int x1, .int 0, .int ((a 1 4) - 1)]) (rest := []) F E Z hl G_X5_41 hM rfl md_X5_isWithin rfl ⟨rfl, rfl⟩ ⟨Nat.le_of_ble_eq_true rfl, Nat.le_of_ble_eq_true rfl⟩ (Nat.le_of_ble_eq_true rfl) dX5_inRound_11 ⟨Nat.le_of_ble_eq_true rfl, Nat.le_of_ble_eq_true rfl⟩) (fun r1 u H locs hf Z => ?_)
  refine lv_if_ne (tgt := 27) F.1 F.2.1 dX5_inRound_14 (by decide) (fun c_2 => ?_) (fun c_2 => ?_)
  · have hf := hf.1 c_2
    refine lv_aload_n F.1 F.2.1 dX5_inRound_27 rfl (lv_at hl 0 rfl) ?_
    refine gf_X5_37 F E Z dX5_inRound_28 ?_
    refine lv_iload_n F.1 F.2.1 dX5_inRound_31 rfl (lv_at hl 1 rfl) ?_
    have hM := k_X4_stageAt l (D := D) (kk := kk) (ad := ad) (bs := bs) (a := a) (la := la) (b := b) (lb := lb) (lo := lo) x1 hf
    refine ig_calli E Z (ig_runV (As := [.int x1]) (rest := []) F E Z hl G_X5_204 hM (i := 24) (by decide) (ig_k_24 _ _ _ _ _ _) rfl rfl md_X4_stageAt rfl ⟨rfl, rfl⟩ ⟨Nat.le_of_ble_eq_true rfl, Nat.le_of_ble_eq_true rfl⟩ (Nat.le_of_ble_eq_true rfl) dX5_inRound_32 ⟨Nat.le_of_ble_eq_true rfl, Nat.le_of_ble_eq_true rfl⟩) (fun r3 u H locs hf Z => ?_)
    obtain ⟨a4, la5⟩ := u
    have Z : ig_Z D kk ad bs s H locs a4 la5 b lb lo := Z
    refine vx_ret (W.widen (k := 1) (n := 6) (Nat.le_of_ble_eq_true rfl) (Nat.le_of_ble_eq_true rfl) ?_)
    exact W.iret (v := r3) F.1 F.2.1 hr (fun t ht hW => ⟨⟨_, (a4, la5), rfl, hf, Z.wd E ht hW⟩, Z.fr ht⟩) Z.2.2.2 dX5_inRound_35
  · have hf := hf.2 c_2
    obtain ⟨sa, hsa⟩ := E.2.2.2.1.2.2.2.2 (202, "there are not so many stages") (by decide +kernel)
    exact ig_throw 2 F E Z hl hlt hk hout (by decide) hf mw_320 mw_321 (ig_at2 E F) (ig_gd2) hsa dX5_inRound_17 dX5_inRound_20 dX5_inRound_21 dX5_inRound_23 dX5_inRound_26 (Nat.le_of_ble_eq_true rfl) (Nat.le_of_ble_eq_true rfl) (Nat.le_of_ble_eq_true rfl) (Nat.le_of_ble_eq_true rfl) (Nat.le_of_ble_eq_true rfl) (Nat.le_of_ble_eq_true rfl)
end IGM
