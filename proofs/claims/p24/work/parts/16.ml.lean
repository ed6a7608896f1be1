section IGN
variable {p : Program} {e : Env} {s : State} {m : MethodId} {args : Array Value} {below : List Frame} {meth : Method} {c : Code} {b0 Ln : Nat} {xs : Nat → Int32}
variable {D : va_G} {kk : Nat → ClassId} {ad : Nat → Nat} {bs : Nat} {b : ig_M} {lb lo : Int64}
set_option maxHeartbeats 4000000 in
set_option maxRecDepth 100000 in
theorem wm_L_prepare_165 (l : Launch) (hlt : l.stackTraces = false) (F : CallFix p m c cL_prepare 4 s args ig_all RL) (E : ig_E D kk ad bs s) (hr : meth.sig.returnType = none) (hk : meth.locks = false) (post : ig_M → Int64 → Prop) :
    ∀ (a : ig_M) (la : Int64) (t0 : Int32) (C S : Nat) (H : Heap) (locs : List Loc) (ls : Array Slot) (_ : C + 1 ≤ 22) (_ : S + 6 ≤ 132), wp_L_prepare_165 post a la t0 → ig_Z D kk ad bs s H locs a la b lb lo → lv_has ls 4 [] → W p l e ({ frames := 8, cells := 22, slots := 132, locals := 135 } : Room) s m args below meth c H locs C S (MQ below (va_Qv (fun (u : ig_M × Int64) => post u.1 u.2) (fun u t => ig_Wd D kk ad bs u.1 u.2 b lb lo t) (ig_A bs)) args s 22 132 (ig_A bs)) (F0 m 165 ls [.int t0, .ref (ad 0)]) := by
  intro a la t0 C S H locs ls hC hS hf Z hl
  have hM := k_X5_stage l (D := D) (kk := kk) (ad := ad) (bs := bs) (a := a) (la := la) (b := b) (lb := lb) (lo := lo) t0 hlt hf
  refine ig_callXi E Z (ig_runVX (As := [.int t0]) (rest := []) F E Z hl G_L_25 hM (i := 0) (by decide) (ig_k_0 _ _ _ _ _ _) rfl rfl md_X5_stage rfl ⟨rfl, rfl⟩ ⟨Nat.le_of_ble_eq_true rfl, Nat.le_of_ble_eq_true rfl⟩ (Nat.le_of_ble_eq_true rfl) dL_prepare_165 ⟨(by show _ ≤ 22; omega), (by show _ ≤ 132; omega)⟩) (fun u q9 ce H locs hu Z hce hcv hcl => hu.elim) (fun r28 u H locs hf Z => ?_)
  obtain ⟨a29, la30⟩ := u
  have Z : ig_Z D kk ad bs _ H locs a29 la30 b lb lo := Z
  refine lv_pop F.1 F.2.1 dL_prepare_168 rfl ?_
  refine W.widen (k := 22) (n := 132) (by omega) (by omega) ?_
  exact W.vret F.1 F.2.1 hr (fun t ht hW => ⟨⟨(a29, la30), rfl, hf, Z.wd E ht hW⟩, Z.fr ht⟩) Z.2.2.2 dL_prepare_169
set_option maxHeartbeats 4000000 in
set_option maxRecDepth 100000 in
theorem wm_L_prepare_2 (l : Launch) (hlt : l.stackTraces = false) (F : CallFix p m c cL_prepare 4 s args ig_all RL) (E : ig_E D kk ad bs s) (hr : meth.sig.returnType = none) (hk : meth.locks = false) (post : ig_M → Int64 → Prop) :
    ∀ n_2 : Nat, ∀ (a : ig_M) (la : Int64) (x1 : Int32) (x2 : Int32) (C S : Nat) (H : Heap) (locs : List Loc) (ls : Array Slot) (_ : C + n_2 * 1 + 12 ≤ 22) (_ : S + n_2 * 6 + 72 ≤ 132), wp_L_prepare_2 post n_2 a la x1 x2 → ig_Z D kk ad bs s H locs a la b lb lo → lv_has ls 4 [(0, .ref (ad 0)), (1, .int x1), (2, .int x2)] → W p l e ({ frames := 8, cells := 22, slots := 132, locals := 135 } : Room) s m args below meth c H locs C S (MQ below (va_Qv (fun (u : ig_M × Int64) => post u.1 u.2) (fun u t => ig_Wd D kk ad bs u.1 u.2 b lb lo t) (ig_A bs)) args s 22 132 (ig_A bs)) (F0 m 2 ls []) := by
  intro n
  induction n with
  | zero => intro a la x1 x2 C S H locs ls hC hS hf Z hl; exact False.elim hf
  | succ n ih =>
    intro a la x1 x2 C S H locs ls hC hS hf Z hl
    refine lv_iload_n F.1 F.2.1 dL_prepare_2 rfl (lv_at hl 2 rfl) ?_
    refine lv_iconst (v := 4) F.1 F.2.1 dL_prepare_3 (by decide) ?_
    refine lv_icmp_ge (tgt := 51) F.1 F.2.1 dL_prepare_4 (by decide) (fun c_1 => ?_) (fun c_1 => ?_)
    · have hf := hf.1 c_1
      refine lv_aload_n F.1 F.2.1 dL_prepare_51 rfl (lv_at hl 0 rfl) ?_
      refine lv_iconst (v := 0) F.1 F.2.1 dL_prepare_52 (by decide) ?_
      refine lv_iconst (v := 1) F.1 F.2.1 dL_prepare_53 (by decide) ?_
      refine lv_iconst (v := 1) F.1 F.2.1 dL_prepare_54 (by decide) ?_
      refine lv_iload_n F.1 F.2.1 dL_prepare_55 rfl (lv_at hl 1 rfl) ?_
      refine lv_iconst (v := 4) F.1 F.2.1 dL_prepare_56 (by decide) ?_
      refine lv_ishr F.1 F.2.1 dL_prepare_57 ?_
      refine lv_bipush (v := 8) F.1 F.2.1 dL_prepare_58 (by decide) ?_
      have hM := k_L_low l (D := D) (kk := kk) (ad := ad) (bs := bs) (a := a) (la := la) (b := b) (lb := lb) (lo := lo) (x1 >>> (4 &&& 31)) 8 hf
      refine ig_calli E Z (ig_runS (As := [.int (x1 >>> (4 &&& 31)), .int 8]) (rest := [.int 1, .int 1, .int 0, .ref (ad 0)]) F E Z hl G_L_76 hM rfl md_L_low rfl ⟨rfl, rfl⟩ ⟨Nat.le_of_ble_eq_true rfl, Nat.le_of_ble_eq_true rfl⟩ (Nat.le_of_ble_eq_true rfl) dL_prepare_60 ⟨(by show _ ≤ 22; omega), (by show _ ≤ 132; omega)⟩) (fun r2 u H locs hf Z => ?_)
      have Z : ig_Z D kk ad bs _ H locs a la b lb lo := Z
      refine lv_iadd F.1 F.2.1 dL_prepare_63 ?_
      refine lv_iconst (v := 1) F.1 F.2.1 dL_prepare_64 (by decide) ?_
      refine lv_iload_n F.1 F.2.1 dL_prepare_65 rfl (lv_at hl 1 rfl) ?_
      refine lv_bipush (v := 7) F.1 F.2.1 dL_prepare_66 (by decide) ?_
      refine lv_ishr F.1 F.2.1 dL_prepare_68 ?_
      refine lv_bipush (v := 8) F.1 F.2.1 dL_prepare_69 (by decide) ?_
      have hM := k_L_low l (D := D) (kk := kk) (ad := ad) (bs := bs) (a := a) (la := la) (b := b) (lb := lb) (lo := lo) (x1 >>> (7 &&& 31)) 8 hf
      refine ig_calli E Z (ig_runS (As := [.int (x1 >>> (7 &&& 31)), .int 8]) (rest := [.int 1, .int (1 + r2), .int 1, .int 0, .ref (ad 0)]) F E Z hl G_L_76 hM rfl md_L_low rfl ⟨rfl, rfl⟩ ⟨Nat.le_of_ble_eq_true rfl, Nat.le_of_ble_eq_true rfl⟩ (Nat.le_of_ble_eq_true rfl) dL_prepare_71 ⟨(by show _ ≤ 22; omega), (by show _ ≤ 132; omega)⟩) (fun r3 u H locs hf Z => ?_)
      have Z : ig_Z D kk ad bs _ H locs a la b lb lo := Z
      refine lv_iadd F.1 F.2.1 dL_prepare_74 ?_
      have hM := k_X5_meet l (D := D) (kk := kk) (ad := ad) (bs := bs) (a := a) (la := la) (b := b) (lb := lb) (lo := lo) 0 1 (1 + r2) (1 + r3) hlt hf
      refine ig_callXv E Z (ig_runVX (As := [.int 0, .int 1, .int (1 + r2), .int (1 + r3)]) (rest := []) F E Z hl G_L_19 hM (i := 0) (by decide) (ig_k_0 _ _ _ _ _ _) rfl rfl md_X5_meet rfl ⟨rfl, rfl⟩ ⟨Nat.le_of_ble_eq_true rfl, Nat.le_of_ble_eq_true rfl⟩ (Nat.le_of_ble_eq_true rfl) dL_prepare_75 ⟨(by show _ ≤ 22; omega), (by show _ ≤ 132; omega)⟩) (fun u q9 ce H locs hu Z hce hcv hcl => hu.elim) (fun u H locs hf Z => ?_)
      obtain ⟨a4, la5⟩ := u
      have Z : ig_Z D kk ad bs _ H locs a4 la5 b lb lo := Z
      refine lv_aload_n F.1 F.2.1 dL_prepare_78 rfl (lv_at hl 0 rfl) ?_
      refine lv_iconst (v := 0) F.1 F.2.1 dL_prepare_79 (by decide) ?_
      refine lv_iconst (v := 2) F.1 F.2.1 dL_prepare_80 (by decide) ?_
      refine lv_iconst (v := 1) F.1 F.2.1 dL_prepare_81 (by decide) ?_
      refine lv_iload_n F.1 F.2.1 dL_prepare_82 rfl (lv_at hl 1 rfl) ?_
      refine lv_iconst (v := 5) F.1 F.2.1 dL_prepare_83 (by decide) ?_
      refine lv_ishr F.1 F.2.1 dL_prepare_84 ?_
      refine lv_bipush (v := 8) F.1 F.2.1 dL_prepare_85 (by decide) ?_
      have hM := k_L_low l (D := D) (kk := kk) (ad := ad) (bs := bs) (a := a4) (la := la5) (b := b) (lb := lb) (lo := lo) (x1 >>> (5 &&& 31)) 8 hf
      refine ig_calli E Z (ig_runS (As := [.int (x1 >>> (5 &&& 31)), .int 8]) (rest := [.int 1, .int 2, .int 0, .ref (ad 0)]) F E Z hl G_L_76 hM rfl md_L_low rfl ⟨rfl, rfl⟩ ⟨Nat.le_of_ble_eq_true rfl, Nat.le_of_ble_eq_true rfl⟩ (Nat.le_of_ble_eq_true rfl) dL_prepare_87 ⟨(by show _ ≤ 22; omega), (by show _ ≤ 132; omega)⟩) (fun r6 u H locs hf Z => ?_)
      have Z : ig_Z D kk ad bs _ H locs a4 la5 b lb lo := Z
      refine lv_iadd F.1 F.2.1 dL_prepare_90 ?_
      refine lv_iconst (v := 1) F.1 F.2.1 dL_prepare_91 (by decide) ?_
      refine lv_iload_n F.1 F.2.1 dL_prepare_92 rfl (lv_at hl 1 rfl) ?_
      refine lv_bipush (v := 9) F.1 F.2.1 dL_prepare_93 (by decide) ?_
      refine lv_ishr F.1 F.2.1 dL_prepare_95 ?_
      refine lv_bipush (v := 8) F.1 F.2.1 dL_prepare_96 (by decide) ?_
      have hM := k_L_low l (D := D) (kk := kk) (ad := ad) (bs := bs) (a := a4) (la := la5) (b := b) (lb := lb) (lo := lo) (x1 >>> (9 &&& 31)) 8 hf
      refine ig_calli E Z (ig_runS (As := [.int (x1 >>> (9 &&& 31)), .int 8]) (rest := [.int 1, .int (1 + r6), .int 2, .int 0, .ref (ad 0)]) F E Z hl G_L_76 hM rfl md_L_low rfl ⟨rfl, rfl⟩ ⟨Nat.le_of_ble_eq_true rfl, Nat.le_of_ble_eq_true rfl⟩ (Nat.le_of_ble_eq_true rfl) dL_prepare_98 ⟨(by show _ ≤ 22; omega), (by show _ ≤ 132; omega)⟩) (fun r7 u H locs hf Z => ?_)
      have Z : ig_Z D kk ad bs _ H locs a4 la5 b lb lo := Z
      refine lv_iadd F.1 F.2.1 dL_prepare_101 ?_
      have hM := k_X5_meet l (D := D) (kk := kk) (ad := ad) (bs := bs) (a := a4) (la := la5) (b := b) (lb := lb) (lo := lo) 0 2 (1 + r6) (1 + r7) hlt hf
      refine ig_callXv E Z (ig_runVX (As := [.int 0, .int 2, .int (1 + r6), .int (1 + r7)]) (rest := []) F E Z hl G_L_19 hM (i := 0) (by decide) (ig_k_0 _ _ _ _ _ _) rfl rfl md_X5_meet rfl ⟨rfl, rfl⟩ ⟨Nat.le_of_ble_eq_true rfl, Nat.le_of_ble_eq_true rfl⟩ (Nat.le_of_ble_eq_true rfl) dL_prepare_102 ⟨(by show _ ≤ 22; omega), (by show _ ≤ 132; omega)⟩) (fun u q9 ce H locs hu Z hce hcv hcl => hu.elim) (fun u H locs hf Z => ?_)
      obtain ⟨a8, la9⟩ := u
      have Z : ig_Z D kk ad bs _ H locs a8 la9 b lb lo := Z
      refine lv_aload_n F.1 F.2.1 dL_prepare_105 rfl (lv_at hl 0 rfl) ?_
      refine lv_iconst (v := 2) F.1 F.2.1 dL_prepare_106 (by decide) ?_
      refine lv_iconst (v := 3) F.1 F.2.1 dL_prepare_107 (by decide) ?_
      refine lv_iconst (v := 1) F.1 F.2.1 dL_prepare_108 (by decide) ?_
      refine lv_iload_n F.1 F.2.1 dL_prepare_109 rfl (lv_at hl 1 rfl) ?_
      refine lv_bipush (v := 6) F.1 F.2.1 dL_prepare_110 (by decide) ?_
      refine lv_ishr F.1 F.2.1 dL_prepare_112 ?_
      refine lv_bipush (v := 8) F.1 F.2.1 dL_prepare_113 (by decide) ?_
      have hM := k_L_low l (D := D) (kk := kk) (ad := ad) (bs := bs) (a := a8) (la := la9) (b := b) (lb := lb) (lo := lo) (x1 >>> (6 &&& 31)) 8 hf
      refine ig_calli E Z (ig_runS (As := [.int (x1 >>> (6 &&& 31)), .int 8]) (rest := [.int 1, .int 3, .int 2, .ref (ad 0)]) F E Z hl G_L_76 hM rfl md_L_low rfl ⟨rfl, rfl⟩ ⟨Nat.le_of_ble_eq_true rfl, Nat.le_of_ble_eq_true rfl⟩ (Nat.le_of_ble_eq_true rfl) dL_prepare_115 ⟨(by show _ ≤ 22; omega), (by show _ ≤ 132; omega)⟩) (fun r10 u H locs hf Z => ?_)
      have Z : ig_Z D kk ad bs _ H locs a8 la9 b lb lo := Z
      refine lv_iadd F.1 F.2.1 dL_prepare_118 ?_
      refine lv_iconst (v := 1) F.1 F.2.1 dL_prepare_119 (by decide) ?_
      refine lv_iload_n F.1 F.2.1 dL_prepare_120 rfl (lv_at hl 1 rfl) ?_
      refine lv_iconst (v := 3) F.1 F.2.1 dL_prepare_121 (by decide) ?_
      refine lv_ishr F.1 F.2.1 dL_prepare_122 ?_
      refine lv_bipush (v := 8) F.1 F.2.1 dL_prepare_123 (by decide) ?_
      have hM := k_L_low l (D := D) (kk := kk) (ad := ad) (bs := bs) (a := a8) (la := la9) (b := b) (lb := lb) (lo := lo) (x1 >>> (3 &&& 31)) 8 hf
      refine ig_calli E Z (ig_runS (As := [.int (x1 >>> (3 &&& 31)), .int 8]) (rest := [.int 1, .int (1 + r10), .int 3, .int 2, .ref (ad 0)]) F E Z hl G_L_76 hM rfl md_L_low rfl ⟨rfl, rfl⟩ ⟨Nat.le_of_ble_eq_true rfl, Nat.le_of_ble_eq_true rfl⟩ (Nat.le_of_ble_eq_true rfl) dL_prepare_125 ⟨(by show _ ≤ 22; omega), (by show _ ≤ 132; omega)⟩) (fun r11 u H locs hf Z => ?_)
      have Z : ig_Z D kk ad bs _ H locs a8 la9 b lb lo := Z
      refine lv_iadd F.1 F.2.1 dL_prepare_128 ?_
      have hM := k_X5_meet l (D := D) (kk := kk) (ad := ad) (bs := bs) (a := a8) (la := la9) (b := b) (lb := lb) (lo := lo) 2 3 (1 + r10) (1 + r11) hlt hf
      refine ig_callXv E Z (ig_runVX (As := [.int 2, .int 3, .int (1 + r10), .int (1 + r11)]) (rest := []) F E Z hl G_L_19 hM (i := 0) (by decide) (ig_k_0 _ _ _ _ _ _) rfl rfl md_X5_meet rfl ⟨rfl, rfl⟩ ⟨Nat.le_of_ble_eq_true rfl, Nat.le_of_ble_eq_true rfl⟩ (Nat.le_of_ble_eq_true rfl) dL_prepare_129 ⟨(by show _ ≤ 22; omega), (by show _ ≤ 132; omega)⟩) (fun u q9 ce H locs hu Z hce hcv hcl => hu.elim) (fun u H locs hf Z => ?_)
      obtain ⟨a12, la13⟩ := u
      have Z : ig_Z D kk ad bs _ H locs a12 la13 b lb lo := Z
      refine lv_aload_n F.1 F.2.1 dL_prepare_132 rfl (lv_at hl 0 rfl) ?_
      refine lv_bipush (v := 9) F.1 F.2.1 dL_prepare_133 (by decide) ?_
      have hM := k_X5_stage l (D := D) (kk := kk) (ad := ad) (bs := bs) (a := a12) (la := la13) (b := b) (lb := lb) (lo := lo) 9 hlt hf
      refine ig_callXi E Z (ig_runVX (As := [.int 9]) (rest := []) F E Z hl G_L_25 hM (i := 0) (by decide) (ig_k_0 _ _ _ _ _ _) rfl rfl md_X5_stage rfl ⟨rfl, rfl⟩ ⟨Nat.le_of_ble_eq_true rfl, Nat.le_of_ble_eq_true rfl⟩ (Nat.le_of_ble_eq_true rfl) dL_prepare_135 ⟨(by show _ ≤ 22; omega), (by show _ ≤ 132; omega)⟩) (fun u q9 ce H locs hu Z hce hcv hcl => hu.elim) (fun r14 u H locs hf Z => ?_)
      obtain ⟨a15, la16⟩ := u
      have Z : ig_Z D kk ad bs _ H locs a15 la16 b lb lo := Z
      refine lv_pop F.1 F.2.1 dL_prepare_138 rfl ?_
      refine lv_aload_n F.1 F.2.1 dL_prepare_139 rfl (lv_at hl 0 rfl) ?_
      refine lv_bipush (v := 6) F.1 F.2.1 dL_prepare_140 (by decide) ?_
      have hM := k_X5_stage l (D := D) (kk := kk) (ad := ad) (bs := bs) (a := a15) (la := la16) (b := b) (lb := lb) (lo := lo) 6 hlt hf
      refine ig_callXi E Z (ig_runVX (As := [.int 6]) (rest := []) F E Z hl G_L_25 hM (i := 0) (by decide) (ig_k_0 _ _ _ _ _ _) rfl rfl md_X5_stage rfl ⟨rfl, rfl⟩ ⟨Nat.le_of_ble_eq_true rfl, Nat.le_of_ble_eq_true rfl⟩ (Nat.le_of_ble_eq_true rfl) dL_prepare_142 ⟨(by show _ ≤ 22; omega), (by show _ ≤ 132; omega)⟩) (fun u q9 ce H locs hu Z hce hcv hcl => hu.elim) (fun r17 u H locs hf Z => ?_)
      obtain ⟨a18, la19⟩ := u
      have Z : ig_Z D kk ad bs _ H locs a18 la19 b lb lo := Z
      refine lv_pop F.1 F.2.1 dL_prepare_145 rfl ?_
      refine lv_aload_n F.1 F.2.1 dL_prepare_146 rfl (lv_at hl 0 rfl) ?_
      refine lv_iload_n F.1 F.2.1 dL_prepare_147 rfl (lv_at hl 1 rfl) ?_
      refine lv_bipush (v := 8) F.1 F.2.1 dL_prepare_148 (by decide) ?_
      refine lv_ishr F.1 F.2.1 dL_prepare_150 ?_
      refine lv_iconst (v := 2) F.1 F.2.1 dL_prepare_151 (by decide) ?_
      have hM := k_L_low l (D := D) (kk := kk) (ad := ad) (bs := bs) (a := a18) (la := la19) (b := b) (lb := lb) (lo := lo) (x1 >>> (8 &&& 31)) 2 hf
      refine ig_calli E Z (ig_runS (As := [.int (x1 >>> (8 &&& 31)), .int 2]) (rest := [.ref (ad 0)]) F E Z hl G_L_76 hM rfl md_L_low rfl ⟨rfl, rfl⟩ ⟨Nat.le_of_ble_eq_true rfl, Nat.le_of_ble_eq_true rfl⟩ (Nat.le_of_ble_eq_true rfl) dL_prepare_152 ⟨(by show _ ≤ 22; omega), (by show _ ≤ 132; omega)⟩) (fun r20 u H locs hf Z => ?_)
      have Z : ig_Z D kk ad bs _ H locs a18 la19 b lb lo := Z
      refine lv_if_ne (tgt := 163) F.1 F.2.1 dL_prepare_155 (by decide) (fun c_21 => ?_) (fun c_21 => ?_)
      · have hf := hf.1 c_21
        refine lv_bipush (v := 10) F.1 F.2.1 dL_prepare_163 (by decide) ?_
        exact wm_L_prepare_165 l hlt F E hr hk post a18 la19 10 _ _ _ _ _ (by omega) (by omega) hf Z (lv_sub hl [] rfl)
      · have hf := hf.2 c_21
        refine lv_bipush (v := 8) F.1 F.2.1 dL_prepare_158 (by decide) ?_
        refine lv_goto (tgt := 165) F.1 F.2.1 dL_prepare_160 (by decide) ?_
        exact wm_L_prepare_165 l hlt F E hr hk post a18 la19 8 _ _ _ _ _ (by omega) (by omega) hf Z (lv_sub hl [] rfl)
    · have hf := hf.2 c_1
      refine lv_iconst (v := 1) F.1 F.2.1 dL_prepare_7 (by decide) ?_
      refine lv_iload_n F.1 F.2.1 dL_prepare_8 rfl (lv_at hl 1 rfl) ?_
      refine lv_iconst (v := 3) F.1 F.2.1 dL_prepare_9 (by decide) ?_
      refine lv_iload_n F.1 F.2.1 dL_prepare_10 rfl (lv_at hl 2 rfl) ?_
      refine lv_imul F.1 F.2.1 dL_prepare_11 ?_
      refine lv_ishr F.1 F.2.1 dL_prepare_12 ?_
      refine lv_bipush (v := 6) F.1 F.2.1 dL_prepare_13 (by decide) ?_
      have hM := k_L_low l (D := D) (kk := kk) (ad := ad) (bs := bs) (a := a) (la := la) (b := b) (lb := lb) (lo := lo) (x1 >>> ((3 * x2) &&& 31)) 6 hf
      refine ig_calli E Z (ig_runS (As := [.int (x1 >>> ((3 * x2) &&& 31)), .int 6]) (rest := [.int 1]) F E Z hl G_L_76 hM rfl md_L_low rfl ⟨rfl, rfl⟩ ⟨Nat.le_of_ble_eq_true rfl, Nat.le_of_ble_eq_true rfl⟩ (Nat.le_of_ble_eq_true rfl) dL_prepare_15 ⟨(by show _ ≤ 22; omega), (by show _ ≤ 132; omega)⟩) (fun r22 u H locs hf Z => ?_)
      have Z : ig_Z D kk ad bs _ H locs a la b lb lo := Z
      refine lv_iadd F.1 F.2.1 dL_prepare_18 ?_
      refine lv_istore_n (lv' := [(3, .int (1 + r22)), (0, .ref (ad 0)), (1, .int x1), (2, .int x2)]) F.1 F.2.1 dL_prepare_19 rfl hl (by decide) rfl (fun ls hl => ?_)
      refine lv_aload_n F.1 F.2.1 dL_prepare_20 rfl (lv_at hl 1 rfl) ?_
      refine lv_iload_n F.1 F.2.1 dL_prepare_21 rfl (lv_at hl 0 rfl) ?_
      refine lv_iload_n F.1 F.2.1 dL_prepare_22 rfl (lv_at hl 0 rfl) ?_
      refine lv_iload_n F.1 F.2.1 dL_prepare_23 rfl (lv_at hl 2 rfl) ?_
      refine lv_iconst (v := 2) F.1 F.2.1 dL_prepare_24 (by decide) ?_
      refine lv_iload_n F.1 F.2.1 dL_prepare_25 rfl (lv_at hl 3 rfl) ?_
      refine lv_imul F.1 F.2.1 dL_prepare_26 ?_
      refine lv_ishr F.1 F.2.1 dL_prepare_27 ?_
      refine lv_bipush (v := 20) F.1 F.2.1 dL_prepare_28 (by decide) ?_
      have hM := k_L_low l (D := D) (kk := kk) (ad := ad) (bs := bs) (a := a) (la := la) (b := b) (lb := lb) (lo := lo) (x1 >>> ((2 * x2) &&& 31)) 20 hf
      refine ig_calli E Z (ig_runS (As := [.int (x1 >>> ((2 * x2) &&& 31)), .int 20]) (rest := [.int (1 + r22), .int (1 + r22), .ref (ad 0)]) F E Z hl G_L_76 hM rfl md_L_low rfl ⟨rfl, rfl⟩ ⟨Nat.le_of_ble_eq_true rfl, Nat.le_of_ble_eq_true rfl⟩ (Nat.le_of_ble_eq_true rfl) dL_prepare_30 ⟨(by show _ ≤ 22; omega), (by show _ ≤ 132; omega)⟩) (fun r23 u H locs hf Z => ?_)
      have Z : ig_Z D kk ad bs _ H locs a la b lb lo := Z
      refine lv_iadd F.1 F.2.1 dL_prepare_33 ?_
      refine lv_iload_n F.1 F.2.1 dL_prepare_34 rfl (lv_at hl 2 rfl) ?_
      refine lv_iload_n F.1 F.2.1 dL_prepare_35 rfl (lv_at hl 3 rfl) ?_
      refine lv_ishr F.1 F.2.1 dL_prepare_36 ?_
      refine lv_iconst (v := 5) F.1 F.2.1 dL_prepare_37 (by decide) ?_
      have hM := k_L_low l (D := D) (kk := kk) (ad := ad) (bs := bs) (a := a) (la := la) (b := b) (lb := lb) (lo := lo) (x1 >>> (x2 &&& 31)) 5 hf
      refine ig_calli E Z (ig_runS (As := [.int (x1 >>> (x2 &&& 31)), .int 5]) (rest := [.int ((1 + r22) + r23), .int (1 + r22), .ref (ad 0)]) F E Z hl G_L_76 hM rfl md_L_low rfl ⟨rfl, rfl⟩ ⟨Nat.le_of_ble_eq_true rfl, Nat.le_of_ble_eq_true rfl⟩ (Nat.le_of_ble_eq_true rfl) dL_prepare_38 ⟨(by show _ ≤ 22; omega), (by show _ ≤ 132; omega)⟩) (fun r24 u H locs hf Z => ?_)
      have Z : ig_Z D kk ad bs _ H locs a la b lb lo := Z
      have hM := k_X5_phase l (D := D) (kk := kk) (ad := ad) (bs := bs) (a := a) (la := la) (b := b) (lb := lb) (lo := lo) (1 + r22) ((1 + r22) + r23) r24 hlt hf
      refine ig_callXi E Z (ig_runVX (As := [.int (1 + r22), .int ((1 + r22) + r23), .int r24]) (rest := []) F E Z hl G_L_8 hM (i := 0) (by decide) (ig_k_0 _ _ _ _ _ _) rfl rfl md_X5_phase rfl ⟨rfl, rfl⟩ ⟨Nat.le_of_ble_eq_true rfl, Nat.le_of_ble_eq_true rfl⟩ (Nat.le_of_ble_eq_true rfl) dL_prepare_41 ⟨(by show _ ≤ 22; omega), (by show _ ≤ 132; omega)⟩) (fun u q9 ce H locs hu Z hce hcv hcl => hu.elim) (fun r25 u H locs hf Z => ?_)
      obtain ⟨a26, la27⟩ := u
      have Z : ig_Z D kk ad bs _ H locs a26 la27 b lb lo := Z
      refine lv_pop F.1 F.2.1 dL_prepare_44 rfl ?_
      refine lv_iinc (v := x2 + 1) (lv' := [(2, .int (x2 + 1)), (3, .int (1 + r22)), (0, .ref (ad 0)), (1, .int x1)]) F.1 F.2.1 dL_prepare_45 hl (k := 3) rfl (by rfl) (by decide) rfl (fun ls hl => ?_)
      refine lv_goto (tgt := 2) F.1 F.2.1 dL_prepare_48 (by decide) ?_
      exact ih a26 la27 x1 (x2 + 1) _ _ _ _ _ (by omega) (by omega) hf Z (lv_sub hl [2, 3, 0] rfl)
set_option maxHeartbeats 4000000 in
set_option maxRecDepth 100000 in
theorem k_L_prepare (l : Launch) {D : va_G} {kk : Nat → ClassId} {ad : Nat → Nat} {bs : Nat} {a : ig_M} {la : Int64} {b : ig_M} {lb lo : Int64} (x1 : Int32) (hlt : l.stackTraces = false) {post : ig_M → Int64 → Prop} (hf : wp_L_prepare a la x1 post) : Met l yL_prepare (ig_ws yL_prepare cL_prepare 4 none) ({ frames := 8, cells := 22, slots := 132, locals := 135 } : Room) (va_Pc [.ref (ad 0), .int x1] (ig_Wd D kk ad bs a la b lb lo)) (va_Qv (fun (u : ig_M × Int64) => post u.1 u.2) (fun u t => ig_Wd D kk ad bs u.1 u.2 b lb lo t) (ig_A bs)) 22 132 (ig_A bs) := by
  refine Met.ofW (cc := cL_prepare) (maxL := 4) (ret := none) (by decide) rfl ?_
  intro p e s m args below meth c s₁ B hml hv
  obtain ⟨rfl, E, hP⟩ := hv
  have hk := B.notSynchronized
  have hr := B.returns
  have F : CallFix p m c cL_prepare 4 s _ ig_all RL := ⟨B.exec, B.bytes, hml, findClass_of_methodNamed B.named, fun w hw => atoms_spec B.pre w (List.mem_cons_of_mem _ hw)⟩
  have Z : ig_Z D kk ad bs s s.heap [] a la b lb lo := ig_Z.rf hP
  have hl := lv_entry ([.ref (ad 0), .int x1]) (n := 4) (Nat.le_of_ble_eq_true rfl)
  rw [lg_entry_eq]
  generalize (lg_sl ([.ref (ad 0), .int x1]) ++ List.replicate (4 - (lg_sl ([.ref (ad 0), .int x1])).length) Slot.unset).toArray = ls at hl ⊢
  have hl : lv_has ls 4 [(0, .ref (ad 0)), (1, .int x1)] := hl
  refine lv_iconst (v := 0) F.1 F.2.1 dL_prepare_0 (by decide) ?_
  refine lv_istore_n (lv' := [(2, .int 0), (0, .ref (ad 0)), (1, .int x1)]) F.1 F.2.1 dL_prepare_1 rfl hl (by decide) rfl (fun ls hl => ?_)
  obtain ⟨n1, hn1, hf⟩ := hf
  exact wm_L_prepare_2 l hlt F E hr hk post n1 a la x1 0 _ _ _ _ _ (by omega) (by omega) hf Z (lv_sub hl [1, 2, 0] rfl)
set_option maxHeartbeats 4000000 in
set_option maxRecDepth 100000 in
theorem wm_L_act_514 (l : Launch) (hlt : l.stackTraces = false) (Fs : CallFix p m c cL_act 7 s args ig_all RL) (Es : ig_E D kk ad bs s) (hr : meth.sig.returnType = (some .int)) (hk : meth.locks = false) (post : Int32 → ig_M → Int64 → Prop) :
    ∀ (a : ig_M) (la : Int64) (t0 : Int32) (t1 : Int32) (d0 : Drawn) (_ : s.drawn.sameBut d0 lw_cs) (C S : Nat) (H : Heap) (locs : List Loc) (ls : Array Slot) (_ : C + 2 ≤ 3) (_ : S + 12 ≤ 18), wp_L_act_514 post a la t0 t1 → ig_Z D kk ad bs (s.setDrawn d0) H locs a la b lb lo → lv_has ls 7 [] → W p l e ({ frames := 9, cells := 3, slots := 18, locals := 183 } : Room) (s.setDrawn d0) m args below meth c H locs C S (MQD lw_cs below (va_Qi (fun (r : Int32) (u : ig_M × Int64) => post r u.1 u.2) (fun u t => ig_Wd D kk ad bs u.1 u.2 b lb lo t) (ig_A bs)) args s 3 18 (ig_A bs)) (F0 m 514 ls [.int t0, .int t1, .ref (ad 0)]) := by
  intro a la t0 t1 d0 hd0 C S H locs ls hC hS hf Z hl
  have F := ig_Fd Fs d0
  have E := ig_Ed Es d0
  have hM := k_L_arrive l (D := D) (kk := kk) (ad := ad) (bs := bs) (a := a) (la := la) (b := b) (lb := lb) (lo := lo) t1 t0 hlt hf
  refine ig_calli E Z (ig_runSW (As := [.ref (ad 0), .int t1, .int t0]) (rest := []) F E Z hl GL_100 hM md_L_arrive rfl ⟨rfl, rfl⟩ ⟨Nat.le_of_ble_eq_true rfl, Nat.le_of_ble_eq_true rfl⟩ (Nat.le_of_ble_eq_true rfl) dL_act_514 ⟨(by show _ ≤ 3; omega), (by show _ ≤ 18; omega)⟩) (fun r190 u H locs hf Z => ?_)
  obtain ⟨a191, la192⟩ := u
  have Z : ig_Z D kk ad bs _ H locs a191 la192 b lb lo := Z
  refine W.widen (k := 3) (n := 18) (by omega) (by omega) ?_
  refine W.endD hd0 ?_
  exact W.iret (v := r190) F.1 F.2.1 hr (fun t ht hW => ⟨⟨_, (a191, la192), rfl, hf, Z.wd E ht hW⟩, Z.fr ht⟩) Z.2.2.2 dL_act_517
set_option maxHeartbeats 4000000 in
set_option maxRecDepth 100000 in
theorem wm_L_act_412 (l : Launch) (hlt : l.stackTraces = false) (Fs : CallFix p m c cL_act 7 s args ig_all RL) (Es : ig_E D kk ad bs s) (hr : meth.sig.returnType = (some .int)) (hk : meth.locks = false) (post : Int32 → ig_M → Int64 → Prop) :
    ∀ (a : ig_M) (la : Int64) (t0 : Int32) (t1 : Int32) (t2 : Int32) (t3 : Int32) (d0 : Drawn) (_ : s.drawn.sameBut d0 lw_cs) (C S : Nat) (H : Heap) (locs : List Loc) (ls : Array Slot) (_ : C + 3 ≤ 3) (_ : S + 18 ≤ 18), wp_L_act_412 post a la t0 t1 t2 t3 → ig_Z D kk ad bs (s.setDrawn d0) H locs a la b lb lo → lv_has ls 7 [] → W p l e ({ frames := 9, cells := 3, slots := 18, locals := 183 } : Room) (s.setDrawn d0) m args below meth c H locs C S (MQD lw_cs below (va_Qi (fun (r : Int32) (u : ig_M × Int64) => post r u.1 u.2) (fun u t => ig_Wd D kk ad bs u.1 u.2 b lb lo t) (ig_A bs)) args s 3 18 (ig_A bs)) (F0 m 412 ls [.int t0, .int t1, .int t2, .int t3, .ref (ad 0)]) := by
  intro a la t0 t1 t2 t3 d0 hd0 C S H locs ls hC hS hf Z hl
  have F := ig_Fd Fs d0
  have E := ig_Ed Es d0
  have hM := k_L_meet l (D := D) (kk := kk) (ad := ad) (bs := bs) (a := a) (la := la) (b := b) (lb := lb) (lo := lo) t3 t2 t1 t0 hlt hf
  refine ig_calli E Z (ig_runSW (As := [.ref (ad 0), .int t3, .int t2, .int t1, .int t0]) (rest := []) F E Z hl GL_84 hM md_L_meet rfl ⟨rfl, rfl⟩ ⟨Nat.le_of_ble_eq_true rfl, Nat.le_of_ble_eq_true rfl⟩ (Nat.le_of_ble_eq_true rfl) dL_act_412 ⟨(by show _ ≤ 3; omega), (by show _ ≤ 18; omega)⟩) (fun r201 u H locs hf Z => ?_)
  obtain ⟨a202, la203⟩ := u
  have Z : ig_Z D kk ad bs _ H locs a202 la203 b lb lo := Z
  refine W.widen (k := 3) (n := 18) (by omega) (by omega) ?_
  refine W.endD hd0 ?_
  exact W.iret (v := r201) F.1 F.2.1 hr (fun t ht hW => ⟨⟨_, (a202, la203), rfl, hf, Z.wd E ht hW⟩, Z.fr ht⟩) Z.2.2.2 dL_act_415
set_option maxHeartbeats 4000000 in
set_option maxRecDepth 100000 in
theorem wm_L_act_392 (l : Launch) (hlt : l.stackTraces = false) (Fs : CallFix p m c cL_act 7 s args ig_all RL) (Es : ig_E D kk ad bs s) (hr : meth.sig.returnType = (some .int)) (hk : meth.locks = false) (post : Int32 → ig_M → Int64 → Prop) :
    ∀ (a : ig_M) (la : Int64) (x1 : Int32) (x2 : Int32) (x6 : Int32) (t0 : Int32) (t1 : Int32) (t2 : Int32) (d0 : Drawn) (_ : s.drawn.sameBut d0 lw_cs) (C S : Nat) (H : Heap) (locs : List Loc) (ls : Array Slot) (_ : C + 3 ≤ 3) (_ : S + 18 ≤ 18), wp_L_act_392 post a la x1 x2 x6 t0 t1 t2 → ig_Z D kk ad bs (s.setDrawn d0) H locs a la b lb lo → lv_has ls 7 [(1, .int x1), (2, .int x2), (6, .int x6)] → W p l e ({ frames := 9, cells := 3, slots := 18, locals := 183 } : Room) (s.setDrawn d0) m args below meth c H locs C S (MQD lw_cs below (va_Qi (fun (r : Int32) (u : ig_M × Int64) => post r u.1 u.2) (fun u t => ig_Wd D kk ad bs u.1 u.2 b lb lo t) (ig_A bs)) args s 3 18 (ig_A bs)) (F0 m 392 ls [.int t0, .int t1, .int t2, .ref (ad 0)]) := by
  intro a la x1 x2 x6 t0 t1 t2 d0 hd0 C S H locs ls hC hS hf Z hl
  have F := ig_Fd Fs d0
  have E := ig_Ed Es d0
  refine lv_iload_n F.1 F.2.1 dL_act_392 rfl (lv_at hl 1 rfl) ?_
  refine lv_if_eq (tgt := 401) F.1 F.2.1 dL_act_393 (by decide) (fun c_199 => ?_) (fun c_199 => ?_)
  · have hf := hf.1 c_199
    refine lv_iconst (v := 1) F.1 F.2.1 dL_act_401 (by decide) ?_
    refine lv_iload_n F.1 F.2.1 dL_act_402 rfl (lv_at hl 0 rfl) ?_
    refine lv_bipush (v := 13) F.1 F.2.1 dL_act_403 (by decide) ?_
    refine lv_ishr F.1 F.2.1 dL_act_405 ?_
    refine lv_bipush (v := 9) F.1 F.2.1 dL_act_406 (by decide) ?_
    have hM := k_L_low l (D := D) (kk := kk) (ad := ad) (bs := bs) (a := a) (la := la) (b := b) (lb := lb) (lo := lo) (x1 >>> (13 &&& 31)) 9 hf
    refine ig_calli E Z (ig_runS (As := [.int (x1 >>> (13 &&& 31)), .int 9]) (rest := [.int 1, .int t0, .int t1, .int t2, .ref (ad 0)]) F E Z hl G_L_76 hM rfl md_L_low rfl ⟨rfl, rfl⟩ ⟨Nat.le_of_ble_eq_true rfl, Nat.le_of_ble_eq_true rfl⟩ (Nat.le_of_ble_eq_true rfl) dL_act_408 ⟨(by show _ ≤ 3; omega), (by show _ ≤ 18; omega)⟩) (fun r200 u H locs hf Z => ?_)
    have Z : ig_Z D kk ad bs _ H locs a la b lb lo := Z
    refine lv_iadd F.1 F.2.1 dL_act_411 ?_
    exact wm_L_act_412 l hlt Fs Es hr hk post a la (1 + r200) t0 t1 t2 _ hd0 _ _ _ _ _ (by omega) (by omega) hf Z (lv_sub hl [] rfl)
  · have hf := hf.2 c_199
    refine lv_iload F.1 F.2.1 dL_act_396 (lv_at hl 2 rfl) ?_
    refine lv_goto (tgt := 412) F.1 F.2.1 dL_act_398 (by decide) ?_
    exact wm_L_act_412 l hlt Fs Es hr hk post a la x6 t0 t1 t2 _ hd0 _ _ _ _ _ (by omega) (by omega) hf Z (lv_sub hl [] rfl)
set_option maxHeartbeats 4000000 in
set_option maxRecDepth 100000 in
theorem wm_L_act_459 (l : Launch) (hlt : l.stackTraces = false) (Fs : CallFix p m c cL_act 7 s args ig_all RL) (Es : ig_E D kk ad bs s) (hr : meth.sig.returnType = (some .int)) (hk : meth.locks = false) (post : Int32 → ig_M → Int64 → Prop) :
    ∀ (a : ig_M) (la : Int64) (t0 : Int32) (d0 : Drawn) (_ : s.drawn.sameBut d0 lw_cs) (C S : Nat) (H : Heap) (locs : List Loc) (ls : Array Slot) (_ : C + 2 ≤ 3) (_ : S + 12 ≤ 18), wp_L_act_459 post a la t0 → ig_Z D kk ad bs (s.setDrawn d0) H locs a la b lb lo → lv_has ls 7 [] → W p l e ({ frames := 9, cells := 3, slots := 18, locals := 183 } : Room) (s.setDrawn d0) m args below meth c H locs C S (MQD lw_cs below (va_Qi (fun (r : Int32) (u : ig_M × Int64) => post r u.1 u.2) (fun u t => ig_Wd D kk ad bs u.1 u.2 b lb lo t) (ig_A bs)) args s 3 18 (ig_A bs)) (F0 m 459 ls [.int t0, .ref (ad 0)]) := by
  intro a la t0 d0 hd0 C S H locs ls hC hS hf Z hl
  have F := ig_Fd Fs d0
  have E := ig_Ed Es d0
  have hM := k_L_start l (D := D) (kk := kk) (ad := ad) (bs := bs) (a := a) (la := la) (b := b) (lb := lb) (lo := lo) t0 hlt hf
  refine ig_calli E Z (ig_runSW (As := [.ref (ad 0), .int t0]) (rest := []) F E Z hl GL_90 hM md_L_start rfl ⟨rfl, rfl⟩ ⟨Nat.le_of_ble_eq_true rfl, Nat.le_of_ble_eq_true rfl⟩ (Nat.le_of_ble_eq_true rfl) dL_act_459 ⟨(by show _ ≤ 3; omega), (by show _ ≤ 18; omega)⟩) (fun r193 u H locs hf Z => ?_)
  obtain ⟨a194, la195⟩ := u
  have Z : ig_Z D kk ad bs _ H locs a194 la195 b lb lo := Z
  refine W.widen (k := 3) (n := 18) (by omega) (by omega) ?_
  refine W.endD hd0 ?_
  exact W.iret (v := r193) F.1 F.2.1 hr (fun t ht hW => ⟨⟨_, (a194, la195), rfl, hf, Z.wd E ht hW⟩, Z.fr ht⟩) Z.2.2.2 dL_act_462
set_option maxHeartbeats 4000000 in
set_option maxRecDepth 100000 in
theorem wm_L_act_364 (l : Launch) (hlt : l.stackTraces = false) (Fs : CallFix p m c cL_act 7 s args ig_all RL) (Es : ig_E D kk ad bs s) (hr : meth.sig.returnType = (some .int)) (hk : meth.locks = false) (post : Int32 → ig_M → Int64 → Prop) :
    ∀ (a : ig_M) (la : Int64) (t0 : Int32) (t1 : Int32) (t2 : Int32) (d0 : Drawn) (_ : s.drawn.sameBut d0 lw_cs) (C S : Nat) (H : Heap) (locs : List Loc) (ls : Array Slot) (_ : C + 1 ≤ 3) (_ : S + 6 ≤ 18), wp_L_act_364 post a la t0 t1 t2 → ig_Z D kk ad bs (s.setDrawn d0) H locs a la b lb lo → lv_has ls 7 [] → W p l e ({ frames := 9, cells := 3, slots := 18, locals := 183 } : Room) (s.setDrawn d0) m args below meth c H locs C S (MQD lw_cs below (va_Qi (fun (r : Int32) (u : ig_M × Int64) => post r u.1 u.2) (fun u t => ig_Wd D kk ad bs u.1 u.2 b lb lo t) (ig_A bs)) args s 3 18 (ig_A bs)) (F0 m 364 ls [.int t0, .int t1, .int t2, .ref (ad 0)]) := by
  intro a la t0 t1 t2 d0 hd0 C S H locs ls hC hS hf Z hl
  have F := ig_Fd Fs d0
  have E := ig_Ed Es d0
  have hM := k_L_phase l (D := D) (kk := kk) (ad := ad) (bs := bs) (a := a) (la := la) (b := b) (lb := lb) (lo := lo) t2 t1 t0 hlt hf
  refine ig_calli E Z (ig_runSW (As := [.ref (ad 0), .int t2, .int t1, .int t0]) (rest := []) F E Z hl GL_81 hM md_L_phase rfl ⟨rfl, rfl⟩ ⟨Nat.le_of_ble_eq_true rfl, Nat.le_of_ble_eq_true rfl⟩ (Nat.le_of_ble_eq_true rfl) dL_act_364 ⟨(by show _ ≤ 3; omega), (by show _ ≤ 18; omega)⟩) (fun r207 u H locs hf Z => ?_)
  obtain ⟨a208, la209⟩ := u
  have Z : ig_Z D kk ad bs _ H locs a208 la209 b lb lo := Z
  refine W.widen (k := 3) (n := 18) (by omega) (by omega) ?_
  refine W.endD hd0 ?_
  exact W.iret (v := r207) F.1 F.2.1 hr (fun t ht hW => ⟨⟨_, (a208, la209), rfl, hf, Z.wd E ht hW⟩, Z.fr ht⟩) Z.2.2.2 dL_act_367
set_option maxHeartbeats 4000000 in
set_option maxRecDepth 100000 in
theorem wm_L_act_353 (l : Launch) (hlt : l.stackTraces = false) (Fs : CallFix p m c cL_act 7 s args ig_all RL) (Es : ig_E D kk ad bs s) (hr : meth.sig.returnType = (some .int)) (hk : meth.locks = false) (post : Int32 → ig_M → Int64 → Prop) :
    ∀ (a : ig_M) (la : Int64) (x2 : Int32) (x5 : Int32) (x6 : Int32) (t0 : Int32) (t1 : Int32) (d0 : Drawn) (_ : s.drawn.sameBut d0 lw_cs) (C S : Nat) (H : Heap) (locs : List Loc) (ls : Array Slot) (_ : C + 1 ≤ 3) (_ : S + 6 ≤ 18), wp_L_act_353 post a la x2 x5 x6 t0 t1 → ig_Z D kk ad bs (s.setDrawn d0) H locs a la b lb lo → lv_has ls 7 [(2, .int x2), (5, .int x5), (6, .int x6)] → W p l e ({ frames := 9, cells := 3, slots := 18, locals := 183 } : Room) (s.setDrawn d0) m args below meth c H locs C S (MQD lw_cs below (va_Qi (fun (r : Int32) (u : ig_M × Int64) => post r u.1 u.2) (fun u t => ig_Wd D kk ad bs u.1 u.2 b lb lo t) (ig_A bs)) args s 3 18 (ig_A bs)) (F0 m 353 ls [.int t0, .int t1, .ref (ad 0)]) := by
  intro a la x2 x5 x6 t0 t1 d0 hd0 C S H locs ls hC hS hf Z hl
  have F := ig_Fd Fs d0
  have E := ig_Ed Es d0
  refine lv_iload_n F.1 F.2.1 dL_act_353 rfl (lv_at hl 0 rfl) ?_
  refine lv_if_eq (tgt := 362) F.1 F.2.1 dL_act_354 (by decide) (fun c_206 => ?_) (fun c_206 => ?_)
  · have hf := hf.1 c_206
    refine lv_iload F.1 F.2.1 dL_act_362 (lv_at hl 2 rfl) ?_
    exact wm_L_act_364 l hlt Fs Es hr hk post a la x6 t0 t1 _ hd0 _ _ _ _ _ (by omega) (by omega) hf Z (lv_sub hl [] rfl)
  · have hf := hf.2 c_206
    refine lv_iload F.1 F.2.1 dL_act_357 (lv_at hl 1 rfl) ?_
    refine lv_goto (tgt := 364) F.1 F.2.1 dL_act_359 (by decide) ?_
    exact wm_L_act_364 l hlt Fs Es hr hk post a la x5 t0 t1 _ hd0 _ _ _ _ _ (by omega) (by omega) hf Z (lv_sub hl [] rfl)
set_option maxHeartbeats 4000000 in
set_option maxRecDepth 100000 in
theorem wm_L_act_332 (l : Launch) (hlt : l.stackTraces = false) (Fs : CallFix p m c cL_act 7 s args ig_all RL) (Es : ig_E D kk ad bs s) (hr : meth.sig.returnType = (some .int)) (hk : meth.locks = false) (post : Int32 → ig_M → Int64 → Prop) :
    ∀ (a : ig_M) (la : Int64) (x1 : Int32) (x2 : Int32) (x5 : Int32) (x6 : Int32) (t0 : Int32) (d0 : Drawn) (_ : s.drawn.sameBut d0 lw_cs) (C S : Nat) (H : Heap) (locs : List Loc) (ls : Array Slot) (_ : C + 1 ≤ 3) (_ : S + 6 ≤ 18), wp_L_act_332 post a la x1 x2 x5 x6 t0 → ig_Z D kk ad bs (s.setDrawn d0) H locs a la b lb lo → lv_has ls 7 [(1, .int x1), (2, .int x2), (5, .int x5), (6, .int x6)] → W p l e ({ frames := 9, cells := 3, slots := 18, locals := 183 } : Room) (s.setDrawn d0) m args below meth c H locs C S (MQD lw_cs below (va_Qi (fun (r : Int32) (u : ig_M × Int64) => post r u.1 u.2) (fun u t => ig_Wd D kk ad bs u.1 u.2 b lb lo t) (ig_A bs)) args s 3 18 (ig_A bs)) (F0 m 332 ls [.int t0, .ref (ad 0)]) := by
  intro a la x1 x2 x5 x6 t0 d0 hd0 C S H locs ls hC hS hf Z hl
  have F := ig_Fd Fs d0
  have E := ig_Ed Es d0
  refine lv_iload_n F.1 F.2.1 dL_act_332 rfl (lv_at hl 1 rfl) ?_
  refine lv_if_eq (tgt := 342) F.1 F.2.1 dL_act_333 (by decide) (fun c_204 => ?_) (fun c_204 => ?_)
  · have hf := hf.1 c_204
    refine lv_iconst (v := 5) F.1 F.2.1 dL_act_342 (by decide) ?_
    refine lv_iload_n F.1 F.2.1 dL_act_343 rfl (lv_at hl 0 rfl) ?_
    refine lv_bipush (v := 11) F.1 F.2.1 dL_act_344 (by decide) ?_
    refine lv_ishr F.1 F.2.1 dL_act_346 ?_
    refine lv_bipush (v := 30) F.1 F.2.1 dL_act_347 (by decide) ?_
    have hM := k_L_low l (D := D) (kk := kk) (ad := ad) (bs := bs) (a := a) (la := la) (b := b) (lb := lb) (lo := lo) (x1 >>> (11 &&& 31)) 30 hf
    refine ig_calli E Z (ig_runS (As := [.int (x1 >>> (11 &&& 31)), .int 30]) (rest := [.int 5, .int t0, .ref (ad 0)]) F E Z hl G_L_76 hM rfl md_L_low rfl ⟨rfl, rfl⟩ ⟨Nat.le_of_ble_eq_true rfl, Nat.le_of_ble_eq_true rfl⟩ (Nat.le_of_ble_eq_true rfl) dL_act_349 ⟨(by show _ ≤ 3; omega), (by show _ ≤ 18; omega)⟩) (fun r205 u H locs hf Z => ?_)
    have Z : ig_Z D kk ad bs _ H locs a la b lb lo := Z
    refine lv_iadd F.1 F.2.1 dL_act_352 ?_
    exact wm_L_act_353 l hlt Fs Es hr hk post a la x2 x5 x6 (5 + r205) t0 _ hd0 _ _ _ _ _ (by omega) (by omega) hf Z (lv_sub hl [1, 2, 3] rfl)
  · have hf := hf.2 c_204
    refine lv_iload_n F.1 F.2.1 dL_act_336 rfl (lv_at hl 0 rfl) ?_
    refine lv_iconst (v := 3) F.1 F.2.1 dL_act_337 (by decide) ?_
    refine lv_ishr F.1 F.2.1 dL_act_338 ?_
    refine lv_goto (tgt := 353) F.1 F.2.1 dL_act_339 (by decide) ?_
    exact wm_L_act_353 l hlt Fs Es hr hk post a la x2 x5 x6 (x1 >>> (3 &&& 31)) t0 _ hd0 _ _ _ _ _ (by omega) (by omega) hf Z (lv_sub hl [1, 2, 3] rfl)
set_option maxHeartbeats 4000000 in
set_option maxRecDepth 100000 in
theorem wm_L_act_657 (l : Launch) (hlt : l.stackTraces = false) (Fs : CallFix p m c cL_act 7 s args ig_all RL) (Es : ig_E D kk ad bs s) (hr : meth.sig.returnType = (some .int)) (hk : meth.locks = false) (post : Int32 → ig_M → Int64 → Prop) :
    ∀ (a : ig_M) (la : Int64) (t0 : Int32) (t1 : Int32) (d0 : Drawn) (_ : s.drawn.sameBut d0 lw_cs) (C S : Nat) (H : Heap) (locs : List Loc) (ls : Array Slot) (_ : C + 2 ≤ 3) (_ : S + 12 ≤ 18), wp_L_act_657 post a la t0 t1 → ig_Z D kk ad bs (s.setDrawn d0) H locs a la b lb lo → lv_has ls 7 [] → W p l e ({ frames := 9, cells := 3, slots := 18, locals := 183 } : Room) (s.setDrawn d0) m args below meth c H locs C S (MQD lw_cs below (va_Qi (fun (r : Int32) (u : ig_M × Int64) => post r u.1 u.2) (fun u t => ig_Wd D kk ad bs u.1 u.2 b lb lo t) (ig_A bs)) args s 3 18 (ig_A bs)) (F0 m 657 ls [.int t0, .int t1, .ref (ad 0)]) := by
  intro a la t0 t1 d0 hd0 C S H locs ls hC hS hf Z hl
  have F := ig_Fd Fs d0
  have E := ig_Ed Es d0
  have hM := k_L_ofPhase l (D := D) (kk := kk) (ad := ad) (bs := bs) (a := a) (la := la) (b := b) (lb := lb) (lo := lo) t1 t0 hlt hf
  refine ig_calli E Z (ig_runSW (As := [.ref (ad 0), .int t1, .int t0]) (rest := []) F E Z hl GL_114 hM md_L_ofPhase rfl ⟨rfl, rfl⟩ ⟨Nat.le_of_ble_eq_true rfl, Nat.le_of_ble_eq_true rfl⟩ (Nat.le_of_ble_eq_true rfl) dL_act_657 ⟨(by show _ ≤ 3; omega), (by show _ ≤ 18; omega)⟩) (fun r176 u H locs hf Z => ?_)
  obtain ⟨a177, la178⟩ := u
  have Z : ig_Z D kk ad bs _ H locs a177 la178 b lb lo := Z
  refine W.widen (k := 3) (n := 18) (by omega) (by omega) ?_
  refine W.endD hd0 ?_
  exact W.iret (v := r176) F.1 F.2.1 hr (fun t ht hW => ⟨⟨_, (a177, la178), rfl, hf, Z.wd E ht hW⟩, Z.fr ht⟩) Z.2.2.2 dL_act_660
set_option maxHeartbeats 4000000 in
set_option maxRecDepth 100000 in
theorem wm_L_act_724 (l : Launch) (hlt : l.stackTraces = false) (Fs : CallFix p m c cL_act 7 s args ig_all RL) (Es : ig_E D kk ad bs s) (hr : meth.sig.returnType = (some .int)) (hk : meth.locks = false) (post : Int32 → ig_M → Int64 → Prop) :
    ∀ (a : ig_M) (la : Int64) (x1 : Int32) (t0 : Int32) (d0 : Drawn) (_ : s.drawn.sameBut d0 lw_cs) (C S : Nat) (H : Heap) (locs : List Loc) (ls : Array Slot) (_ : C + 2 ≤ 3) (_ : S + 12 ≤ 18), wp_L_act_724 post a la x1 t0 → ig_Z D kk ad bs (s.setDrawn d0) H locs a la b lb lo → lv_has ls 7 [(1, .int x1)] → W p l e ({ frames := 9, cells := 3, slots := 18, locals := 183 } : Room) (s.setDrawn d0) m args below meth c H locs C S (MQD lw_cs below (va_Qi (fun (r : Int32) (u : ig_M × Int64) => post r u.1 u.2) (fun u t => ig_Wd D kk ad bs u.1 u.2 b lb lo t) (ig_A bs)) args s 3 18 (ig_A bs)) (F0 m 724 ls [.int t0, .ref (ad 0)]) := by
  intro a la x1 t0 d0 hd0 C S H locs ls hC hS hf Z hl
  have F := ig_Fd Fs d0
  have E := ig_Ed Es d0
  refine lv_iload_n F.1 F.2.1 dL_act_724 rfl (lv_at hl 0 rfl) ?_
  refine lv_bipush (v := 13) F.1 F.2.1 dL_act_725 (by decide) ?_
  refine lv_ishr F.1 F.2.1 dL_act_727 ?_
  refine lv_iconst (v := 3) F.1 F.2.1 dL_act_728 (by decide) ?_
  have hM := k_L_low l (D := D) (kk := kk) (ad := ad) (bs := bs) (a := a) (la := la) (b := b) (lb := lb) (lo := lo) (x1 >>> (13 &&& 31)) 3 hf
  refine ig_calli E Z (ig_runS (As := [.int (x1 >>> (13 &&& 31)), .int 3]) (rest := [.int t0, .ref (ad 0)]) F E Z hl G_L_76 hM rfl md_L_low rfl ⟨rfl, rfl⟩ ⟨Nat.le_of_ble_eq_true rfl, Nat.le_of_ble_eq_true rfl⟩ (Nat.le_of_ble_eq_true rfl) dL_act_729 ⟨(by show _ ≤ 3; omega), (by show _ ≤ 18; omega)⟩) (fun r169 u H locs hf Z => ?_)
  have Z : ig_Z D kk ad bs _ H locs a la b lb lo := Z
  have hM := k_L_change l (D := D) (kk := kk) (ad := ad) (bs := bs) (a := a) (la := la) (b := b) (lb := lb) (lo := lo) t0 r169 hlt hf
  refine ig_calli E Z (ig_runSW (As := [.ref (ad 0), .int t0, .int r169]) (rest := []) F E Z hl GL_129 hM md_L_change rfl ⟨rfl, rfl⟩ ⟨Nat.le_of_ble_eq_true rfl, Nat.le_of_ble_eq_true rfl⟩ (Nat.le_of_ble_eq_true rfl) dL_act_732 ⟨(by show _ ≤ 3; omega), (by show _ ≤ 18; omega)⟩) (fun r170 u H locs hf Z => ?_)
  obtain ⟨a171, la172⟩ := u
  have Z : ig_Z D kk ad bs _ H locs a171 la172 b lb lo := Z
  refine W.widen (k := 3) (n := 18) (by omega) (by omega) ?_
  refine W.endD hd0 ?_
  exact W.iret (v := r170) F.1 F.2.1 hr (fun t ht hW => ⟨⟨_, (a171, la172), rfl, hf, Z.wd E ht hW⟩, Z.fr ht⟩) Z.2.2.2 dL_act_735
set_option maxHeartbeats 4000000 in
set_option maxRecDepth 100000 in
theorem wm_L_act_604 (l : Launch) (hlt : l.stackTraces = false) (Fs : CallFix p m c cL_act 7 s args ig_all RL) (Es : ig_E D kk ad bs s) (hr : meth.sig.returnType = (some .int)) (hk : meth.locks = false) (post : Int32 → ig_M → Int64 → Prop) :
    ∀ (a : ig_M) (la : Int64) (t0 : Int32) (d0 : Drawn) (_ : s.drawn.sameBut d0 lw_cs) (C S : Nat) (H : Heap) (locs : List Loc) (ls : Array Slot) (_ : C + 1 ≤ 3) (_ : S + 6 ≤ 18), wp_L_act_604 post a la t0 → ig_Z D kk ad bs (s.setDrawn d0) H locs a la b lb lo → lv_has ls 7 [] → W p l e ({ frames := 9, cells := 3, slots := 18, locals := 183 } : Room) (s.setDrawn d0) m args below meth c H locs C S (MQD lw_cs below (va_Qi (fun (r : Int32) (u : ig_M × Int64) => post r u.1 u.2) (fun u t => ig_Wd D kk ad bs u.1 u.2 b lb lo t) (ig_A bs)) args s 3 18 (ig_A bs)) (F0 m 604 ls [.int t0, .ref (ad 0)]) := by
  intro a la t0 d0 hd0 C S H locs ls hC hS hf Z hl
  have F := ig_Fd Fs d0
  have E := ig_Ed Es d0
  have hM := k_L_go l (D := D) (kk := kk) (ad := ad) (bs := bs) (a := a) (la := la) (b := b) (lb := lb) (lo := lo) t0 hlt hf
  refine ig_calli E Z (ig_runSW (As := [.ref (ad 0), .int t0]) (rest := []) F E Z hl GL_110 hM md_L_go rfl ⟨rfl, rfl⟩ ⟨Nat.le_of_ble_eq_true rfl, Nat.le_of_ble_eq_true rfl⟩ (Nat.le_of_ble_eq_true rfl) dL_act_604 ⟨(by show _ ≤ 3; omega), (by show _ ≤ 18; omega)⟩) (fun r182 u H locs hf Z => ?_)
  obtain ⟨a183, la184⟩ := u
  have Z : ig_Z D kk ad bs _ H locs a183 la184 b lb lo := Z
  refine W.widen (k := 3) (n := 18) (by omega) (by omega) ?_
  refine W.endD hd0 ?_
  exact W.iret (v := r182) F.1 F.2.1 hr (fun t ht hW => ⟨⟨_, (a183, la184), rfl, hf, Z.wd E ht hW⟩, Z.fr ht⟩) Z.2.2.2 dL_act_607
set_option maxHeartbeats 4000000 in
set_option maxRecDepth 100000 in
theorem wm_L_act_564 (l : Launch) (hlt : l.stackTraces = false) (Fs : CallFix p m c cL_act 7 s args ig_all RL) (Es : ig_E D kk ad bs s) (hr : meth.sig.returnType = (some .int)) (hk : meth.locks = false) (post : Int32 → ig_M → Int64 → Prop) :
    ∀ (a : ig_M) (la : Int64) (t0 : Int32) (t1 : Int32) (t2 : Int32) (d0 : Drawn) (_ : s.drawn.sameBut d0 lw_cs) (C S : Nat) (H : Heap) (locs : List Loc) (ls : Array Slot) (_ : C + 2 ≤ 3) (_ : S + 12 ≤ 18), wp_L_act_564 post a la t0 t1 t2 → ig_Z D kk ad bs (s.setDrawn d0) H locs a la b lb lo → lv_has ls 7 [] → W p l e ({ frames := 9, cells := 3, slots := 18, locals := 183 } : Room) (s.setDrawn d0) m args below meth c H locs C S (MQD lw_cs below (va_Qi (fun (r : Int32) (u : ig_M × Int64) => post r u.1 u.2) (fun u t => ig_Wd D kk ad bs u.1 u.2 b lb lo t) (ig_A bs)) args s 3 18 (ig_A bs)) (F0 m 564 ls [.int t0, .int t1, .int t2, .ref (ad 0)]) := by
  intro a la t0 t1 t2 d0 hd0 C S H locs ls hC hS hf Z hl
  have F := ig_Fd Fs d0
  have E := ig_Ed Es d0
  have hM := k_L_breaks l (D := D) (kk := kk) (ad := ad) (bs := bs) (a := a) (la := la) (b := b) (lb := lb) (lo := lo) t2 t1 t0 hlt hf
  refine ig_calli E Z (ig_runSW (As := [.ref (ad 0), .int t2, .int t1, .int t0]) (rest := []) F E Z hl GL_107 hM md_L_breaks rfl ⟨rfl, rfl⟩ ⟨Nat.le_of_ble_eq_true rfl, Nat.le_of_ble_eq_true rfl⟩ (Nat.le_of_ble_eq_true rfl) dL_act_564 ⟨(by show _ ≤ 3; omega), (by show _ ≤ 18; omega)⟩) (fun r187 u H locs hf Z => ?_)
  obtain ⟨a188, la189⟩ := u
  have Z : ig_Z D kk ad bs _ H locs a188 la189 b lb lo := Z
  refine W.widen (k := 3) (n := 18) (by omega) (by omega) ?_
  refine W.endD hd0 ?_
  exact W.iret (v := r187) F.1 F.2.1 hr (fun t ht hW => ⟨⟨_, (a188, la189), rfl, hf, Z.wd E ht hW⟩, Z.fr ht⟩) Z.2.2.2 dL_act_567
set_option maxHeartbeats 4000000 in
set_option maxRecDepth 100000 in
theorem wm_L_act_548 (l : Launch) (hlt : l.stackTraces = false) (Fs : CallFix p m c cL_act 7 s args ig_all RL) (Es : ig_E D kk ad bs s) (hr : meth.sig.returnType = (some .int)) (hk : meth.locks = false) (post : Int32 → ig_M → Int64 → Prop) :
    ∀ (a : ig_M) (la : Int64) (x1 : Int32) (t0 : Int32) (t1 : Int32) (d0 : Drawn) (_ : s.drawn.sameBut d0 lw_cs) (C S : Nat) (H : Heap) (locs : List Loc) (ls : Array Slot) (_ : C + 2 ≤ 3) (_ : S + 12 ≤ 18), wp_L_act_548 post a la x1 t0 t1 → ig_Z D kk ad bs (s.setDrawn d0) H locs a la b lb lo → lv_has ls 7 [(1, .int x1)] → W p l e ({ frames := 9, cells := 3, slots := 18, locals := 183 } : Room) (s.setDrawn d0) m args below meth c H locs C S (MQD lw_cs below (va_Qi (fun (r : Int32) (u : ig_M × Int64) => post r u.1 u.2) (fun u t => ig_Wd D kk ad bs u.1 u.2 b lb lo t) (ig_A bs)) args s 3 18 (ig_A bs)) (F0 m 548 ls [.int t0, .int t1, .ref (ad 0)]) := by
  intro a la x1 t0 t1 d0 hd0 C S H locs ls hC hS hf Z hl
  have F := ig_Fd Fs d0
  have E := ig_Ed Es d0
  refine lv_iload_n F.1 F.2.1 dL_act_548 rfl (lv_at hl 0 rfl) ?_
  refine lv_bipush (v := 11) F.1 F.2.1 dL_act_549 (by decide) ?_
  refine lv_ishr F.1 F.2.1 dL_act_551 ?_
  refine lv_iconst (v := 2) F.1 F.2.1 dL_act_552 (by decide) ?_
  have hM := k_L_low l (D := D) (kk := kk) (ad := ad) (bs := bs) (a := a) (la := la) (b := b) (lb := lb) (lo := lo) (x1 >>> (11 &&& 31)) 2 hf
  refine ig_calli E Z (ig_runS (As := [.int (x1 >>> (11 &&& 31)), .int 2]) (rest := [.int t0, .int t1, .ref (ad 0)]) F E Z hl G_L_76 hM rfl md_L_low rfl ⟨rfl, rfl⟩ ⟨Nat.le_of_ble_eq_true rfl, Nat.le_of_ble_eq_true rfl⟩ (Nat.le_of_ble_eq_true rfl) dL_act_553 ⟨(by show _ ≤ 3; omega), (by show _ ≤ 18; omega)⟩) (fun r185 u H locs hf Z => ?_)
  have Z : ig_Z D kk ad bs _ H locs a la b lb lo := Z
  refine lv_if_ne (tgt := 563) F.1 F.2.1 dL_act_556 (by decide) (fun c_186 => ?_) (fun c_186 => ?_)
  · have hf := hf.1 c_186
    refine lv_iconst (v := 0) F.1 F.2.1 dL_act_563 (by decide) ?_
    exact wm_L_act_564 l hlt Fs Es hr hk post a la 0 t0 t1 _ hd0 _ _ _ _ _ (by omega) (by omega) hf Z (lv_sub hl [] rfl)
  · have hf := hf.2 c_186
    refine lv_iconst (v := 1) F.1 F.2.1 dL_act_559 (by decide) ?_
    refine lv_goto (tgt := 564) F.1 F.2.1 dL_act_560 (by decide) ?_
    exact wm_L_act_564 l hlt Fs Es hr hk post a la 1 t0 t1 _ hd0 _ _ _ _ _ (by omega) (by omega) hf Z (lv_sub hl [] rfl)
set_option maxHeartbeats 4000000 in
set_option maxRecDepth 100000 in
theorem wm_L_act_679 (l : Launch) (hlt : l.stackTraces = false) (Fs : CallFix p m c cL_act 7 s args ig_all RL) (Es : ig_E D kk ad bs s) (hr : meth.sig.returnType = (some .int)) (hk : meth.locks = false) (post : Int32 → ig_M → Int64 → Prop) :
    ∀ (a : ig_M) (la : Int64) (t0 : Int32) (d0 : Drawn) (_ : s.drawn.sameBut d0 lw_cs) (C S : Nat) (H : Heap) (locs : List Loc) (ls : Array Slot) (_ : C + 1 ≤ 3) (_ : S + 6 ≤ 18), wp_L_act_679 post a la t0 → ig_Z D kk ad bs (s.setDrawn d0) H locs a la b lb lo → lv_has ls 7 [] → W p l e ({ frames := 9, cells := 3, slots := 18, locals := 183 } : Room) (s.setDrawn d0) m args below meth c H locs C S (MQD lw_cs below (va_Qi (fun (r : Int32) (u : ig_M × Int64) => post r u.1 u.2) (fun u t => ig_Wd D kk ad bs u.1 u.2 b lb lo t) (ig_A bs)) args s 3 18 (ig_A bs)) (F0 m 679 ls [.int t0, .ref (ad 0)]) := by
  intro a la t0 d0 hd0 C S H locs ls hC hS hf Z hl
  have F := ig_Fd Fs d0
  have E := ig_Ed Es d0
  have hM := k_L_of l (D := D) (kk := kk) (ad := ad) (bs := bs) (a := a) (la := la) (b := b) (lb := lb) (lo := lo) t0 hlt hf
  refine ig_calli E Z (ig_runSW (As := [.ref (ad 0), .int t0]) (rest := []) F E Z hl GL_116 hM md_L_of rfl ⟨rfl, rfl⟩ ⟨Nat.le_of_ble_eq_true rfl, Nat.le_of_ble_eq_true rfl⟩ (Nat.le_of_ble_eq_true rfl) dL_act_679 ⟨(by show _ ≤ 3; omega), (by show _ ≤ 18; omega)⟩) (fun r173 u H locs hf Z => ?_)
  obtain ⟨a174, la175⟩ := u
  have Z : ig_Z D kk ad bs _ H locs a174 la175 b lb lo := Z
  refine W.widen (k := 3) (n := 18) (by omega) (by omega) ?_
  refine W.endD hd0 ?_
  exact W.iret (v := r173) F.1 F.2.1 hr (fun t ht hW => ⟨⟨_, (a174, la175), rfl, hf, Z.wd E ht hW⟩, Z.fr ht⟩) Z.2.2.2 dL_act_682
set_option maxHeartbeats 4000000 in
set_option maxRecDepth 100000 in
theorem wm_L_act_437 (l : Launch) (hlt : l.stackTraces = false) (Fs : CallFix p m c cL_act 7 s args ig_all RL) (Es : ig_E D kk ad bs s) (hr : meth.sig.returnType = (some .int)) (hk : meth.locks = false) (post : Int32 → ig_M → Int64 → Prop) :
    ∀ (a : ig_M) (la : Int64) (t0 : Int32) (d0 : Drawn) (_ : s.drawn.sameBut d0 lw_cs) (C S : Nat) (H : Heap) (locs : List Loc) (ls : Array Slot) (_ : C + 1 ≤ 3) (_ : S + 6 ≤ 18), wp_L_act_437 post a la t0 → ig_Z D kk ad bs (s.setDrawn d0) H locs a la b lb lo → lv_has ls 7 [] → W p l e ({ frames := 9, cells := 3, slots := 18, locals := 183 } : Room) (s.setDrawn d0) m args below meth c H locs C S (MQD lw_cs below (va_Qi (fun (r : Int32) (u : ig_M × Int64) => post r u.1 u.2) (fun u t => ig_Wd D kk ad bs u.1 u.2 b lb lo t) (ig_A bs)) args s 3 18 (ig_A bs)) (F0 m 437 ls [.int t0, .ref (ad 0)]) := by
  intro a la t0 d0 hd0 C S H locs ls hC hS hf Z hl
  have F := ig_Fd Fs d0
  have E := ig_Ed Es d0
  have hM := k_L_stage l (D := D) (kk := kk) (ad := ad) (bs := bs) (a := a) (la := la) (b := b) (lb := lb) (lo := lo) t0 hlt hf
  refine ig_calli E Z (ig_runSW (As := [.ref (ad 0), .int t0]) (rest := []) F E Z hl GL_87 hM md_L_stage rfl ⟨rfl, rfl⟩ ⟨Nat.le_of_ble_eq_true rfl, Nat.le_of_ble_eq_true rfl⟩ (Nat.le_of_ble_eq_true rfl) dL_act_437 ⟨(by show _ ≤ 3; omega), (by show _ ≤ 18; omega)⟩) (fun r196 u H locs hf Z => ?_)
  obtain ⟨a197, la198⟩ := u
  have Z : ig_Z D kk ad bs _ H locs a197 la198 b lb lo := Z
  refine W.widen (k := 3) (n := 18) (by omega) (by omega) ?_
  refine W.endD hd0 ?_
  exact W.iret (v := r196) F.1 F.2.1 hr (fun t ht hW => ⟨⟨_, (a197, la198), rfl, hf, Z.wd E ht hW⟩, Z.fr ht⟩) Z.2.2.2 dL_act_440
set_option maxHeartbeats 4000000 in
set_option maxRecDepth 100000 in
theorem wm_L_act_759 (l : Launch) (hlt : l.stackTraces = false) (Fs : CallFix p m c cL_act 7 s args ig_all RL) (Es : ig_E D kk ad bs s) (hr : meth.sig.returnType = (some .int)) (hk : meth.locks = false) (post : Int32 → ig_M → Int64 → Prop) :
    ∀ (a : ig_M) (la : Int64) (t0 : Int32) (d0 : Drawn) (_ : s.drawn.sameBut d0 lw_cs) (C S : Nat) (H : Heap) (locs : List Loc) (ls : Array Slot) (_ : C + 1 ≤ 3) (_ : S + 6 ≤ 18), wp_L_act_759 post a la t0 → ig_Z D kk ad bs (s.setDrawn d0) H locs a la b lb lo → lv_has ls 7 [] → W p l e ({ frames := 9, cells := 3, slots := 18, locals := 183 } : Room) (s.setDrawn d0) m args below meth c H locs C S (MQD lw_cs below (va_Qi (fun (r : Int32) (u : ig_M × Int64) => post r u.1 u.2) (fun u t => ig_Wd D kk ad bs u.1 u.2 b lb lo t) (ig_A bs)) args s 3 18 (ig_A bs)) (F0 m 759 ls [.int t0, .ref (ad 0)]) := by
  intro a la t0 d0 hd0 C S H locs ls hC hS hf Z hl
  have F := ig_Fd Fs d0
  have E := ig_Ed Es d0
  have hM := k_L_inRound l (D := D) (kk := kk) (ad := ad) (bs := bs) (a := a) (la := la) (b := b) (lb := lb) (lo := lo) t0 hlt hf
  refine ig_calli E Z (ig_runSW (As := [.ref (ad 0), .int t0]) (rest := []) F E Z hl GL_134 hM md_L_inRound rfl ⟨rfl, rfl⟩ ⟨Nat.le_of_ble_eq_true rfl, Nat.le_of_ble_eq_true rfl⟩ (Nat.le_of_ble_eq_true rfl) dL_act_759 ⟨(by show _ ≤ 3; omega), (by show _ ≤ 18; omega)⟩) (fun r166 u H locs hf Z => ?_)
  obtain ⟨a167, la168⟩ := u
  have Z : ig_Z D kk ad bs _ H locs a167 la168 b lb lo := Z
  refine W.widen (k := 3) (n := 18) (by omega) (by omega) ?_
  refine W.endD hd0 ?_
  exact W.iret (v := r166) F.1 F.2.1 hr (fun t ht hW => ⟨⟨_, (a167, la168), rfl, hf, Z.wd E ht hW⟩, Z.fr ht⟩) Z.2.2.2 dL_act_762
set_option maxHeartbeats 4000000 in
set_option maxRecDepth 100000 in
theorem wm_L_act_633 (l : Launch) (hlt : l.stackTraces = false) (Fs : CallFix p m c cL_act 7 s args ig_all RL) (Es : ig_E D kk ad bs s) (hr : meth.sig.returnType = (some .int)) (hk : meth.locks = false) (post : Int32 → ig_M → Int64 → Prop) :
    ∀ (a : ig_M) (la : Int64) (t0 : Int32) (t1 : Int32) (d0 : Drawn) (_ : s.drawn.sameBut d0 lw_cs) (C S : Nat) (H : Heap) (locs : List Loc) (ls : Array Slot) (_ : C + 2 ≤ 3) (_ : S + 12 ≤ 18), wp_L_act_633 post a la t0 t1 → ig_Z D kk ad bs (s.setDrawn d0) H locs a la b lb lo → lv_has ls 7 [] → W p l e ({ frames := 9, cells := 3, slots := 18, locals := 183 } : Room) (s.setDrawn d0) m args below meth c H locs C S (MQD lw_cs below (va_Qi (fun (r : Int32) (u : ig_M × Int64) => post r u.1 u.2) (fun u t => ig_Wd D kk ad bs u.1 u.2 b lb lo t) (ig_A bs)) args s 3 18 (ig_A bs)) (F0 m 633 ls [.int t0, .int t1, .ref (ad 0)]) := by
  intro a la t0 t1 d0 hd0 C S H locs ls hC hS hf Z hl
  have F := ig_Fd Fs d0
  have E := ig_Ed Es d0
  have hM := k_L_lamp l (D := D) (kk := kk) (ad := ad) (bs := bs) (a := a) (la := la) (b := b) (lb := lb) (lo := lo) t1 t0 hlt hf
  refine ig_calli E Z (ig_runSW (As := [.ref (ad 0), .int t1, .int t0]) (rest := []) F E Z hl GL_112 hM md_L_lamp rfl ⟨rfl, rfl⟩ ⟨Nat.le_of_ble_eq_true rfl, Nat.le_of_ble_eq_true rfl⟩ (Nat.le_of_ble_eq_true rfl) dL_act_633 ⟨(by show _ ≤ 3; omega), (by show _ ≤ 18; omega)⟩) (fun r179 u H locs hf Z => ?_)
  obtain ⟨a180, la181⟩ := u
  have Z : ig_Z D kk ad bs _ H locs a180 la181 b lb lo := Z
  refine W.widen (k := 3) (n := 18) (by omega) (by omega) ?_
  refine W.endD hd0 ?_
  exact W.iret (v := r179) F.1 F.2.1 hr (fun t ht hW => ⟨⟨_, (a180, la181), rfl, hf, Z.wd E ht hW⟩, Z.fr ht⟩) Z.2.2.2 dL_act_636
set_option maxHeartbeats 4000000 in
set_option maxRecDepth 100000 in
theorem wm_L_act_119 (l : Launch) (hlt : l.stackTraces = false) (Fs : CallFix p m c cL_act 7 s args ig_all RL) (Es : ig_E D kk ad bs s) (hr : meth.sig.returnType = (some .int)) (hk : meth.locks = false) (post : Int32 → ig_M → Int64 → Prop) :
    ∀ (a : ig_M) (la : Int64) (x1 : Int32) (x2 : Int32) (x3 : Int32) (x4 : Int32) (x5 : Int32) (t0 : Int32) (d0 : Drawn) (_ : s.drawn.sameBut d0 lw_cs) (C S : Nat) (H : Heap) (locs : List Loc) (ls : Array Slot) (_ : C + 3 ≤ 3) (_ : S + 18 ≤ 18), wp_L_act_119 post a la x1 x2 x3 x4 x5 t0 → ig_Z D kk ad bs (s.setDrawn d0) H locs a la b lb lo → lv_has ls 7 [(0, .ref (ad 0)), (1, .int x1), (2, .int x2), (3, .int x3), (4, .int x4), (5, .int x5)] → W p l e ({ frames := 9, cells := 3, slots := 18, locals := 183 } : Room) (s.setDrawn d0) m args below meth c H locs C S (MQD lw_cs below (va_Qi (fun (r : Int32) (u : ig_M × Int64) => post r u.1 u.2) (fun u t => ig_Wd D kk ad bs u.1 u.2 b lb lo t) (ig_A bs)) args s 3 18 (ig_A bs)) (F0 m 119 ls [.int t0]) := by
  intro a la x1 x2 x3 x4 x5 t0 d0 hd0 C S H locs ls hC hS hf Z hl
  have F := ig_Fd Fs d0
  have E := ig_Ed Es d0
  refine lv_istore (lv' := [(6, .int t0), (0, .ref (ad 0)), (1, .int x1), (2, .int x2), (3, .int x3), (4, .int x4), (5, .int x5)]) F.1 F.2.1 dL_act_119 hl (by decide) rfl (fun ls hl => ?_)
  refine lv_iload_n F.1 F.2.1 dL_act_121 rfl (lv_at hl 2 rfl) ?_
  refine lv_bipush (v := 44) F.1 F.2.1 dL_act_122 (by decide) ?_
  have hM := k_L_low l (D := D) (kk := kk) (ad := ad) (bs := bs) (a := a) (la := la) (b := b) (lb := lb) (lo := lo) x1 44 hf
  refine ig_calli E Z (ig_runS (As := [.int x1, .int 44]) (rest := []) F E Z hl G_L_76 hM rfl md_L_low rfl ⟨rfl, rfl⟩ ⟨Nat.le_of_ble_eq_true rfl, Nat.le_of_ble_eq_true rfl⟩ (Nat.le_of_ble_eq_true rfl) dL_act_124 ⟨(by show _ ≤ 3; omega), (by show _ ≤ 18; omega)⟩) (fun r14 u H locs hf Z => ?_)
  have Z : ig_Z D kk ad bs _ H locs a la b lb lo := Z
  by_cases c_15 : r14 = 0
  · have hf := hf.1 c_15
    refine lv_tableIn (tgt := 312) F.1 F.2.1 dL_act_127 (by rw [c_15]; decide) (by rw [c_15]; decide) (by rw [c_15]; rfl) (by decide) ?_
    refine lv_aload_n F.1 F.2.1 dL_act_312 rfl (lv_at hl 1 rfl) ?_
    refine lv_iload_n F.1 F.2.1 dL_act_313 rfl (lv_at hl 3 rfl) ?_
    refine lv_if_eq (tgt := 322) F.1 F.2.1 dL_act_314 (by decide) (fun c_16 => ?_) (fun c_16 => ?_)
    · have hf := hf.1 c_16
      refine lv_iconst (v := 1) F.1 F.2.1 dL_act_322 (by decide) ?_
      refine lv_iload_n F.1 F.2.1 dL_act_323 rfl (lv_at hl 2 rfl) ?_
      refine lv_bipush (v := 9) F.1 F.2.1 dL_act_324 (by decide) ?_
      refine lv_ishr F.1 F.2.1 dL_act_326 ?_
      refine lv_iconst (v := 5) F.1 F.2.1 dL_act_327 (by decide) ?_
      have hM := k_L_low l (D := D) (kk := kk) (ad := ad) (bs := bs) (a := a) (la := la) (b := b) (lb := lb) (lo := lo) (x1 >>> (9 &&& 31)) 5 hf
      refine ig_calli E Z (ig_runS (As := [.int (x1 >>> (9 &&& 31)), .int 5]) (rest := [.int 1, .ref (ad 0)]) F E Z hl G_L_76 hM rfl md_L_low rfl ⟨rfl, rfl⟩ ⟨Nat.le_of_ble_eq_true rfl, Nat.le_of_ble_eq_true rfl⟩ (Nat.le_of_ble_eq_true rfl) dL_act_328 ⟨(by show _ ≤ 3; omega), (by show _ ≤ 18; omega)⟩) (fun r17 u H locs hf Z => ?_)
      have Z : ig_Z D kk ad bs _ H locs a la b lb lo := Z
      refine lv_iadd F.1 F.2.1 dL_act_331 ?_
      exact wm_L_act_332 l hlt Fs Es hr hk post a la x1 x2 x5 t0 (1 + r17) _ hd0 _ _ _ _ _ (by omega) (by omega) hf Z (lv_sub hl [2, 3, 6, 0] rfl)
    · have hf := hf.2 c_16
      refine lv_iload F.1 F.2.1 dL_act_317 (lv_at hl 6 rfl) ?_
      refine lv_goto (tgt := 332) F.1 F.2.1 dL_act_319 (by decide) ?_
      exact wm_L_act_332 l hlt Fs Es hr hk post a la x1 x2 x5 t0 x5 _ hd0 _ _ _ _ _ (by omega) (by omega) hf Z (lv_sub hl [2, 3, 6, 0] rfl)
  have hf := hf.2 c_15
  by_cases c_18 : r14 = 1
  · have hf := hf.1 c_18
    refine lv_tableIn (tgt := 368) F.1 F.2.1 dL_act_127 (by rw [c_18]; decide) (by rw [c_18]; decide) (by rw [c_18]; rfl) (by decide) ?_
    refine lv_aload_n F.1 F.2.1 dL_act_368 rfl (lv_at hl 1 rfl) ?_
    refine lv_iload_n F.1 F.2.1 dL_act_369 rfl (lv_at hl 4 rfl) ?_
    refine lv_iload F.1 F.2.1 dL_act_370 (lv_at hl 5 rfl) ?_
    refine lv_iload_n F.1 F.2.1 dL_act_372 rfl (lv_at hl 3 rfl) ?_
    refine lv_if_eq (tgt := 381) F.1 F.2.1 dL_act_373 (by decide) (fun c_19 => ?_) (fun c_19 => ?_)
    · have hf := hf.1 c_19
      refine lv_iconst (v := 1) F.1 F.2.1 dL_act_381 (by decide) ?_
      refine lv_iload_n F.1 F.2.1 dL_act_382 rfl (lv_at hl 2 rfl) ?_
      refine lv_bipush (v := 9) F.1 F.2.1 dL_act_383 (by decide) ?_
      refine lv_ishr F.1 F.2.1 dL_act_385 ?_
      refine lv_bipush (v := 20) F.1 F.2.1 dL_act_386 (by decide) ?_
      have hM := k_L_low l (D := D) (kk := kk) (ad := ad) (bs := bs) (a := a) (la := la) (b := b) (lb := lb) (lo := lo) (x1 >>> (9 &&& 31)) 20 hf
      refine ig_calli E Z (ig_runS (As := [.int (x1 >>> (9 &&& 31)), .int 20]) (rest := [.int 1, .int x4, .int x3, .ref (ad 0)]) F E Z hl G_L_76 hM rfl md_L_low rfl ⟨rfl, rfl⟩ ⟨Nat.le_of_ble_eq_true rfl, Nat.le_of_ble_eq_true rfl⟩ (Nat.le_of_ble_eq_true rfl) dL_act_388 ⟨(by show _ ≤ 3; omega), (by show _ ≤ 18; omega)⟩) (fun r20 u H locs hf Z => ?_)
      have Z : ig_Z D kk ad bs _ H locs a la b lb lo := Z
      refine lv_iadd F.1 F.2.1 dL_act_391 ?_
      exact wm_L_act_392 l hlt Fs Es hr hk post a la x1 x2 t0 (1 + r20) x4 x3 _ hd0 _ _ _ _ _ (by omega) (by omega) hf Z (lv_sub hl [2, 3, 0] rfl)
    · have hf := hf.2 c_19
      refine lv_iload F.1 F.2.1 dL_act_376 (lv_at hl 6 rfl) ?_
      refine lv_goto (tgt := 392) F.1 F.2.1 dL_act_378 (by decide) ?_
      exact wm_L_act_392 l hlt Fs Es hr hk post a la x1 x2 t0 x5 x4 x3 _ hd0 _ _ _ _ _ (by omega) (by omega) hf Z (lv_sub hl [2, 3, 0] rfl)
  have hf := hf.2 c_18
  by_cases c_21 : r14 = 2
  · have hf := hf.1 c_21
    refine lv_tableIn (tgt := 416) F.1 F.2.1 dL_act_127 (by rw [c_21]; decide) (by rw [c_21]; decide) (by rw [c_21]; rfl) (by decide) ?_
    refine lv_aload_n F.1 F.2.1 dL_act_416 rfl (lv_at hl 1 rfl) ?_
    refine lv_iload_n F.1 F.2.1 dL_act_417 rfl (lv_at hl 3 rfl) ?_
    refine lv_if_eq (tgt := 426) F.1 F.2.1 dL_act_418 (by decide) (fun c_22 => ?_) (fun c_22 => ?_)
    · have hf := hf.1 c_22
      refine lv_iconst (v := 1) F.1 F.2.1 dL_act_426 (by decide) ?_
      refine lv_iload_n F.1 F.2.1 dL_act_427 rfl (lv_at hl 2 rfl) ?_
      refine lv_bipush (v := 9) F.1 F.2.1 dL_act_428 (by decide) ?_
      refine lv_ishr F.1 F.2.1 dL_act_430 ?_
      refine lv_bipush (v := 15) F.1 F.2.1 dL_act_431 (by decide) ?_
      have hM := k_L_low l (D := D) (kk := kk) (ad := ad) (bs := bs) (a := a) (la := la) (b := b) (lb := lb) (lo := lo) (x1 >>> (9 &&& 31)) 15 hf
      refine ig_calli E Z (ig_runS (As := [.int (x1 >>> (9 &&& 31)), .int 15]) (rest := [.int 1, .ref (ad 0)]) F E Z hl G_L_76 hM rfl md_L_low rfl ⟨rfl, rfl⟩ ⟨Nat.le_of_ble_eq_true rfl, Nat.le_of_ble_eq_true rfl⟩ (Nat.le_of_ble_eq_true rfl) dL_act_433 ⟨(by show _ ≤ 3; omega), (by show _ ≤ 18; omega)⟩) (fun r23 u H locs hf Z => ?_)
      have Z : ig_Z D kk ad bs _ H locs a la b lb lo := Z
      refine lv_iadd F.1 F.2.1 dL_act_436 ?_
      exact wm_L_act_437 l hlt Fs Es hr hk post a la (1 + r23) _ hd0 _ _ _ _ _ (by omega) (by omega) hf Z (lv_sub hl [] rfl)
    · have hf := hf.2 c_22
      refine lv_iload F.1 F.2.1 dL_act_421 (lv_at hl 6 rfl) ?_
      refine lv_goto (tgt := 437) F.1 F.2.1 dL_act_423 (by decide) ?_
      exact wm_L_act_437 l hlt Fs Es hr hk post a la x5 _ hd0 _ _ _ _ _ (by omega) (by omega) hf Z (lv_sub hl [] rfl)
  have hf := hf.2 c_21
  by_cases c_24 : r14 = 3
  · have hf := hf.1 c_24
    refine lv_tableIn (tgt := 441) F.1 F.2.1 dL_act_127 (by rw [c_24]; decide) (by rw [c_24]; decide) (by rw [c_24]; rfl) (by decide) ?_
    refine lv_aload_n F.1 F.2.1 dL_act_441 rfl (lv_at hl 1 rfl) ?_
    refine lv_iload_n F.1 F.2.1 dL_act_442 rfl (lv_at hl 3 rfl) ?_
    refine lv_if_eq (tgt := 451) F.1 F.2.1 dL_act_443 (by decide) (fun c_25 => ?_) (fun c_25 => ?_)
    · have hf := hf.1 c_25
      refine lv_iload_n F.1 F.2.1 dL_act_451 rfl (lv_at hl 2 rfl) ?_
      refine lv_bipush (v := 9) F.1 F.2.1 dL_act_452 (by decide) ?_
      refine lv_ishr F.1 F.2.1 dL_act_454 ?_
      refine lv_iconst (v := 3) F.1 F.2.1 dL_act_455 (by decide) ?_
      have hM := k_L_low l (D := D) (kk := kk) (ad := ad) (bs := bs) (a := a) (la := la) (b := b) (lb := lb) (lo := lo) (x1 >>> (9 &&& 31)) 3 hf
      refine ig_calli E Z (ig_runS (As := [.int (x1 >>> (9 &&& 31)), .int 3]) (rest := [.ref (ad 0)]) F E Z hl G_L_76 hM rfl md_L_low rfl ⟨rfl, rfl⟩ ⟨Nat.le_of_ble_eq_true rfl, Nat.le_of_ble_eq_true rfl⟩ (Nat.le_of_ble_eq_true rfl) dL_act_456 ⟨(by show _ ≤ 3; omega), (by show _ ≤ 18; omega)⟩) (fun r26 u H locs hf Z => ?_)
      have Z : ig_Z D kk ad bs _ H locs a la b lb lo := Z
      exact wm_L_act_459 l hlt Fs Es hr hk post a la r26 _ hd0 _ _ _ _ _ (by omega) (by omega) hf Z (lv_sub hl [] rfl)
    · have hf := hf.2 c_25
      refine lv_iload F.1 F.2.1 dL_act_446 (lv_at hl 0 rfl) ?_
      refine lv_goto (tgt := 459) F.1 F.2.1 dL_act_448 (by decide) ?_
      exact wm_L_act_459 l hlt Fs Es hr hk post a la t0 _ hd0 _ _ _ _ _ (by omega) (by omega) hf Z (lv_sub hl [] rfl)
  have hf := hf.2 c_24
  by_cases c_27 : r14 = 4
  · have hf := hf.1 c_27
    refine lv_tableIn (tgt := 441) F.1 F.2.1 dL_act_127 (by rw [c_27]; decide) (by rw [c_27]; decide) (by rw [c_27]; rfl) (by decide) ?_
    refine lv_aload_n F.1 F.2.1 dL_act_441 rfl (lv_at hl 1 rfl) ?_
    refine lv_iload_n F.1 F.2.1 dL_act_442 rfl (lv_at hl 3 rfl) ?_
    refine lv_if_eq (tgt := 451) F.1 F.2.1 dL_act_443 (by decide) (fun c_28 => ?_) (fun c_28 => ?_)
    · have hf := hf.1 c_28
      refine lv_iload_n F.1 F.2.1 dL_act_451 rfl (lv_at hl 2 rfl) ?_
      refine lv_bipush (v := 9) F.1 F.2.1 dL_act_452 (by decide) ?_
      refine lv_ishr F.1 F.2.1 dL_act_454 ?_
      refine lv_iconst (v := 3) F.1 F.2.1 dL_act_455 (by decide) ?_
      have hM := k_L_low l (D := D) (kk := kk) (ad := ad) (bs := bs) (a := a) (la := la) (b := b) (lb := lb) (lo := lo) (x1 >>> (9 &&& 31)) 3 hf
      refine ig_calli E Z (ig_runS (As := [.int (x1 >>> (9 &&& 31)), .int 3]) (rest := [.ref (ad 0)]) F E Z hl G_L_76 hM rfl md_L_low rfl ⟨rfl, rfl⟩ ⟨Nat.le_of_ble_eq_true rfl, Nat.le_of_ble_eq_true rfl⟩ (Nat.le_of_ble_eq_true rfl) dL_act_456 ⟨(by show _ ≤ 3; omega), (by show _ ≤ 18; omega)⟩) (fun r29 u H locs hf Z => ?_)
      have Z : ig_Z D kk ad bs _ H locs a la b lb lo := Z
      exact wm_L_act_459 l hlt Fs Es hr hk post a la r29 _ hd0 _ _ _ _ _ (by omega) (by omega) hf Z (lv_sub hl [] rfl)
    · have hf := hf.2 c_28
      refine lv_iload F.1 F.2.1 dL_act_446 (lv_at hl 0 rfl) ?_
      refine lv_goto (tgt := 459) F.1 F.2.1 dL_act_448 (by decide) ?_
      exact wm_L_act_459 l hlt Fs Es hr hk post a la t0 _ hd0 _ _ _ _ _ (by omega) (by omega) hf Z (lv_sub hl [] rfl)
  have hf := hf.2 c_27
  by_cases c_30 : r14 = 5
  · have hf := hf.1 c_30
    refine lv_tableIn (tgt := 441) F.1 F.2.1 dL_act_127 (by rw [c_30]; decide) (by rw [c_30]; decide) (by rw [c_30]; rfl) (by decide) ?_
    refine lv_aload_n F.1 F.2.1 dL_act_441 rfl (lv_at hl 1 rfl) ?_
    refine lv_iload_n F.1 F.2.1 dL_act_442 rfl (lv_at hl 3 rfl) ?_
    refine lv_if_eq (tgt := 451) F.1 F.2.1 dL_act_443 (by decide) (fun c_31 => ?_) (fun c_31 => ?_)
    · have hf := hf.1 c_31
      refine lv_iload_n F.1 F.2.1 dL_act_451 rfl (lv_at hl 2 rfl) ?_
      refine lv_bipush (v := 9) F.1 F.2.1 dL_act_452 (by decide) ?_
      refine lv_ishr F.1 F.2.1 dL_act_454 ?_
      refine lv_iconst (v := 3) F.1 F.2.1 dL_act_455 (by decide) ?_
      have hM := k_L_low l (D := D) (kk := kk) (ad := ad) (bs := bs) (a := a) (la := la) (b := b) (lb := lb) (lo := lo) (x1 >>> (9 &&& 31)) 3 hf
      refine ig_calli E Z (ig_runS (As := [.int (x1 >>> (9 &&& 31)), .int 3]) (rest := [.ref (ad 0)]) F E Z hl G_L_76 hM rfl md_L_low rfl ⟨rfl, rfl⟩ ⟨Nat.le_of_ble_eq_true rfl, Nat.le_of_ble_eq_true rfl⟩ (Nat.le_of_ble_eq_true rfl) dL_act_456 ⟨(by show _ ≤ 3; omega), (by show _ ≤ 18; omega)⟩) (fun r32 u H locs hf Z => ?_)
      have Z : ig_Z D kk ad bs _ H locs a la b lb lo := Z
      exact wm_L_act_459 l hlt Fs Es hr hk post a la r32 _ hd0 _ _ _ _ _ (by omega) (by omega) hf Z (lv_sub hl [] rfl)
    · have hf := hf.2 c_31
      refine lv_iload F.1 F.2.1 dL_act_446 (lv_at hl 0 rfl) ?_
      refine lv_goto (tgt := 459) F.1 F.2.1 dL_act_448 (by decide) ?_
      exact wm_L_act_459 l hlt Fs Es hr hk post a la t0 _ hd0 _ _ _ _ _ (by omega) (by omega) hf Z (lv_sub hl [] rfl)
  have hf := hf.2 c_30
  by_cases c_33 : r14 = 6
  · have hf := hf.1 c_33
    refine lv_tableIn (tgt := 441) F.1 F.2.1 dL_act_127 (by rw [c_33]; decide) (by rw [c_33]; decide) (by rw [c_33]; rfl) (by decide) ?_
    refine lv_aload_n F.1 F.2.1 dL_act_441 rfl (lv_at hl 1 rfl) ?_
    refine lv_iload_n F.1 F.2.1 dL_act_442 rfl (lv_at hl 3 rfl) ?_
    refine lv_if_eq (tgt := 451) F.1 F.2.1 dL_act_443 (by decide) (fun c_34 => ?_) (fun c_34 => ?_)
    · have hf := hf.1 c_34
      refine lv_iload_n F.1 F.2.1 dL_act_451 rfl (lv_at hl 2 rfl) ?_
      refine lv_bipush (v := 9) F.1 F.2.1 dL_act_452 (by decide) ?_
      refine lv_ishr F.1 F.2.1 dL_act_454 ?_
      refine lv_iconst (v := 3) F.1 F.2.1 dL_act_455 (by decide) ?_
      have hM := k_L_low l (D := D) (kk := kk) (ad := ad) (bs := bs) (a := a) (la := la) (b := b) (lb := lb) (lo := lo) (x1 >>> (9 &&& 31)) 3 hf
      refine ig_calli E Z (ig_runS (As := [.int (x1 >>> (9 &&& 31)), .int 3]) (rest := [.ref (ad 0)]) F E Z hl G_L_76 hM rfl md_L_low rfl ⟨rfl, rfl⟩ ⟨Nat.le_of_ble_eq_true rfl, Nat.le_of_ble_eq_true rfl⟩ (Nat.le_of_ble_eq_true rfl) dL_act_456 ⟨(by show _ ≤ 3; omega), (by show _ ≤ 18; omega)⟩) (fun r35 u H locs hf Z => ?_)
      have Z : ig_Z D kk ad bs _ H locs a la b lb lo := Z
      exact wm_L_act_459 l hlt Fs Es hr hk post a la r35 _ hd0 _ _ _ _ _ (by omega) (by omega) hf Z (lv_sub hl [] rfl)
    · have hf := hf.2 c_34
      refine lv_iload F.1 F.2.1 dL_act_446 (lv_at hl 0 rfl) ?_
      refine lv_goto (tgt := 459) F.1 F.2.1 dL_act_448 (by decide) ?_
      exact wm_L_act_459 l hlt Fs Es hr hk post a la t0 _ hd0 _ _ _ _ _ (by omega) (by omega) hf Z (lv_sub hl [] rfl)
  have hf := hf.2 c_33
  by_cases c_36 : r14 = 7
  · have hf := hf.1 c_36
    refine lv_tableIn (tgt := 441) F.1 F.2.1 dL_act_127 (by rw [c_36]; decide) (by rw [c_36]; decide) (by rw [c_36]; rfl) (by decide) ?_
    refine lv_aload_n F.1 F.2.1 dL_act_441 rfl (lv_at hl 1 rfl) ?_
    refine lv_iload_n F.1 F.2.1 dL_act_442 rfl (lv_at hl 3 rfl) ?_
    refine lv_if_eq (tgt := 451) F.1 F.2.1 dL_act_443 (by decide) (fun c_37 => ?_) (fun c_37 => ?_)
    · have hf := hf.1 c_37
      refine lv_iload_n F.1 F.2.1 dL_act_451 rfl (lv_at hl 2 rfl) ?_
      refine lv_bipush (v := 9) F.1 F.2.1 dL_act_452 (by decide) ?_
      refine lv_ishr F.1 F.2.1 dL_act_454 ?_
      refine lv_iconst (v := 3) F.1 F.2.1 dL_act_455 (by decide) ?_
      have hM := k_L_low l (D := D) (kk := kk) (ad := ad) (bs := bs) (a := a) (la := la) (b := b) (lb := lb) (lo := lo) (x1 >>> (9 &&& 31)) 3 hf
      refine ig_calli E Z (ig_runS (As := [.int (x1 >>> (9 &&& 31)), .int 3]) (rest := [.ref (ad 0)]) F E Z hl G_L_76 hM rfl md_L_low rfl ⟨rfl, rfl⟩ ⟨Nat.le_of_ble_eq_true rfl, Nat.le_of_ble_eq_true rfl⟩ (Nat.le_of_ble_eq_true rfl) dL_act_456 ⟨(by show _ ≤ 3; omega), (by show _ ≤ 18; omega)⟩) (fun r38 u H locs hf Z => ?_)
      have Z : ig_Z D kk ad bs _ H locs a la b lb lo := Z
      exact wm_L_act_459 l hlt Fs Es hr hk post a la r38 _ hd0 _ _ _ _ _ (by omega) (by omega) hf Z (lv_sub hl [] rfl)
    · have hf := hf.2 c_37
      refine lv_iload F.1 F.2.1 dL_act_446 (lv_at hl 0 rfl) ?_
      refine lv_goto (tgt := 459) F.1 F.2.1 dL_act_448 (by decide) ?_
      exact wm_L_act_459 l hlt Fs Es hr hk post a la t0 _ hd0 _ _ _ _ _ (by omega) (by omega) hf Z (lv_sub hl [] rfl)
  have hf := hf.2 c_36
  by_cases c_39 : r14 = 8
  · have hf := hf.1 c_39
    refine lv_tableIn (tgt := 463) F.1 F.2.1 dL_act_127 (by rw [c_39]; decide) (by rw [c_39]; decide) (by rw [c_39]; rfl) (by decide) ?_
    refine lv_iload_n F.1 F.2.1 dL_act_463 rfl (lv_at hl 2 rfl) ?_
    refine lv_bipush (v := 9) F.1 F.2.1 dL_act_464 (by decide) ?_
    refine lv_ishr F.1 F.2.1 dL_act_466 ?_
    refine lv_iconst (v := 4) F.1 F.2.1 dL_act_467 (by decide) ?_
    have hM := k_L_low l (D := D) (kk := kk) (ad := ad) (bs := bs) (a := a) (la := la) (b := b) (lb := lb) (lo := lo) (x1 >>> (9 &&& 31)) 4 hf
    refine ig_calli E Z (ig_runS (As := [.int (x1 >>> (9 &&& 31)), .int 4]) (rest := []) F E Z hl G_L_76 hM rfl md_L_low rfl ⟨rfl, rfl⟩ ⟨Nat.le_of_ble_eq_true rfl, Nat.le_of_ble_eq_true rfl⟩ (Nat.le_of_ble_eq_true rfl) dL_act_468 ⟨(by show _ ≤ 3; omega), (by show _ ≤ 18; omega)⟩) (fun r40 u H locs hf Z => ?_)
    have Z : ig_Z D kk ad bs _ H locs a la b lb lo := Z
    refine lv_if_ne (tgt := 481) F.1 F.2.1 dL_act_471 (by decide) (fun c_41 => ?_) (fun c_41 => ?_)
    · have hf := hf.1 c_41
      refine lv_aload_n F.1 F.2.1 dL_act_481 rfl (lv_at hl 1 rfl) ?_
      have hM := k_X5_roundAnew l (D := D) (kk := kk) (ad := ad) (bs := bs) (a := a) (la := la) (b := b) (lb := lb) (lo := lo) hf
      refine ig_calli E Z (ig_runV (As := []) (rest := []) F E Z hl G_L_95 hM (i := 0) (by decide) (ig_k_0 _ _ _ _ _ _) rfl rfl md_X5_roundAnew rfl ⟨rfl, rfl⟩ ⟨Nat.le_of_ble_eq_true rfl, Nat.le_of_ble_eq_true rfl⟩ (Nat.le_of_ble_eq_true rfl) dL_act_482 ⟨(by show _ ≤ 3; omega), (by show _ ≤ 18; omega)⟩) (fun r42 u H locs hf Z => ?_)
      obtain ⟨a43, la44⟩ := u
      have Z : ig_Z D kk ad bs _ H locs a43 la44 b lb lo := Z
      refine W.widen (k := 3) (n := 18) (by omega) (by omega) ?_
      refine W.endD hd0 ?_
      exact W.iret (v := r42) F.1 F.2.1 hr (fun t ht hW => ⟨⟨_, (a43, la44), rfl, hf, Z.wd E ht hW⟩, Z.fr ht⟩) Z.2.2.2 dL_act_485
    · have hf := hf.2 c_41
      refine lv_aload_n F.1 F.2.1 dL_act_474 rfl (lv_at hl 1 rfl) ?_
      have hM := k_L_stop l (D := D) (kk := kk) (ad := ad) (bs := bs) (a := a) (la := la) (b := b) (lb := lb) (lo := lo) hlt hf
      refine ig_calli E Z (ig_runSW (As := [.ref (ad 0)]) (rest := []) F E Z hl GL_92 hM md_L_stop rfl ⟨rfl, rfl⟩ ⟨Nat.le_of_ble_eq_true rfl, Nat.le_of_ble_eq_true rfl⟩ (Nat.le_of_ble_eq_true rfl) dL_act_475 ⟨(by show _ ≤ 3; omega), (by show _ ≤ 18; omega)⟩) (fun r45 u H locs hf Z => ?_)
      obtain ⟨a46, la47⟩ := u
      have Z : ig_Z D kk ad bs _ H locs a46 la47 b lb lo := Z
      refine lv_goto (tgt := 485) F.1 F.2.1 dL_act_478 (by decide) ?_
      refine W.widen (k := 3) (n := 18) (by omega) (by omega) ?_
      refine W.endD hd0 ?_
      exact W.iret (v := r45) F.1 F.2.1 hr (fun t ht hW => ⟨⟨_, (a46, la47), rfl, hf, Z.wd E ht hW⟩, Z.fr ht⟩) Z.2.2.2 dL_act_485
  have hf := hf.2 c_39
  by_cases c_48 : r14 = 9
  · have hf := hf.1 c_48
    refine lv_tableIn (tgt := 486) F.1 F.2.1 dL_act_127 (by rw [c_48]; decide) (by rw [c_48]; decide) (by rw [c_48]; rfl) (by decide) ?_
    refine lv_aload_n F.1 F.2.1 dL_act_486 rfl (lv_at hl 1 rfl) ?_
    refine lv_iload_n F.1 F.2.1 dL_act_487 rfl (lv_at hl 4 rfl) ?_
    have hM := k_L_press l (D := D) (kk := kk) (ad := ad) (bs := bs) (a := a) (la := la) (b := b) (lb := lb) (lo := lo) x3 hlt hf
    refine ig_calli E Z (ig_runSW (As := [.ref (ad 0), .int x3]) (rest := []) F E Z hl GL_98 hM md_L_press rfl ⟨rfl, rfl⟩ ⟨Nat.le_of_ble_eq_true rfl, Nat.le_of_ble_eq_true rfl⟩ (Nat.le_of_ble_eq_true rfl) dL_act_488 ⟨(by show _ ≤ 3; omega), (by show _ ≤ 18; omega)⟩) (fun r49 u H locs hf Z => ?_)
    obtain ⟨a50, la51⟩ := u
    have Z : ig_Z D kk ad bs _ H locs a50 la51 b lb lo := Z
    refine W.widen (k := 3) (n := 18) (by omega) (by omega) ?_
    refine W.endD hd0 ?_
    exact W.iret (v := r49) F.1 F.2.1 hr (fun t ht hW => ⟨⟨_, (a50, la51), rfl, hf, Z.wd E ht hW⟩, Z.fr ht⟩) Z.2.2.2 dL_act_491
  have hf := hf.2 c_48
  by_cases c_52 : r14 = 10
  · have hf := hf.1 c_52
    refine lv_tableIn (tgt := 486) F.1 F.2.1 dL_act_127 (by rw [c_52]; decide) (by rw [c_52]; decide) (by rw [c_52]; rfl) (by decide) ?_
    refine lv_aload_n F.1 F.2.1 dL_act_486 rfl (lv_at hl 1 rfl) ?_
    refine lv_iload_n F.1 F.2.1 dL_act_487 rfl (lv_at hl 4 rfl) ?_
    have hM := k_L_press l (D := D) (kk := kk) (ad := ad) (bs := bs) (a := a) (la := la) (b := b) (lb := lb) (lo := lo) x3 hlt hf
    refine ig_calli E Z (ig_runSW (As := [.ref (ad 0), .int x3]) (rest := []) F E Z hl GL_98 hM md_L_press rfl ⟨rfl, rfl⟩ ⟨Nat.le_of_ble_eq_true rfl, Nat.le_of_ble_eq_true rfl⟩ (Nat.le_of_ble_eq_true rfl) dL_act_488 ⟨(by show _ ≤ 3; omega), (by show _ ≤ 18; omega)⟩) (fun r53 u H locs hf Z => ?_)
    obtain ⟨a54, la55⟩ := u
    have Z : ig_Z D kk ad bs _ H locs a54 la55 b lb lo := Z
    refine W.widen (k := 3) (n := 18) (by omega) (by omega) ?_
    refine W.endD hd0 ?_
    exact W.iret (v := r53) F.1 F.2.1 hr (fun t ht hW => ⟨⟨_, (a54, la55), rfl, hf, Z.wd E ht hW⟩, Z.fr ht⟩) Z.2.2.2 dL_act_491
  have hf := hf.2 c_52
  by_cases c_56 : r14 = 11
  · have hf := hf.1 c_56
    refine lv_tableIn (tgt := 486) F.1 F.2.1 dL_act_127 (by rw [c_56]; decide) (by rw [c_56]; decide) (by rw [c_56]; rfl) (by decide) ?_
    refine lv_aload_n F.1 F.2.1 dL_act_486 rfl (lv_at hl 1 rfl) ?_
    refine lv_iload_n F.1 F.2.1 dL_act_487 rfl (lv_at hl 4 rfl) ?_
    have hM := k_L_press l (D := D) (kk := kk) (ad := ad) (bs := bs) (a := a) (la := la) (b := b) (lb := lb) (lo := lo) x3 hlt hf
    refine ig_calli E Z (ig_runSW (As := [.ref (ad 0), .int x3]) (rest := []) F E Z hl GL_98 hM md_L_press rfl ⟨rfl, rfl⟩ ⟨Nat.le_of_ble_eq_true rfl, Nat.le_of_ble_eq_true rfl⟩ (Nat.le_of_ble_eq_true rfl) dL_act_488 ⟨(by show _ ≤ 3; omega), (by show _ ≤ 18; omega)⟩) (fun r57 u H locs hf Z => ?_)
    obtain ⟨a58, la59⟩ := u
    have Z : ig_Z D kk ad bs _ H locs a58 la59 b lb lo := Z
    refine W.widen (k := 3) (n := 18) (by omega) (by omega) ?_
    refine W.endD hd0 ?_
    exact W.iret (v := r57) F.1 F.2.1 hr (fun t ht hW => ⟨⟨_, (a58, la59), rfl, hf, Z.wd E ht hW⟩, Z.fr ht⟩) Z.2.2.2 dL_act_491
  have hf := hf.2 c_56
  by_cases c_60 : r14 = 12
  · have hf := hf.1 c_60
    refine lv_tableIn (tgt := 492) F.1 F.2.1 dL_act_127 (by rw [c_60]; decide) (by rw [c_60]; decide) (by rw [c_60]; rfl) (by decide) ?_
    refine lv_aload_n F.1 F.2.1 dL_act_492 rfl (lv_at hl 1 rfl) ?_
    refine lv_iload_n F.1 F.2.1 dL_act_493 rfl (lv_at hl 4 rfl) ?_
    refine lv_iload_n F.1 F.2.1 dL_act_494 rfl (lv_at hl 3 rfl) ?_
    refine lv_if_eq (tgt := 503) F.1 F.2.1 dL_act_495 (by decide) (fun c_61 => ?_) (fun c_61 => ?_)
    · have hf := hf.1 c_61
      refine lv_iconst (v := 1) F.1 F.2.1 dL_act_503 (by decide) ?_
      refine lv_iload_n F.1 F.2.1 dL_act_504 rfl (lv_at hl 2 rfl) ?_
      refine lv_bipush (v := 9) F.1 F.2.1 dL_act_505 (by decide) ?_
      refine lv_ishr F.1 F.2.1 dL_act_507 ?_
      refine lv_bipush (v := 9) F.1 F.2.1 dL_act_508 (by decide) ?_
      have hM := k_L_low l (D := D) (kk := kk) (ad := ad) (bs := bs) (a := a) (la := la) (b := b) (lb := lb) (lo := lo) (x1 >>> (9 &&& 31)) 9 hf
      refine ig_calli E Z (ig_runS (As := [.int (x1 >>> (9 &&& 31)), .int 9]) (rest := [.int 1, .int x3, .ref (ad 0)]) F E Z hl G_L_76 hM rfl md_L_low rfl ⟨rfl, rfl⟩ ⟨Nat.le_of_ble_eq_true rfl, Nat.le_of_ble_eq_true rfl⟩ (Nat.le_of_ble_eq_true rfl) dL_act_510 ⟨(by show _ ≤ 3; omega), (by show _ ≤ 18; omega)⟩) (fun r62 u H locs hf Z => ?_)
      have Z : ig_Z D kk ad bs _ H locs a la b lb lo := Z
      refine lv_iadd F.1 F.2.1 dL_act_513 ?_
      exact wm_L_act_514 l hlt Fs Es hr hk post a la (1 + r62) x3 _ hd0 _ _ _ _ _ (by omega) (by omega) hf Z (lv_sub hl [] rfl)
    · have hf := hf.2 c_61
      refine lv_iload F.1 F.2.1 dL_act_498 (lv_at hl 6 rfl) ?_
      refine lv_goto (tgt := 514) F.1 F.2.1 dL_act_500 (by decide) ?_
      exact wm_L_act_514 l hlt Fs Es hr hk post a la x5 x3 _ hd0 _ _ _ _ _ (by omega) (by omega) hf Z (lv_sub hl [] rfl)
  have hf := hf.2 c_60
  by_cases c_63 : r14 = 13
  · have hf := hf.1 c_63
    refine lv_tableIn (tgt := 492) F.1 F.2.1 dL_act_127 (by rw [c_63]; decide) (by rw [c_63]; decide) (by rw [c_63]; rfl) (by decide) ?_
    refine lv_aload_n F.1 F.2.1 dL_act_492 rfl (lv_at hl 1 rfl) ?_
    refine lv_iload_n F.1 F.2.1 dL_act_493 rfl (lv_at hl 4 rfl) ?_
    refine lv_iload_n F.1 F.2.1 dL_act_494 rfl (lv_at hl 3 rfl) ?_
    refine lv_if_eq (tgt := 503) F.1 F.2.1 dL_act_495 (by decide) (fun c_64 => ?_) (fun c_64 => ?_)
    · have hf := hf.1 c_64
      refine lv_iconst (v := 1) F.1 F.2.1 dL_act_503 (by decide) ?_
      refine lv_iload_n F.1 F.2.1 dL_act_504 rfl (lv_at hl 2 rfl) ?_
      refine lv_bipush (v := 9) F.1 F.2.1 dL_act_505 (by decide) ?_
      refine lv_ishr F.1 F.2.1 dL_act_507 ?_
      refine lv_bipush (v := 9) F.1 F.2.1 dL_act_508 (by decide) ?_
      have hM := k_L_low l (D := D) (kk := kk) (ad := ad) (bs := bs) (a := a) (la := la) (b := b) (lb := lb) (lo := lo) (x1 >>> (9 &&& 31)) 9 hf
      refine ig_calli E Z (ig_runS (As := [.int (x1 >>> (9 &&& 31)), .int 9]) (rest := [.int 1, .int x3, .ref (ad 0)]) F E Z hl G_L_76 hM rfl md_L_low rfl ⟨rfl, rfl⟩ ⟨Nat.le_of_ble_eq_true rfl, Nat.le_of_ble_eq_true rfl⟩ (Nat.le_of_ble_eq_true rfl) dL_act_510 ⟨(by show _ ≤ 3; omega), (by show _ ≤ 18; omega)⟩) (fun r65 u H locs hf Z => ?_)
      have Z : ig_Z D kk ad bs _ H locs a la b lb lo := Z
      refine lv_iadd F.1 F.2.1 dL_act_513 ?_
      exact wm_L_act_514 l hlt Fs Es hr hk post a la (1 + r65) x3 _ hd0 _ _ _ _ _ (by omega) (by omega) hf Z (lv_sub hl [] rfl)
    · have hf := hf.2 c_64
      refine lv_iload F.1 F.2.1 dL_act_498 (lv_at hl 6 rfl) ?_
      refine lv_goto (tgt := 514) F.1 F.2.1 dL_act_500 (by decide) ?_
      exact wm_L_act_514 l hlt Fs Es hr hk post a la x5 x3 _ hd0 _ _ _ _ _ (by omega) (by omega) hf Z (lv_sub hl [] rfl)
  have hf := hf.2 c_63
  by_cases c_66 : r14 = 14
  · have hf := hf.1 c_66
    refine lv_tableIn (tgt := 492) F.1 F.2.1 dL_act_127 (by rw [c_66]; decide) (by rw [c_66]; decide) (by rw [c_66]; rfl) (by decide) ?_
    refine lv_aload_n F.1 F.2.1 dL_act_492 rfl (lv_at hl 1 rfl) ?_
    refine lv_iload_n F.1 F.2.1 dL_act_493 rfl (lv_at hl 4 rfl) ?_
    refine lv_iload_n F.1 F.2.1 dL_act_494 rfl (lv_at hl 3 rfl) ?_
    refine lv_if_eq (tgt := 503) F.1 F.2.1 dL_act_495 (by decide) (fun c_67 => ?_) (fun c_67 => ?_)
    · have hf := hf.1 c_67
      refine lv_iconst (v := 1) F.1 F.2.1 dL_act_503 (by decide) ?_
      refine lv_iload_n F.1 F.2.1 dL_act_504 rfl (lv_at hl 2 rfl) ?_
      refine lv_bipush (v := 9) F.1 F.2.1 dL_act_505 (by decide) ?_
      refine lv_ishr F.1 F.2.1 dL_act_507 ?_
      refine lv_bipush (v := 9) F.1 F.2.1 dL_act_508 (by decide) ?_
      have hM := k_L_low l (D := D) (kk := kk) (ad := ad) (bs := bs) (a := a) (la := la) (b := b) (lb := lb) (lo := lo) (x1 >>> (9 &&& 31)) 9 hf
      refine ig_calli E Z (ig_runS (As := [.int (x1 >>> (9 &&& 31)), .int 9]) (rest := [.int 1, .int x3, .ref (ad 0)]) F E Z hl G_L_76 hM rfl md_L_low rfl ⟨rfl, rfl⟩ ⟨Nat.le_of_ble_eq_true rfl, Nat.le_of_ble_eq_true rfl⟩ (Nat.le_of_ble_eq_true rfl) dL_act_510 ⟨(by show _ ≤ 3; omega), (by show _ ≤ 18; omega)⟩) (fun r68 u H locs hf Z => ?_)
      have Z : ig_Z D kk ad bs _ H locs a la b lb lo := Z
      refine lv_iadd F.1 F.2.1 dL_act_513 ?_
      exact wm_L_act_514 l hlt Fs Es hr hk post a la (1 + r68) x3 _ hd0 _ _ _ _ _ (by omega) (by omega) hf Z (lv_sub hl [] rfl)
    · have hf := hf.2 c_67
      refine lv_iload F.1 F.2.1 dL_act_498 (lv_at hl 6 rfl) ?_
      refine lv_goto (tgt := 514) F.1 F.2.1 dL_act_500 (by decide) ?_
      exact wm_L_act_514 l hlt Fs Es hr hk post a la x5 x3 _ hd0 _ _ _ _ _ (by omega) (by omega) hf Z (lv_sub hl [] rfl)
  have hf := hf.2 c_66
  by_cases c_69 : r14 = 15
  · have hf := hf.1 c_69
    refine lv_tableIn (tgt := 492) F.1 F.2.1 dL_act_127 (by rw [c_69]; decide) (by rw [c_69]; decide) (by rw [c_69]; rfl) (by decide) ?_
    refine lv_aload_n F.1 F.2.1 dL_act_492 rfl (lv_at hl 1 rfl) ?_
    refine lv_iload_n F.1 F.2.1 dL_act_493 rfl (lv_at hl 4 rfl) ?_
    refine lv_iload_n F.1 F.2.1 dL_act_494 rfl (lv_at hl 3 rfl) ?_
    refine lv_if_eq (tgt := 503) F.1 F.2.1 dL_act_495 (by decide) (fun c_70 => ?_) (fun c_70 => ?_)
    · have hf := hf.1 c_70
      refine lv_iconst (v := 1) F.1 F.2.1 dL_act_503 (by decide) ?_
      refine lv_iload_n F.1 F.2.1 dL_act_504 rfl (lv_at hl 2 rfl) ?_
      refine lv_bipush (v := 9) F.1 F.2.1 dL_act_505 (by decide) ?_
      refine lv_ishr F.1 F.2.1 dL_act_507 ?_
      refine lv_bipush (v := 9) F.1 F.2.1 dL_act_508 (by decide) ?_
      have hM := k_L_low l (D := D) (kk := kk) (ad := ad) (bs := bs) (a := a) (la := la) (b := b) (lb := lb) (lo := lo) (x1 >>> (9 &&& 31)) 9 hf
      refine ig_calli E Z (ig_runS (As := [.int (x1 >>> (9 &&& 31)), .int 9]) (rest := [.int 1, .int x3, .ref (ad 0)]) F E Z hl G_L_76 hM rfl md_L_low rfl ⟨rfl, rfl⟩ ⟨Nat.le_of_ble_eq_true rfl, Nat.le_of_ble_eq_true rfl⟩ (Nat.le_of_ble_eq_true rfl) dL_act_510 ⟨(by show _ ≤ 3; omega), (by show _ ≤ 18; omega)⟩) (fun r71 u H locs hf Z => ?_)
      have Z : ig_Z D kk ad bs _ H locs a la b lb lo := Z
      refine lv_iadd F.1 F.2.1 dL_act_513 ?_
      exact wm_L_act_514 l hlt Fs Es hr hk post a la (1 + r71) x3 _ hd0 _ _ _ _ _ (by omega) (by omega) hf Z (lv_sub hl [] rfl)
    · have hf := hf.2 c_70
      refine lv_iload F.1 F.2.1 dL_act_498 (lv_at hl 6 rfl) ?_
      refine lv_goto (tgt := 514) F.1 F.2.1 dL_act_500 (by decide) ?_
      exact wm_L_act_514 l hlt Fs Es hr hk post a la x5 x3 _ hd0 _ _ _ _ _ (by omega) (by omega) hf Z (lv_sub hl [] rfl)
  have hf := hf.2 c_69
  by_cases c_72 : r14 = 16
  · have hf := hf.1 c_72
    refine lv_tableIn (tgt := 492) F.1 F.2.1 dL_act_127 (by rw [c_72]; decide) (by rw [c_72]; decide) (by rw [c_72]; rfl) (by decide) ?_
    refine lv_aload_n F.1 F.2.1 dL_act_492 rfl (lv_at hl 1 rfl) ?_
    refine lv_iload_n F.1 F.2.1 dL_act_493 rfl (lv_at hl 4 rfl) ?_
    refine lv_iload_n F.1 F.2.1 dL_act_494 rfl (lv_at hl 3 rfl) ?_
    refine lv_if_eq (tgt := 503) F.1 F.2.1 dL_act_495 (by decide) (fun c_73 => ?_) (fun c_73 => ?_)
    · have hf := hf.1 c_73
      refine lv_iconst (v := 1) F.1 F.2.1 dL_act_503 (by decide) ?_
      refine lv_iload_n F.1 F.2.1 dL_act_504 rfl (lv_at hl 2 rfl) ?_
      refine lv_bipush (v := 9) F.1 F.2.1 dL_act_505 (by decide) ?_
      refine lv_ishr F.1 F.2.1 dL_act_507 ?_
      refine lv_bipush (v := 9) F.1 F.2.1 dL_act_508 (by decide) ?_
      have hM := k_L_low l (D := D) (kk := kk) (ad := ad) (bs := bs) (a := a) (la := la) (b := b) (lb := lb) (lo := lo) (x1 >>> (9 &&& 31)) 9 hf
      refine ig_calli E Z (ig_runS (As := [.int (x1 >>> (9 &&& 31)), .int 9]) (rest := [.int 1, .int x3, .ref (ad 0)]) F E Z hl G_L_76 hM rfl md_L_low rfl ⟨rfl, rfl⟩ ⟨Nat.le_of_ble_eq_true rfl, Nat.le_of_ble_eq_true rfl⟩ (Nat.le_of_ble_eq_true rfl) dL_act_510 ⟨(by show _ ≤ 3; omega), (by show _ ≤ 18; omega)⟩) (fun r74 u H locs hf Z => ?_)
      have Z : ig_Z D kk ad bs _ H locs a la b lb lo := Z
      refine lv_iadd F.1 F.2.1 dL_act_513 ?_
      exact wm_L_act_514 l hlt Fs Es hr hk post a la (1 + r74) x3 _ hd0 _ _ _ _ _ (by omega) (by omega) hf Z (lv_sub hl [] rfl)
    · have hf := hf.2 c_73
      refine lv_iload F.1 F.2.1 dL_act_498 (lv_at hl 6 rfl) ?_
      refine lv_goto (tgt := 514) F.1 F.2.1 dL_act_500 (by decide) ?_
      exact wm_L_act_514 l hlt Fs Es hr hk post a la x5 x3 _ hd0 _ _ _ _ _ (by omega) (by omega) hf Z (lv_sub hl [] rfl)
  have hf := hf.2 c_72
  by_cases c_75 : r14 = 17
  · have hf := hf.1 c_75
    refine lv_tableIn (tgt := 518) F.1 F.2.1 dL_act_127 (by rw [c_75]; decide) (by rw [c_75]; decide) (by rw [c_75]; rfl) (by decide) ?_
    refine lv_aload_n F.1 F.2.1 dL_act_518 rfl (lv_at hl 1 rfl) ?_
    refine lv_iload_n F.1 F.2.1 dL_act_519 rfl (lv_at hl 4 rfl) ?_
    have hM := k_L_ask l (D := D) (kk := kk) (ad := ad) (bs := bs) (a := a) (la := la) (b := b) (lb := lb) (lo := lo) x3 hlt hf
    refine ig_calli E Z (ig_runSW (As := [.ref (ad 0), .int x3]) (rest := []) F E Z hl GL_103 hM md_L_ask rfl ⟨rfl, rfl⟩ ⟨Nat.le_of_ble_eq_true rfl, Nat.le_of_ble_eq_true rfl⟩ (Nat.le_of_ble_eq_true rfl) dL_act_520 ⟨(by show _ ≤ 3; omega), (by show _ ≤ 18; omega)⟩) (fun r76 u H locs hf Z => ?_)
    obtain ⟨a77, la78⟩ := u
    have Z : ig_Z D kk ad bs _ H locs a77 la78 b lb lo := Z
    refine W.widen (k := 3) (n := 18) (by omega) (by omega) ?_
    refine W.endD hd0 ?_
    exact W.iret (v := r76) F.1 F.2.1 hr (fun t ht hW => ⟨⟨_, (a77, la78), rfl, hf, Z.wd E ht hW⟩, Z.fr ht⟩) Z.2.2.2 dL_act_523
  have hf := hf.2 c_75
  by_cases c_79 : r14 = 18
  · have hf := hf.1 c_79
    refine lv_tableIn (tgt := 518) F.1 F.2.1 dL_act_127 (by rw [c_79]; decide) (by rw [c_79]; decide) (by rw [c_79]; rfl) (by decide) ?_
    refine lv_aload_n F.1 F.2.1 dL_act_518 rfl (lv_at hl 1 rfl) ?_
    refine lv_iload_n F.1 F.2.1 dL_act_519 rfl (lv_at hl 4 rfl) ?_
    have hM := k_L_ask l (D := D) (kk := kk) (ad := ad) (bs := bs) (a := a) (la := la) (b := b) (lb := lb) (lo := lo) x3 hlt hf
    refine ig_calli E Z (ig_runSW (As := [.ref (ad 0), .int x3]) (rest := []) F E Z hl GL_103 hM md_L_ask rfl ⟨rfl, rfl⟩ ⟨Nat.le_of_ble_eq_true rfl, Nat.le_of_ble_eq_true rfl⟩ (Nat.le_of_ble_eq_true rfl) dL_act_520 ⟨(by show _ ≤ 3; omega), (by show _ ≤ 18; omega)⟩) (fun r80 u H locs hf Z => ?_)
    obtain ⟨a81, la82⟩ := u
    have Z : ig_Z D kk ad bs _ H locs a81 la82 b lb lo := Z
    refine W.widen (k := 3) (n := 18) (by omega) (by omega) ?_
    refine W.endD hd0 ?_
    exact W.iret (v := r80) F.1 F.2.1 hr (fun t ht hW => ⟨⟨_, (a81, la82), rfl, hf, Z.wd E ht hW⟩, Z.fr ht⟩) Z.2.2.2 dL_act_523
  have hf := hf.2 c_79
  by_cases c_83 : r14 = 19
  · have hf := hf.1 c_83
    refine lv_tableIn (tgt := 524) F.1 F.2.1 dL_act_127 (by rw [c_83]; decide) (by rw [c_83]; decide) (by rw [c_83]; rfl) (by decide) ?_
    refine lv_aload_n F.1 F.2.1 dL_act_524 rfl (lv_at hl 1 rfl) ?_
    have hM := k_L_cancel l (D := D) (kk := kk) (ad := ad) (bs := bs) (a := a) (la := la) (b := b) (lb := lb) (lo := lo) hlt hf
    refine ig_calli E Z (ig_runSW (As := [.ref (ad 0)]) (rest := []) F E Z hl GL_105 hM md_L_cancel rfl ⟨rfl, rfl⟩ ⟨Nat.le_of_ble_eq_true rfl, Nat.le_of_ble_eq_true rfl⟩ (Nat.le_of_ble_eq_true rfl) dL_act_525 ⟨(by show _ ≤ 3; omega), (by show _ ≤ 18; omega)⟩) (fun r84 u H locs hf Z => ?_)
    obtain ⟨a85, la86⟩ := u
    have Z : ig_Z D kk ad bs _ H locs a85 la86 b lb lo := Z
    refine W.widen (k := 3) (n := 18) (by omega) (by omega) ?_
    refine W.endD hd0 ?_
    exact W.iret (v := r84) F.1 F.2.1 hr (fun t ht hW => ⟨⟨_, (a85, la86), rfl, hf, Z.wd E ht hW⟩, Z.fr ht⟩) Z.2.2.2 dL_act_528
  have hf := hf.2 c_83
  by_cases c_87 : r14 = 20
  · have hf := hf.1 c_87
    refine lv_tableIn (tgt := 524) F.1 F.2.1 dL_act_127 (by rw [c_87]; decide) (by rw [c_87]; decide) (by rw [c_87]; rfl) (by decide) ?_
    refine lv_aload_n F.1 F.2.1 dL_act_524 rfl (lv_at hl 1 rfl) ?_
    have hM := k_L_cancel l (D := D) (kk := kk) (ad := ad) (bs := bs) (a := a) (la := la) (b := b) (lb := lb) (lo := lo) hlt hf
    refine ig_calli E Z (ig_runSW (As := [.ref (ad 0)]) (rest := []) F E Z hl GL_105 hM md_L_cancel rfl ⟨rfl, rfl⟩ ⟨Nat.le_of_ble_eq_true rfl, Nat.le_of_ble_eq_true rfl⟩ (Nat.le_of_ble_eq_true rfl) dL_act_525 ⟨(by show _ ≤ 3; omega), (by show _ ≤ 18; omega)⟩) (fun r88 u H locs hf Z => ?_)
    obtain ⟨a89, la90⟩ := u
    have Z : ig_Z D kk ad bs _ H locs a89 la90 b lb lo := Z
    refine W.widen (k := 3) (n := 18) (by omega) (by omega) ?_
    refine W.endD hd0 ?_
    exact W.iret (v := r88) F.1 F.2.1 hr (fun t ht hW => ⟨⟨_, (a89, la90), rfl, hf, Z.wd E ht hW⟩, Z.fr ht⟩) Z.2.2.2 dL_act_528
  have hf := hf.2 c_87
  by_cases c_91 : r14 = 21
  · have hf := hf.1 c_91
    refine lv_tableIn (tgt := 529) F.1 F.2.1 dL_act_127 (by rw [c_91]; decide) (by rw [c_91]; decide) (by rw [c_91]; rfl) (by decide) ?_
    refine lv_aload_n F.1 F.2.1 dL_act_529 rfl (lv_at hl 1 rfl) ?_
    refine lv_iload_n F.1 F.2.1 dL_act_530 rfl (lv_at hl 4 rfl) ?_
    refine lv_iload_n F.1 F.2.1 dL_act_531 rfl (lv_at hl 3 rfl) ?_
    refine lv_if_eq (tgt := 540) F.1 F.2.1 dL_act_532 (by decide) (fun c_92 => ?_) (fun c_92 => ?_)
    · have hf := hf.1 c_92
      refine lv_iload_n F.1 F.2.1 dL_act_540 rfl (lv_at hl 2 rfl) ?_
      refine lv_bipush (v := 9) F.1 F.2.1 dL_act_541 (by decide) ?_
      refine lv_ishr F.1 F.2.1 dL_act_543 ?_
      refine lv_iconst (v := 3) F.1 F.2.1 dL_act_544 (by decide) ?_
      have hM := k_L_low l (D := D) (kk := kk) (ad := ad) (bs := bs) (a := a) (la := la) (b := b) (lb := lb) (lo := lo) (x1 >>> (9 &&& 31)) 3 hf
      refine ig_calli E Z (ig_runS (As := [.int (x1 >>> (9 &&& 31)), .int 3]) (rest := [.int x3, .ref (ad 0)]) F E Z hl G_L_76 hM rfl md_L_low rfl ⟨rfl, rfl⟩ ⟨Nat.le_of_ble_eq_true rfl, Nat.le_of_ble_eq_true rfl⟩ (Nat.le_of_ble_eq_true rfl) dL_act_545 ⟨(by show _ ≤ 3; omega), (by show _ ≤ 18; omega)⟩) (fun r93 u H locs hf Z => ?_)
      have Z : ig_Z D kk ad bs _ H locs a la b lb lo := Z
      exact wm_L_act_548 l hlt Fs Es hr hk post a la x1 r93 x3 _ hd0 _ _ _ _ _ (by omega) (by omega) hf Z (lv_sub hl [2] rfl)
    · have hf := hf.2 c_92
      refine lv_iload F.1 F.2.1 dL_act_535 (lv_at hl 0 rfl) ?_
      refine lv_goto (tgt := 548) F.1 F.2.1 dL_act_537 (by decide) ?_
      exact wm_L_act_548 l hlt Fs Es hr hk post a la x1 t0 x3 _ hd0 _ _ _ _ _ (by omega) (by omega) hf Z (lv_sub hl [2] rfl)
  have hf := hf.2 c_91
  by_cases c_94 : r14 = 22
  · have hf := hf.1 c_94
    refine lv_tableIn (tgt := 568) F.1 F.2.1 dL_act_127 (by rw [c_94]; decide) (by rw [c_94]; decide) (by rw [c_94]; rfl) (by decide) ?_
    refine lv_aload_n F.1 F.2.1 dL_act_568 rfl (lv_at hl 1 rfl) ?_
    refine lv_iload_n F.1 F.2.1 dL_act_569 rfl (lv_at hl 4 rfl) ?_
    refine lv_iload_n F.1 F.2.1 dL_act_570 rfl (lv_at hl 2 rfl) ?_
    refine lv_bipush (v := 9) F.1 F.2.1 dL_act_571 (by decide) ?_
    refine lv_ishr F.1 F.2.1 dL_act_573 ?_
    refine lv_iconst (v := 3) F.1 F.2.1 dL_act_574 (by decide) ?_
    have hM := k_L_low l (D := D) (kk := kk) (ad := ad) (bs := bs) (a := a) (la := la) (b := b) (lb := lb) (lo := lo) (x1 >>> (9 &&& 31)) 3 hf
    refine ig_calli E Z (ig_runS (As := [.int (x1 >>> (9 &&& 31)), .int 3]) (rest := [.int x3, .ref (ad 0)]) F E Z hl G_L_76 hM rfl md_L_low rfl ⟨rfl, rfl⟩ ⟨Nat.le_of_ble_eq_true rfl, Nat.le_of_ble_eq_true rfl⟩ (Nat.le_of_ble_eq_true rfl) dL_act_575 ⟨(by show _ ≤ 3; omega), (by show _ ≤ 18; omega)⟩) (fun r95 u H locs hf Z => ?_)
    have Z : ig_Z D kk ad bs _ H locs a la b lb lo := Z
    refine lv_iconst (v := 0) F.1 F.2.1 dL_act_578 (by decide) ?_
    have hM := k_L_breaks l (D := D) (kk := kk) (ad := ad) (bs := bs) (a := a) (la := la) (b := b) (lb := lb) (lo := lo) x3 r95 0 hlt hf
    refine ig_calli E Z (ig_runSW (As := [.ref (ad 0), .int x3, .int r95, .int 0]) (rest := []) F E Z hl GL_107 hM md_L_breaks rfl ⟨rfl, rfl⟩ ⟨Nat.le_of_ble_eq_true rfl, Nat.le_of_ble_eq_true rfl⟩ (Nat.le_of_ble_eq_true rfl) dL_act_579 ⟨(by show _ ≤ 3; omega), (by show _ ≤ 18; omega)⟩) (fun r96 u H locs hf Z => ?_)
    obtain ⟨a97, la98⟩ := u
    have Z : ig_Z D kk ad bs _ H locs a97 la98 b lb lo := Z
    refine W.widen (k := 3) (n := 18) (by omega) (by omega) ?_
    refine W.endD hd0 ?_
    exact W.iret (v := r96) F.1 F.2.1 hr (fun t ht hW => ⟨⟨_, (a97, la98), rfl, hf, Z.wd E ht hW⟩, Z.fr ht⟩) Z.2.2.2 dL_act_582
  have hf := hf.2 c_94
  by_cases c_99 : r14 = 23
  · have hf := hf.1 c_99
    refine lv_tableIn (tgt := 583) F.1 F.2.1 dL_act_127 (by rw [c_99]; decide) (by rw [c_99]; decide) (by rw [c_99]; rfl) (by decide) ?_
    refine lv_aload_n F.1 F.2.1 dL_act_583 rfl (lv_at hl 1 rfl) ?_
    refine lv_iload_n F.1 F.2.1 dL_act_584 rfl (lv_at hl 3 rfl) ?_
    refine lv_if_eq (tgt := 593) F.1 F.2.1 dL_act_585 (by decide) (fun c_100 => ?_) (fun c_100 => ?_)
    · have hf := hf.1 c_100
      refine lv_iconst (v := 1) F.1 F.2.1 dL_act_593 (by decide) ?_
      refine lv_iload_n F.1 F.2.1 dL_act_594 rfl (lv_at hl 2 rfl) ?_
      refine lv_bipush (v := 9) F.1 F.2.1 dL_act_595 (by decide) ?_
      refine lv_ishr F.1 F.2.1 dL_act_597 ?_
      refine lv_bipush (v := 20) F.1 F.2.1 dL_act_598 (by decide) ?_
      have hM := k_L_low l (D := D) (kk := kk) (ad := ad) (bs := bs) (a := a) (la := la) (b := b) (lb := lb) (lo := lo) (x1 >>> (9 &&& 31)) 20 hf
      refine ig_calli E Z (ig_runS (As := [.int (x1 >>> (9 &&& 31)), .int 20]) (rest := [.int 1, .ref (ad 0)]) F E Z hl G_L_76 hM rfl md_L_low rfl ⟨rfl, rfl⟩ ⟨Nat.le_of_ble_eq_true rfl, Nat.le_of_ble_eq_true rfl⟩ (Nat.le_of_ble_eq_true rfl) dL_act_600 ⟨(by show _ ≤ 3; omega), (by show _ ≤ 18; omega)⟩) (fun r101 u H locs hf Z => ?_)
      have Z : ig_Z D kk ad bs _ H locs a la b lb lo := Z
      refine lv_iadd F.1 F.2.1 dL_act_603 ?_
      exact wm_L_act_604 l hlt Fs Es hr hk post a la (1 + r101) _ hd0 _ _ _ _ _ (by omega) (by omega) hf Z (lv_sub hl [] rfl)
    · have hf := hf.2 c_100
      refine lv_iload F.1 F.2.1 dL_act_588 (lv_at hl 6 rfl) ?_
      refine lv_goto (tgt := 604) F.1 F.2.1 dL_act_590 (by decide) ?_
      exact wm_L_act_604 l hlt Fs Es hr hk post a la x5 _ hd0 _ _ _ _ _ (by omega) (by omega) hf Z (lv_sub hl [] rfl)
  have hf := hf.2 c_99
  by_cases c_102 : r14 = 24
  · have hf := hf.1 c_102
    refine lv_tableIn (tgt := 583) F.1 F.2.1 dL_act_127 (by rw [c_102]; decide) (by rw [c_102]; decide) (by rw [c_102]; rfl) (by decide) ?_
    refine lv_aload_n F.1 F.2.1 dL_act_583 rfl (lv_at hl 1 rfl) ?_
    refine lv_iload_n F.1 F.2.1 dL_act_584 rfl (lv_at hl 3 rfl) ?_
    refine lv_if_eq (tgt := 593) F.1 F.2.1 dL_act_585 (by decide) (fun c_103 => ?_) (fun c_103 => ?_)
    · have hf := hf.1 c_103
      refine lv_iconst (v := 1) F.1 F.2.1 dL_act_593 (by decide) ?_
      refine lv_iload_n F.1 F.2.1 dL_act_594 rfl (lv_at hl 2 rfl) ?_
      refine lv_bipush (v := 9) F.1 F.2.1 dL_act_595 (by decide) ?_
      refine lv_ishr F.1 F.2.1 dL_act_597 ?_
      refine lv_bipush (v := 20) F.1 F.2.1 dL_act_598 (by decide) ?_
      have hM := k_L_low l (D := D) (kk := kk) (ad := ad) (bs := bs) (a := a) (la := la) (b := b) (lb := lb) (lo := lo) (x1 >>> (9 &&& 31)) 20 hf
      refine ig_calli E Z (ig_runS (As := [.int (x1 >>> (9 &&& 31)), .int 20]) (rest := [.int 1, .ref (ad 0)]) F E Z hl G_L_76 hM rfl md_L_low rfl ⟨rfl, rfl⟩ ⟨Nat.le_of_ble_eq_true rfl, Nat.le_of_ble_eq_true rfl⟩ (Nat.le_of_ble_eq_true rfl) dL_act_600 ⟨(by show _ ≤ 3; omega), (by show _ ≤ 18; omega)⟩) (fun r104 u H locs hf Z => ?_)
      have Z : ig_Z D kk ad bs _ H locs a la b lb lo := Z
      refine lv_iadd F.1 F.2.1 dL_act_603 ?_
      exact wm_L_act_604 l hlt Fs Es hr hk post a la (1 + r104) _ hd0 _ _ _ _ _ (by omega) (by omega) hf Z (lv_sub hl [] rfl)
    · have hf := hf.2 c_103
      refine lv_iload F.1 F.2.1 dL_act_588 (lv_at hl 6 rfl) ?_
      refine lv_goto (tgt := 604) F.1 F.2.1 dL_act_590 (by decide) ?_
      exact wm_L_act_604 l hlt Fs Es hr hk post a la x5 _ hd0 _ _ _ _ _ (by omega) (by omega) hf Z (lv_sub hl [] rfl)
  have hf := hf.2 c_102
  by_cases c_105 : r14 = 25
  · have hf := hf.1 c_105
    refine lv_tableIn (tgt := 583) F.1 F.2.1 dL_act_127 (by rw [c_105]; decide) (by rw [c_105]; decide) (by rw [c_105]; rfl) (by decide) ?_
    refine lv_aload_n F.1 F.2.1 dL_act_583 rfl (lv_at hl 1 rfl) ?_
    refine lv_iload_n F.1 F.2.1 dL_act_584 rfl (lv_at hl 3 rfl) ?_
    refine lv_if_eq (tgt := 593) F.1 F.2.1 dL_act_585 (by decide) (fun c_106 => ?_) (fun c_106 => ?_)
    · have hf := hf.1 c_106
      refine lv_iconst (v := 1) F.1 F.2.1 dL_act_593 (by decide) ?_
      refine lv_iload_n F.1 F.2.1 dL_act_594 rfl (lv_at hl 2 rfl) ?_
      refine lv_bipush (v := 9) F.1 F.2.1 dL_act_595 (by decide) ?_
      refine lv_ishr F.1 F.2.1 dL_act_597 ?_
      refine lv_bipush (v := 20) F.1 F.2.1 dL_act_598 (by decide) ?_
      have hM := k_L_low l (D := D) (kk := kk) (ad := ad) (bs := bs) (a := a) (la := la) (b := b) (lb := lb) (lo := lo) (x1 >>> (9 &&& 31)) 20 hf
      refine ig_calli E Z (ig_runS (As := [.int (x1 >>> (9 &&& 31)), .int 20]) (rest := [.int 1, .ref (ad 0)]) F E Z hl G_L_76 hM rfl md_L_low rfl ⟨rfl, rfl⟩ ⟨Nat.le_of_ble_eq_true rfl, Nat.le_of_ble_eq_true rfl⟩ (Nat.le_of_ble_eq_true rfl) dL_act_600 ⟨(by show _ ≤ 3; omega), (by show _ ≤ 18; omega)⟩) (fun r107 u H locs hf Z => ?_)
      have Z : ig_Z D kk ad bs _ H locs a la b lb lo := Z
      refine lv_iadd F.1 F.2.1 dL_act_603 ?_
      exact wm_L_act_604 l hlt Fs Es hr hk post a la (1 + r107) _ hd0 _ _ _ _ _ (by omega) (by omega) hf Z (lv_sub hl [] rfl)
    · have hf := hf.2 c_106
      refine lv_iload F.1 F.2.1 dL_act_588 (lv_at hl 6 rfl) ?_
      refine lv_goto (tgt := 604) F.1 F.2.1 dL_act_590 (by decide) ?_
      exact wm_L_act_604 l hlt Fs Es hr hk post a la x5 _ hd0 _ _ _ _ _ (by omega) (by omega) hf Z (lv_sub hl [] rfl)
  have hf := hf.2 c_105
  by_cases c_108 : r14 = 26
  · have hf := hf.1 c_108
    refine lv_tableIn (tgt := 583) F.1 F.2.1 dL_act_127 (by rw [c_108]; decide) (by rw [c_108]; decide) (by rw [c_108]; rfl) (by decide) ?_
    refine lv_aload_n F.1 F.2.1 dL_act_583 rfl (lv_at hl 1 rfl) ?_
    refine lv_iload_n F.1 F.2.1 dL_act_584 rfl (lv_at hl 3 rfl) ?_
    refine lv_if_eq (tgt := 593) F.1 F.2.1 dL_act_585 (by decide) (fun c_109 => ?_) (fun c_109 => ?_)
    · have hf := hf.1 c_109
      refine lv_iconst (v := 1) F.1 F.2.1 dL_act_593 (by decide) ?_
      refine lv_iload_n F.1 F.2.1 dL_act_594 rfl (lv_at hl 2 rfl) ?_
      refine lv_bipush (v := 9) F.1 F.2.1 dL_act_595 (by decide) ?_
      refine lv_ishr F.1 F.2.1 dL_act_597 ?_
      refine lv_bipush (v := 20) F.1 F.2.1 dL_act_598 (by decide) ?_
      have hM := k_L_low l (D := D) (kk := kk) (ad := ad) (bs := bs) (a := a) (la := la) (b := b) (lb := lb) (lo := lo) (x1 >>> (9 &&& 31)) 20 hf
      refine ig_calli E Z (ig_runS (As := [.int (x1 >>> (9 &&& 31)), .int 20]) (rest := [.int 1, .ref (ad 0)]) F E Z hl G_L_76 hM rfl md_L_low rfl ⟨rfl, rfl⟩ ⟨Nat.le_of_ble_eq_true rfl, Nat.le_of_ble_eq_true rfl⟩ (Nat.le_of_ble_eq_true rfl) dL_act_600 ⟨(by show _ ≤ 3; omega), (by show _ ≤ 18; omega)⟩) (fun r110 u H locs hf Z => ?_)
      have Z : ig_Z D kk ad bs _ H locs a la b lb lo := Z
      refine lv_iadd F.1 F.2.1 dL_act_603 ?_
      exact wm_L_act_604 l hlt Fs Es hr hk post a la (1 + r110) _ hd0 _ _ _ _ _ (by omega) (by omega) hf Z (lv_sub hl [] rfl)
    · have hf := hf.2 c_109
      refine lv_iload F.1 F.2.1 dL_act_588 (lv_at hl 6 rfl) ?_
      refine lv_goto (tgt := 604) F.1 F.2.1 dL_act_590 (by decide) ?_
      exact wm_L_act_604 l hlt Fs Es hr hk post a la x5 _ hd0 _ _ _ _ _ (by omega) (by omega) hf Z (lv_sub hl [] rfl)
  have hf := hf.2 c_108
  by_cases c_111 : r14 = 27
  · have hf := hf.1 c_111
    refine lv_tableIn (tgt := 583) F.1 F.2.1 dL_act_127 (by rw [c_111]; decide) (by rw [c_111]; decide) (by rw [c_111]; rfl) (by decide) ?_
    refine lv_aload_n F.1 F.2.1 dL_act_583 rfl (lv_at hl 1 rfl) ?_
    refine lv_iload_n F.1 F.2.1 dL_act_584 rfl (lv_at hl 3 rfl) ?_
    refine lv_if_eq (tgt := 593) F.1 F.2.1 dL_act_585 (by decide) (fun c_112 => ?_) (fun c_112 => ?_)
    · have hf := hf.1 c_112
      refine lv_iconst (v := 1) F.1 F.2.1 dL_act_593 (by decide) ?_
      refine lv_iload_n F.1 F.2.1 dL_act_594 rfl (lv_at hl 2 rfl) ?_
      refine lv_bipush (v := 9) F.1 F.2.1 dL_act_595 (by decide) ?_
      refine lv_ishr F.1 F.2.1 dL_act_597 ?_
      refine lv_bipush (v := 20) F.1 F.2.1 dL_act_598 (by decide) ?_
      have hM := k_L_low l (D := D) (kk := kk) (ad := ad) (bs := bs) (a := a) (la := la) (b := b) (lb := lb) (lo := lo) (x1 >>> (9 &&& 31)) 20 hf
      refine ig_calli E Z (ig_runS (As := [.int (x1 >>> (9 &&& 31)), .int 20]) (rest := [.int 1, .ref (ad 0)]) F E Z hl G_L_76 hM rfl md_L_low rfl ⟨rfl, rfl⟩ ⟨Nat.le_of_ble_eq_true rfl, Nat.le_of_ble_eq_true rfl⟩ (Nat.le_of_ble_eq_true rfl) dL_act_600 ⟨(by show _ ≤ 3; omega), (by show _ ≤ 18; omega)⟩) (fun r113 u H locs hf Z => ?_)
      have Z : ig_Z D kk ad bs _ H locs a la b lb lo := Z
      refine lv_iadd F.1 F.2.1 dL_act_603 ?_
      exact wm_L_act_604 l hlt Fs Es hr hk post a la (1 + r113) _ hd0 _ _ _ _ _ (by omega) (by omega) hf Z (lv_sub hl [] rfl)
    · have hf := hf.2 c_112
      refine lv_iload F.1 F.2.1 dL_act_588 (lv_at hl 6 rfl) ?_
      refine lv_goto (tgt := 604) F.1 F.2.1 dL_act_590 (by decide) ?_
      exact wm_L_act_604 l hlt Fs Es hr hk post a la x5 _ hd0 _ _ _ _ _ (by omega) (by omega) hf Z (lv_sub hl [] rfl)
  have hf := hf.2 c_111
  by_cases c_114 : r14 = 28
  · have hf := hf.1 c_114
    refine lv_tableIn (tgt := 583) F.1 F.2.1 dL_act_127 (by rw [c_114]; decide) (by rw [c_114]; decide) (by rw [c_114]; rfl) (by decide) ?_
    refine lv_aload_n F.1 F.2.1 dL_act_583 rfl (lv_at hl 1 rfl) ?_
    refine lv_iload_n F.1 F.2.1 dL_act_584 rfl (lv_at hl 3 rfl) ?_
    refine lv_if_eq (tgt := 593) F.1 F.2.1 dL_act_585 (by decide) (fun c_115 => ?_) (fun c_115 => ?_)
    · have hf := hf.1 c_115
      refine lv_iconst (v := 1) F.1 F.2.1 dL_act_593 (by decide) ?_
      refine lv_iload_n F.1 F.2.1 dL_act_594 rfl (lv_at hl 2 rfl) ?_
      refine lv_bipush (v := 9) F.1 F.2.1 dL_act_595 (by decide) ?_
      refine lv_ishr F.1 F.2.1 dL_act_597 ?_
      refine lv_bipush (v := 20) F.1 F.2.1 dL_act_598 (by decide) ?_
      have hM := k_L_low l (D := D) (kk := kk) (ad := ad) (bs := bs) (a := a) (la := la) (b := b) (lb := lb) (lo := lo) (x1 >>> (9 &&& 31)) 20 hf
      refine ig_calli E Z (ig_runS (As := [.int (x1 >>> (9 &&& 31)), .int 20]) (rest := [.int 1, .ref (ad 0)]) F E Z hl G_L_76 hM rfl md_L_low rfl ⟨rfl, rfl⟩ ⟨Nat.le_of_ble_eq_true rfl, Nat.le_of_ble_eq_true rfl⟩ (Nat.le_of_ble_eq_true rfl) dL_act_600 ⟨(by show _ ≤ 3; omega), (by show _ ≤ 18; omega)⟩) (fun r116 u H locs hf Z => ?_)
      have Z : ig_Z D kk ad bs _ H locs a la b lb lo := Z
      refine lv_iadd F.1 F.2.1 dL_act_603 ?_
      exact wm_L_act_604 l hlt Fs Es hr hk post a la (1 + r116) _ hd0 _ _ _ _ _ (by omega) (by omega) hf Z (lv_sub hl [] rfl)
    · have hf := hf.2 c_115
      refine lv_iload F.1 F.2.1 dL_act_588 (lv_at hl 6 rfl) ?_
      refine lv_goto (tgt := 604) F.1 F.2.1 dL_act_590 (by decide) ?_
      exact wm_L_act_604 l hlt Fs Es hr hk post a la x5 _ hd0 _ _ _ _ _ (by omega) (by omega) hf Z (lv_sub hl [] rfl)
  have hf := hf.2 c_114
  by_cases c_117 : r14 = 29
  · have hf := hf.1 c_117
    refine lv_tableIn (tgt := 583) F.1 F.2.1 dL_act_127 (by rw [c_117]; decide) (by rw [c_117]; decide) (by rw [c_117]; rfl) (by decide) ?_
    refine lv_aload_n F.1 F.2.1 dL_act_583 rfl (lv_at hl 1 rfl) ?_
    refine lv_iload_n F.1 F.2.1 dL_act_584 rfl (lv_at hl 3 rfl) ?_
    refine lv_if_eq (tgt := 593) F.1 F.2.1 dL_act_585 (by decide) (fun c_118 => ?_) (fun c_118 => ?_)
    · have hf := hf.1 c_118
      refine lv_iconst (v := 1) F.1 F.2.1 dL_act_593 (by decide) ?_
      refine lv_iload_n F.1 F.2.1 dL_act_594 rfl (lv_at hl 2 rfl) ?_
      refine lv_bipush (v := 9) F.1 F.2.1 dL_act_595 (by decide) ?_
      refine lv_ishr F.1 F.2.1 dL_act_597 ?_
      refine lv_bipush (v := 20) F.1 F.2.1 dL_act_598 (by decide) ?_
      have hM := k_L_low l (D := D) (kk := kk) (ad := ad) (bs := bs) (a := a) (la := la) (b := b) (lb := lb) (lo := lo) (x1 >>> (9 &&& 31)) 20 hf
      refine ig_calli E Z (ig_runS (As := [.int (x1 >>> (9 &&& 31)), .int 20]) (rest := [.int 1, .ref (ad 0)]) F E Z hl G_L_76 hM rfl md_L_low rfl ⟨rfl, rfl⟩ ⟨Nat.le_of_ble_eq_true rfl, Nat.le_of_ble_eq_true rfl⟩ (Nat.le_of_ble_eq_true rfl) dL_act_600 ⟨(by show _ ≤ 3; omega), (by show _ ≤ 18; omega)⟩) (fun r119 u H locs hf Z => ?_)
      have Z : ig_Z D kk ad bs _ H locs a la b lb lo := Z
      refine lv_iadd F.1 F.2.1 dL_act_603 ?_
      exact wm_L_act_604 l hlt Fs Es hr hk post a la (1 + r119) _ hd0 _ _ _ _ _ (by omega) (by omega) hf Z (lv_sub hl [] rfl)
    · have hf := hf.2 c_118
      refine lv_iload F.1 F.2.1 dL_act_588 (lv_at hl 6 rfl) ?_
      refine lv_goto (tgt := 604) F.1 F.2.1 dL_act_590 (by decide) ?_
      exact wm_L_act_604 l hlt Fs Es hr hk post a la x5 _ hd0 _ _ _ _ _ (by omega) (by omega) hf Z (lv_sub hl [] rfl)
  have hf := hf.2 c_117
  by_cases c_120 : r14 = 30
  · have hf := hf.1 c_120
    refine lv_tableIn (tgt := 583) F.1 F.2.1 dL_act_127 (by rw [c_120]; decide) (by rw [c_120]; decide) (by rw [c_120]; rfl) (by decide) ?_
    refine lv_aload_n F.1 F.2.1 dL_act_583 rfl (lv_at hl 1 rfl) ?_
    refine lv_iload_n F.1 F.2.1 dL_act_584 rfl (lv_at hl 3 rfl) ?_
    refine lv_if_eq (tgt := 593) F.1 F.2.1 dL_act_585 (by decide) (fun c_121 => ?_) (fun c_121 => ?_)
    · have hf := hf.1 c_121
      refine lv_iconst (v := 1) F.1 F.2.1 dL_act_593 (by decide) ?_
      refine lv_iload_n F.1 F.2.1 dL_act_594 rfl (lv_at hl 2 rfl) ?_
      refine lv_bipush (v := 9) F.1 F.2.1 dL_act_595 (by decide) ?_
      refine lv_ishr F.1 F.2.1 dL_act_597 ?_
      refine lv_bipush (v := 20) F.1 F.2.1 dL_act_598 (by decide) ?_
      have hM := k_L_low l (D := D) (kk := kk) (ad := ad) (bs := bs) (a := a) (la := la) (b := b) (lb := lb) (lo := lo) (x1 >>> (9 &&& 31)) 20 hf
      refine ig_calli E Z (ig_runS (As := [.int (x1 >>> (9 &&& 31)), .int 20]) (rest := [.int 1, .ref (ad 0)]) F E Z hl G_L_76 hM rfl md_L_low rfl ⟨rfl, rfl⟩ ⟨Nat.le_of_ble_eq_true rfl, Nat.le_of_ble_eq_true rfl⟩ (Nat.le_of_ble_eq_true rfl) dL_act_600 ⟨(by show _ ≤ 3; omega), (by show _ ≤ 18; omega)⟩) (fun r122 u H locs hf Z => ?_)
      have Z : ig_Z D kk ad bs _ H locs a la b lb lo := Z
      refine lv_iadd F.1 F.2.1 dL_act_603 ?_
      exact wm_L_act_604 l hlt Fs Es hr hk post a la (1 + r122) _ hd0 _ _ _ _ _ (by omega) (by omega) hf Z (lv_sub hl [] rfl)
    · have hf := hf.2 c_121
      refine lv_iload F.1 F.2.1 dL_act_588 (lv_at hl 6 rfl) ?_
      refine lv_goto (tgt := 604) F.1 F.2.1 dL_act_590 (by decide) ?_
      exact wm_L_act_604 l hlt Fs Es hr hk post a la x5 _ hd0 _ _ _ _ _ (by omega) (by omega) hf Z (lv_sub hl [] rfl)
  have hf := hf.2 c_120
  by_cases c_123 : r14 = 31
  · have hf := hf.1 c_123
    refine lv_tableIn (tgt := 583) F.1 F.2.1 dL_act_127 (by rw [c_123]; decide) (by rw [c_123]; decide) (by rw [c_123]; rfl) (by decide) ?_
    refine lv_aload_n F.1 F.2.1 dL_act_583 rfl (lv_at hl 1 rfl) ?_
    refine lv_iload_n F.1 F.2.1 dL_act_584 rfl (lv_at hl 3 rfl) ?_
    refine lv_if_eq (tgt := 593) F.1 F.2.1 dL_act_585 (by decide) (fun c_124 => ?_) (fun c_124 => ?_)
    · have hf := hf.1 c_124
      refine lv_iconst (v := 1) F.1 F.2.1 dL_act_593 (by decide) ?_
      refine lv_iload_n F.1 F.2.1 dL_act_594 rfl (lv_at hl 2 rfl) ?_
      refine lv_bipush (v := 9) F.1 F.2.1 dL_act_595 (by decide) ?_
      refine lv_ishr F.1 F.2.1 dL_act_597 ?_
      refine lv_bipush (v := 20) F.1 F.2.1 dL_act_598 (by decide) ?_
      have hM := k_L_low l (D := D) (kk := kk) (ad := ad) (bs := bs) (a := a) (la := la) (b := b) (lb := lb) (lo := lo) (x1 >>> (9 &&& 31)) 20 hf
      refine ig_calli E Z (ig_runS (As := [.int (x1 >>> (9 &&& 31)), .int 20]) (rest := [.int 1, .ref (ad 0)]) F E Z hl G_L_76 hM rfl md_L_low rfl ⟨rfl, rfl⟩ ⟨Nat.le_of_ble_eq_true rfl, Nat.le_of_ble_eq_true rfl⟩ (Nat.le_of_ble_eq_true rfl) dL_act_600 ⟨(by show _ ≤ 3; omega), (by show _ ≤ 18; omega)⟩) (fun r125 u H locs hf Z => ?_)
      have Z : ig_Z D kk ad bs _ H locs a la b lb lo := Z
      refine lv_iadd F.1 F.2.1 dL_act_603 ?_
      exact wm_L_act_604 l hlt Fs Es hr hk post a la (1 + r125) _ hd0 _ _ _ _ _ (by omega) (by omega) hf Z (lv_sub hl [] rfl)
    · have hf := hf.2 c_124
      refine lv_iload F.1 F.2.1 dL_act_588 (lv_at hl 6 rfl) ?_
      refine lv_goto (tgt := 604) F.1 F.2.1 dL_act_590 (by decide) ?_
      exact wm_L_act_604 l hlt Fs Es hr hk post a la x5 _ hd0 _ _ _ _ _ (by omega) (by omega) hf Z (lv_sub hl [] rfl)
  have hf := hf.2 c_123
  by_cases c_126 : r14 = 32
  · have hf := hf.1 c_126
    refine lv_tableIn (tgt := 583) F.1 F.2.1 dL_act_127 (by rw [c_126]; decide) (by rw [c_126]; decide) (by rw [c_126]; rfl) (by decide) ?_
    refine lv_aload_n F.1 F.2.1 dL_act_583 rfl (lv_at hl 1 rfl) ?_
    refine lv_iload_n F.1 F.2.1 dL_act_584 rfl (lv_at hl 3 rfl) ?_
    refine lv_if_eq (tgt := 593) F.1 F.2.1 dL_act_585 (by decide) (fun c_127 => ?_) (fun c_127 => ?_)
    · have hf := hf.1 c_127
      refine lv_iconst (v := 1) F.1 F.2.1 dL_act_593 (by decide) ?_
      refine lv_iload_n F.1 F.2.1 dL_act_594 rfl (lv_at hl 2 rfl) ?_
      refine lv_bipush (v := 9) F.1 F.2.1 dL_act_595 (by decide) ?_
      refine lv_ishr F.1 F.2.1 dL_act_597 ?_
      refine lv_bipush (v := 20) F.1 F.2.1 dL_act_598 (by decide) ?_
      have hM := k_L_low l (D := D) (kk := kk) (ad := ad) (bs := bs) (a := a) (la := la) (b := b) (lb := lb) (lo := lo) (x1 >>> (9 &&& 31)) 20 hf
      refine ig_calli E Z (ig_runS (As := [.int (x1 >>> (9 &&& 31)), .int 20]) (rest := [.int 1, .ref (ad 0)]) F E Z hl G_L_76 hM rfl md_L_low rfl ⟨rfl, rfl⟩ ⟨Nat.le_of_ble_eq_true rfl, Nat.le_of_ble_eq_true rfl⟩ (Nat.le_of_ble_eq_true rfl) dL_act_600 ⟨(by show _ ≤ 3; omega), (by show _ ≤ 18; omega)⟩) (fun r128 u H locs hf Z => ?_)
      have Z : ig_Z D kk ad bs _ H locs a la b lb lo := Z
      refine lv_iadd F.1 F.2.1 dL_act_603 ?_
      exact wm_L_act_604 l hlt Fs Es hr hk post a la (1 + r128) _ hd0 _ _ _ _ _ (by omega) (by omega) hf Z (lv_sub hl [] rfl)
    · have hf := hf.2 c_127
      refine lv_iload F.1 F.2.1 dL_act_588 (lv_at hl 6 rfl) ?_
      refine lv_goto (tgt := 604) F.1 F.2.1 dL_act_590 (by decide) ?_
      exact wm_L_act_604 l hlt Fs Es hr hk post a la x5 _ hd0 _ _ _ _ _ (by omega) (by omega) hf Z (lv_sub hl [] rfl)
  have hf := hf.2 c_126
  by_cases c_129 : r14 = 33
  · have hf := hf.1 c_129
    refine lv_tableIn (tgt := 608) F.1 F.2.1 dL_act_127 (by rw [c_129]; decide) (by rw [c_129]; decide) (by rw [c_129]; rfl) (by decide) ?_
    refine lv_aload_n F.1 F.2.1 dL_act_608 rfl (lv_at hl 1 rfl) ?_
    refine lv_iload_n F.1 F.2.1 dL_act_609 rfl (lv_at hl 4 rfl) ?_
    refine lv_iload_n F.1 F.2.1 dL_act_610 rfl (lv_at hl 3 rfl) ?_
    refine lv_if_eq (tgt := 619) F.1 F.2.1 dL_act_611 (by decide) (fun c_130 => ?_) (fun c_130 => ?_)
    · have hf := hf.1 c_130
      refine lv_iload_n F.1 F.2.1 dL_act_619 rfl (lv_at hl 2 rfl) ?_
      refine lv_bipush (v := 9) F.1 F.2.1 dL_act_620 (by decide) ?_
      refine lv_ishr F.1 F.2.1 dL_act_622 ?_
      refine lv_iconst (v := 1) F.1 F.2.1 dL_act_623 (by decide) ?_
      refine lv_aload_n F.1 F.2.1 dL_act_624 rfl (lv_at hl 1 rfl) ?_
      refine lv_iconst (v := 2) F.1 F.2.1 dL_act_625 (by decide) ?_
      have hM := k_X5_of l (D := D) (kk := kk) (ad := ad) (bs := bs) (a := a) (la := la) (b := b) (lb := lb) (lo := lo) 2 hlt hf
      refine ig_callXi E Z (ig_runVX (As := [.int 2]) (rest := [.int 1, .int (x1 >>> (9 &&& 31)), .int x3, .ref (ad 0)]) F E Z hl G_L_64 hM (i := 0) (by decide) (ig_k_0 _ _ _ _ _ _) rfl rfl md_X5_of rfl ⟨rfl, rfl⟩ ⟨Nat.le_of_ble_eq_true rfl, Nat.le_of_ble_eq_true rfl⟩ (Nat.le_of_ble_eq_true rfl) dL_act_626 ⟨(by show _ ≤ 3; omega), (by show _ ≤ 18; omega)⟩) (fun u q9 ce H locs hu Z hce hcv hcl => hu.elim) (fun r131 u H locs hf Z => ?_)
      have Z : ig_Z D kk ad bs _ H locs a la b lb lo := Z
      refine lv_iadd F.1 F.2.1 dL_act_629 ?_
      have hM := k_L_low l (D := D) (kk := kk) (ad := ad) (bs := bs) (a := a) (la := la) (b := b) (lb := lb) (lo := lo) (x1 >>> (9 &&& 31)) (1 + r131) hf
      refine ig_calli E Z (ig_runS (As := [.int (x1 >>> (9 &&& 31)), .int (1 + r131)]) (rest := [.int x3, .ref (ad 0)]) F E Z hl G_L_76 hM rfl md_L_low rfl ⟨rfl, rfl⟩ ⟨Nat.le_of_ble_eq_true rfl, Nat.le_of_ble_eq_true rfl⟩ (Nat.le_of_ble_eq_true rfl) dL_act_630 ⟨(by show _ ≤ 3; omega), (by show _ ≤ 18; omega)⟩) (fun r132 u H locs hf Z => ?_)
      have Z : ig_Z D kk ad bs _ H locs a la b lb lo := Z
      exact wm_L_act_633 l hlt Fs Es hr hk post a la r132 x3 _ hd0 _ _ _ _ _ (by omega) (by omega) hf Z (lv_sub hl [] rfl)
    · have hf := hf.2 c_130
      refine lv_iload F.1 F.2.1 dL_act_614 (lv_at hl 6 rfl) ?_
      refine lv_goto (tgt := 633) F.1 F.2.1 dL_act_616 (by decide) ?_
      exact wm_L_act_633 l hlt Fs Es hr hk post a la x5 x3 _ hd0 _ _ _ _ _ (by omega) (by omega) hf Z (lv_sub hl [] rfl)
  have hf := hf.2 c_129
  by_cases c_133 : r14 = 34
  · have hf := hf.1 c_133
    refine lv_tableIn (tgt := 637) F.1 F.2.1 dL_act_127 (by rw [c_133]; decide) (by rw [c_133]; decide) (by rw [c_133]; rfl) (by decide) ?_
    refine lv_aload_n F.1 F.2.1 dL_act_637 rfl (lv_at hl 1 rfl) ?_
    refine lv_iload_n F.1 F.2.1 dL_act_638 rfl (lv_at hl 4 rfl) ?_
    refine lv_iload_n F.1 F.2.1 dL_act_639 rfl (lv_at hl 3 rfl) ?_
    refine lv_if_eq (tgt := 648) F.1 F.2.1 dL_act_640 (by decide) (fun c_134 => ?_) (fun c_134 => ?_)
    · have hf := hf.1 c_134
      refine lv_iload_n F.1 F.2.1 dL_act_648 rfl (lv_at hl 2 rfl) ?_
      refine lv_bipush (v := 9) F.1 F.2.1 dL_act_649 (by decide) ?_
      refine lv_ishr F.1 F.2.1 dL_act_651 ?_
      refine lv_bipush (v := 7) F.1 F.2.1 dL_act_652 (by decide) ?_
      have hM := k_L_low l (D := D) (kk := kk) (ad := ad) (bs := bs) (a := a) (la := la) (b := b) (lb := lb) (lo := lo) (x1 >>> (9 &&& 31)) 7 hf
      refine ig_calli E Z (ig_runS (As := [.int (x1 >>> (9 &&& 31)), .int 7]) (rest := [.int x3, .ref (ad 0)]) F E Z hl G_L_76 hM rfl md_L_low rfl ⟨rfl, rfl⟩ ⟨Nat.le_of_ble_eq_true rfl, Nat.le_of_ble_eq_true rfl⟩ (Nat.le_of_ble_eq_true rfl) dL_act_654 ⟨(by show _ ≤ 3; omega), (by show _ ≤ 18; omega)⟩) (fun r135 u H locs hf Z => ?_)
      have Z : ig_Z D kk ad bs _ H locs a la b lb lo := Z
      exact wm_L_act_657 l hlt Fs Es hr hk post a la r135 x3 _ hd0 _ _ _ _ _ (by omega) (by omega) hf Z (lv_sub hl [] rfl)
    · have hf := hf.2 c_134
      refine lv_iload F.1 F.2.1 dL_act_643 (lv_at hl 6 rfl) ?_
      refine lv_goto (tgt := 657) F.1 F.2.1 dL_act_645 (by decide) ?_
      exact wm_L_act_657 l hlt Fs Es hr hk post a la x5 x3 _ hd0 _ _ _ _ _ (by omega) (by omega) hf Z (lv_sub hl [] rfl)
  have hf := hf.2 c_133
  by_cases c_136 : r14 = 35
  · have hf := hf.1 c_136
    refine lv_tableIn (tgt := 637) F.1 F.2.1 dL_act_127 (by rw [c_136]; decide) (by rw [c_136]; decide) (by rw [c_136]; rfl) (by decide) ?_
    refine lv_aload_n F.1 F.2.1 dL_act_637 rfl (lv_at hl 1 rfl) ?_
    refine lv_iload_n F.1 F.2.1 dL_act_638 rfl (lv_at hl 4 rfl) ?_
    refine lv_iload_n F.1 F.2.1 dL_act_639 rfl (lv_at hl 3 rfl) ?_
    refine lv_if_eq (tgt := 648) F.1 F.2.1 dL_act_640 (by decide) (fun c_137 => ?_) (fun c_137 => ?_)
    · have hf := hf.1 c_137
      refine lv_iload_n F.1 F.2.1 dL_act_648 rfl (lv_at hl 2 rfl) ?_
      refine lv_bipush (v := 9) F.1 F.2.1 dL_act_649 (by decide) ?_
      refine lv_ishr F.1 F.2.1 dL_act_651 ?_
      refine lv_bipush (v := 7) F.1 F.2.1 dL_act_652 (by decide) ?_
      have hM := k_L_low l (D := D) (kk := kk) (ad := ad) (bs := bs) (a := a) (la := la) (b := b) (lb := lb) (lo := lo) (x1 >>> (9 &&& 31)) 7 hf
      refine ig_calli E Z (ig_runS (As := [.int (x1 >>> (9 &&& 31)), .int 7]) (rest := [.int x3, .ref (ad 0)]) F E Z hl G_L_76 hM rfl md_L_low rfl ⟨rfl, rfl⟩ ⟨Nat.le_of_ble_eq_true rfl, Nat.le_of_ble_eq_true rfl⟩ (Nat.le_of_ble_eq_true rfl) dL_act_654 ⟨(by show _ ≤ 3; omega), (by show _ ≤ 18; omega)⟩) (fun r138 u H locs hf Z => ?_)
      have Z : ig_Z D kk ad bs _ H locs a la b lb lo := Z
      exact wm_L_act_657 l hlt Fs Es hr hk post a la r138 x3 _ hd0 _ _ _ _ _ (by omega) (by omega) hf Z (lv_sub hl [] rfl)
    · have hf := hf.2 c_137
      refine lv_iload F.1 F.2.1 dL_act_643 (lv_at hl 6 rfl) ?_
      refine lv_goto (tgt := 657) F.1 F.2.1 dL_act_645 (by decide) ?_
      exact wm_L_act_657 l hlt Fs Es hr hk post a la x5 x3 _ hd0 _ _ _ _ _ (by omega) (by omega) hf Z (lv_sub hl [] rfl)
  have hf := hf.2 c_136
  by_cases c_139 : r14 = 36
  · have hf := hf.1 c_139
    refine lv_tableIn (tgt := 661) F.1 F.2.1 dL_act_127 (by rw [c_139]; decide) (by rw [c_139]; decide) (by rw [c_139]; rfl) (by decide) ?_
    refine lv_aload_n F.1 F.2.1 dL_act_661 rfl (lv_at hl 1 rfl) ?_
    refine lv_iload_n F.1 F.2.1 dL_act_662 rfl (lv_at hl 3 rfl) ?_
    refine lv_if_eq (tgt := 671) F.1 F.2.1 dL_act_663 (by decide) (fun c_140 => ?_) (fun c_140 => ?_)
    · have hf := hf.1 c_140
      refine lv_iload_n F.1 F.2.1 dL_act_671 rfl (lv_at hl 2 rfl) ?_
      refine lv_bipush (v := 9) F.1 F.2.1 dL_act_672 (by decide) ?_
      refine lv_ishr F.1 F.2.1 dL_act_674 ?_
      refine lv_iconst (v := 5) F.1 F.2.1 dL_act_675 (by decide) ?_
      have hM := k_L_low l (D := D) (kk := kk) (ad := ad) (bs := bs) (a := a) (la := la) (b := b) (lb := lb) (lo := lo) (x1 >>> (9 &&& 31)) 5 hf
      refine ig_calli E Z (ig_runS (As := [.int (x1 >>> (9 &&& 31)), .int 5]) (rest := [.ref (ad 0)]) F E Z hl G_L_76 hM rfl md_L_low rfl ⟨rfl, rfl⟩ ⟨Nat.le_of_ble_eq_true rfl, Nat.le_of_ble_eq_true rfl⟩ (Nat.le_of_ble_eq_true rfl) dL_act_676 ⟨(by show _ ≤ 3; omega), (by show _ ≤ 18; omega)⟩) (fun r141 u H locs hf Z => ?_)
      have Z : ig_Z D kk ad bs _ H locs a la b lb lo := Z
      exact wm_L_act_679 l hlt Fs Es hr hk post a la r141 _ hd0 _ _ _ _ _ (by omega) (by omega) hf Z (lv_sub hl [] rfl)
    · have hf := hf.2 c_140
      refine lv_iload F.1 F.2.1 dL_act_666 (lv_at hl 6 rfl) ?_
      refine lv_goto (tgt := 679) F.1 F.2.1 dL_act_668 (by decide) ?_
      exact wm_L_act_679 l hlt Fs Es hr hk post a la x5 _ hd0 _ _ _ _ _ (by omega) (by omega) hf Z (lv_sub hl [] rfl)
  have hf := hf.2 c_139
  by_cases c_142 : r14 = 37
  · have hf := hf.1 c_142
    refine lv_tableIn (tgt := 661) F.1 F.2.1 dL_act_127 (by rw [c_142]; decide) (by rw [c_142]; decide) (by rw [c_142]; rfl) (by decide) ?_
    refine lv_aload_n F.1 F.2.1 dL_act_661 rfl (lv_at hl 1 rfl) ?_
    refine lv_iload_n F.1 F.2.1 dL_act_662 rfl (lv_at hl 3 rfl) ?_
    refine lv_if_eq (tgt := 671) F.1 F.2.1 dL_act_663 (by decide) (fun c_143 => ?_) (fun c_143 => ?_)
    · have hf := hf.1 c_143
      refine lv_iload_n F.1 F.2.1 dL_act_671 rfl (lv_at hl 2 rfl) ?_
      refine lv_bipush (v := 9) F.1 F.2.1 dL_act_672 (by decide) ?_
      refine lv_ishr F.1 F.2.1 dL_act_674 ?_
      refine lv_iconst (v := 5) F.1 F.2.1 dL_act_675 (by decide) ?_
      have hM := k_L_low l (D := D) (kk := kk) (ad := ad) (bs := bs) (a := a) (la := la) (b := b) (lb := lb) (lo := lo) (x1 >>> (9 &&& 31)) 5 hf
      refine ig_calli E Z (ig_runS (As := [.int (x1 >>> (9 &&& 31)), .int 5]) (rest := [.ref (ad 0)]) F E Z hl G_L_76 hM rfl md_L_low rfl ⟨rfl, rfl⟩ ⟨Nat.le_of_ble_eq_true rfl, Nat.le_of_ble_eq_true rfl⟩ (Nat.le_of_ble_eq_true rfl) dL_act_676 ⟨(by show _ ≤ 3; omega), (by show _ ≤ 18; omega)⟩) (fun r144 u H locs hf Z => ?_)
      have Z : ig_Z D kk ad bs _ H locs a la b lb lo := Z
      exact wm_L_act_679 l hlt Fs Es hr hk post a la r144 _ hd0 _ _ _ _ _ (by omega) (by omega) hf Z (lv_sub hl [] rfl)
    · have hf := hf.2 c_143
      refine lv_iload F.1 F.2.1 dL_act_666 (lv_at hl 6 rfl) ?_
      refine lv_goto (tgt := 679) F.1 F.2.1 dL_act_668 (by decide) ?_
      exact wm_L_act_679 l hlt Fs Es hr hk post a la x5 _ hd0 _ _ _ _ _ (by omega) (by omega) hf Z (lv_sub hl [] rfl)
  have hf := hf.2 c_142
  by_cases c_145 : r14 = 38
  · have hf := hf.1 c_145
    refine lv_tableIn (tgt := 683) F.1 F.2.1 dL_act_127 (by rw [c_145]; decide) (by rw [c_145]; decide) (by rw [c_145]; rfl) (by decide) ?_
    refine lv_aload_n F.1 F.2.1 dL_act_683 rfl (lv_at hl 1 rfl) ?_
    have hM := k_X5_delay l (D := D) (kk := kk) (ad := ad) (bs := bs) (a := a) (la := la) (b := b) (lb := lb) (lo := lo) hf
    refine ig_calll E Z (ig_runV (As := []) (rest := []) F E Z hl G_L_118 hM (i := 0) (by decide) (ig_k_0 _ _ _ _ _ _) rfl rfl md_X5_delay rfl ⟨rfl, rfl⟩ ⟨Nat.le_of_ble_eq_true rfl, Nat.le_of_ble_eq_true rfl⟩ (Nat.le_of_ble_eq_true rfl) dL_act_684 ⟨(by show _ ≤ 3; omega), (by show _ ≤ 18; omega)⟩) (fun r146 u H locs hf Z => ?_)
    have Z : ig_Z D kk ad bs _ H locs a la b lb lo := Z
    refine lv_l2i F.1 F.2.1 dL_act_687 rfl ?_
    refine lv_ldcf (v := 1120403456) F.1 F.2.1 F.2.2.2.1 (F.2.2.2.2 _ mw_433) dL_act_688 ?_
    refine lv_aload_n F.1 F.2.1 dL_act_690 rfl (lv_at hl 1 rfl) ?_
    have hM := k_X5_delayEach l (D := D) (kk := kk) (ad := ad) (bs := bs) (a := a) (la := la) (b := b) (lb := lb) (lo := lo) hf
    refine ig_callfD hd0 Z (ig_runVD (As := []) (rest := [.float ((1120403456 : UInt32)), .int r146.toInt32]) F E Z hl G_L_123 hM (i := 0) (by decide) (ig_k_0 _ _ _ _ _ _) rfl rfl md_X5_delayEach rfl ⟨rfl, rfl⟩ ⟨Nat.le_of_ble_eq_true rfl, Nat.le_of_ble_eq_true rfl⟩ (Nat.le_of_ble_eq_true rfl) dL_act_691 ⟨(by show _ ≤ 3; omega), (by show _ ≤ 18; omega)⟩) (fun r147 u H locs hf Z d147 hd147 => ?_)
    have Z : ig_Z D kk ad bs _ H locs a la b lb lo := Z
    have F := ig_Fd Fs d147
    have E := ig_Ed Es d147
    have Z := ig_Zd Z d147
    refine lv_fmul_any hd147 lw_bits F.1 F.2.1 dL_act_694 (fun r148 d148 hal148 hd148 => ?_)
    have hf := hf r148 hal148
    have F := ig_Fd Fs d148
    have E := ig_Ed Es d148
    have Z := ig_Zd Z d148
    refine lv_f2i F.1 F.2.1 dL_act_695 ?_
    refine lv_iadd F.1 F.2.1 dL_act_696 ?_
    refine W.widen (k := 3) (n := 18) (by omega) (by omega) ?_
    refine W.endD hd148 ?_
    exact W.iret (v := r146.toInt32 + (FP.f2i r148)) F.1 F.2.1 hr (fun t ht hW => ⟨⟨_, (a, la), rfl, hf, Z.wd E ht hW⟩, Z.fr ht⟩) Z.2.2.2 dL_act_697
  have hf := hf.2 c_145
  by_cases c_149 : r14 = 39
  · have hf := hf.1 c_149
    refine lv_tableIn (tgt := 698) F.1 F.2.1 dL_act_127 (by rw [c_149]; decide) (by rw [c_149]; decide) (by rw [c_149]; rfl) (by decide) ?_
    refine lv_aload_n F.1 F.2.1 dL_act_698 rfl (lv_at hl 1 rfl) ?_
    refine lv_iload_n F.1 F.2.1 dL_act_699 rfl (lv_at hl 4 rfl) ?_
    refine lv_iload F.1 F.2.1 dL_act_700 (lv_at hl 5 rfl) ?_
    have hM := k_L_seen l (D := D) (kk := kk) (ad := ad) (bs := bs) (a := a) (la := la) (b := b) (lb := lb) (lo := lo) x3 x4 hlt hf
    refine ig_calli E Z (ig_runSW (As := [.ref (ad 0), .int x3, .int x4]) (rest := []) F E Z hl GL_127 hM md_L_seen rfl ⟨rfl, rfl⟩ ⟨Nat.le_of_ble_eq_true rfl, Nat.le_of_ble_eq_true rfl⟩ (Nat.le_of_ble_eq_true rfl) dL_act_702 ⟨(by show _ ≤ 3; omega), (by show _ ≤ 18; omega)⟩) (fun r150 u H locs hf Z => ?_)
    obtain ⟨a151, la152⟩ := u
    have Z : ig_Z D kk ad bs _ H locs a151 la152 b lb lo := Z
    refine W.widen (k := 3) (n := 18) (by omega) (by omega) ?_
    refine W.endD hd0 ?_
    exact W.iret (v := r150) F.1 F.2.1 hr (fun t ht hW => ⟨⟨_, (a151, la152), rfl, hf, Z.wd E ht hW⟩, Z.fr ht⟩) Z.2.2.2 dL_act_705
  have hf := hf.2 c_149
  by_cases c_153 : r14 = 40
  · have hf := hf.1 c_153
    refine lv_tableIn (tgt := 706) F.1 F.2.1 dL_act_127 (by rw [c_153]; decide) (by rw [c_153]; decide) (by rw [c_153]; rfl) (by decide) ?_
    refine lv_aload_n F.1 F.2.1 dL_act_706 rfl (lv_at hl 1 rfl) ?_
    refine lv_iload_n F.1 F.2.1 dL_act_707 rfl (lv_at hl 3 rfl) ?_
    refine lv_if_eq (tgt := 716) F.1 F.2.1 dL_act_708 (by decide) (fun c_154 => ?_) (fun c_154 => ?_)
    · have hf := hf.1 c_154
      refine lv_iload_n F.1 F.2.1 dL_act_716 rfl (lv_at hl 2 rfl) ?_
      refine lv_bipush (v := 9) F.1 F.2.1 dL_act_717 (by decide) ?_
      refine lv_ishr F.1 F.2.1 dL_act_719 ?_
      refine lv_iconst (v := 3) F.1 F.2.1 dL_act_720 (by decide) ?_
      have hM := k_L_low l (D := D) (kk := kk) (ad := ad) (bs := bs) (a := a) (la := la) (b := b) (lb := lb) (lo := lo) (x1 >>> (9 &&& 31)) 3 hf
      refine ig_calli E Z (ig_runS (As := [.int (x1 >>> (9 &&& 31)), .int 3]) (rest := [.ref (ad 0)]) F E Z hl G_L_76 hM rfl md_L_low rfl ⟨rfl, rfl⟩ ⟨Nat.le_of_ble_eq_true rfl, Nat.le_of_ble_eq_true rfl⟩ (Nat.le_of_ble_eq_true rfl) dL_act_721 ⟨(by show _ ≤ 3; omega), (by show _ ≤ 18; omega)⟩) (fun r155 u H locs hf Z => ?_)
      have Z : ig_Z D kk ad bs _ H locs a la b lb lo := Z
      exact wm_L_act_724 l hlt Fs Es hr hk post a la x1 r155 _ hd0 _ _ _ _ _ (by omega) (by omega) hf Z (lv_sub hl [2] rfl)
    · have hf := hf.2 c_154
      refine lv_iload F.1 F.2.1 dL_act_711 (lv_at hl 0 rfl) ?_
      refine lv_goto (tgt := 724) F.1 F.2.1 dL_act_713 (by decide) ?_
      exact wm_L_act_724 l hlt Fs Es hr hk post a la x1 t0 _ hd0 _ _ _ _ _ (by omega) (by omega) hf Z (lv_sub hl [2] rfl)
  have hf := hf.2 c_153
  by_cases c_156 : r14 = 41
  · have hf := hf.1 c_156
    refine lv_tableIn (tgt := 736) F.1 F.2.1 dL_act_127 (by rw [c_156]; decide) (by rw [c_156]; decide) (by rw [c_156]; rfl) (by decide) ?_
    refine lv_aload_n F.1 F.2.1 dL_act_736 rfl (lv_at hl 1 rfl) ?_
    have hM := k_X5_round l (D := D) (kk := kk) (ad := ad) (bs := bs) (a := a) (la := la) (b := b) (lb := lb) (lo := lo) hf
    refine ig_calli E Z (ig_runV (As := []) (rest := []) F E Z hl G_L_131 hM (i := 0) (by decide) (ig_k_0 _ _ _ _ _ _) rfl rfl md_X5_round rfl ⟨rfl, rfl⟩ ⟨Nat.le_of_ble_eq_true rfl, Nat.le_of_ble_eq_true rfl⟩ (Nat.le_of_ble_eq_true rfl) dL_act_737 ⟨(by show _ ≤ 3; omega), (by show _ ≤ 18; omega)⟩) (fun r157 u H locs hf Z => ?_)
    obtain ⟨a158, la159⟩ := u
    have Z : ig_Z D kk ad bs _ H locs a158 la159 b lb lo := Z
    refine W.widen (k := 3) (n := 18) (by omega) (by omega) ?_
    refine W.endD hd0 ?_
    exact W.iret (v := r157) F.1 F.2.1 hr (fun t ht hW => ⟨⟨_, (a158, la159), rfl, hf, Z.wd E ht hW⟩, Z.fr ht⟩) Z.2.2.2 dL_act_740
  have hf := hf.2 c_156
  by_cases c_160 : r14 = 42
  · have hf := hf.1 c_160
    refine lv_tableIn (tgt := 741) F.1 F.2.1 dL_act_127 (by rw [c_160]; decide) (by rw [c_160]; decide) (by rw [c_160]; rfl) (by decide) ?_
    refine lv_aload_n F.1 F.2.1 dL_act_741 rfl (lv_at hl 1 rfl) ?_
    refine lv_iload_n F.1 F.2.1 dL_act_742 rfl (lv_at hl 3 rfl) ?_
    refine lv_if_eq (tgt := 751) F.1 F.2.1 dL_act_743 (by decide) (fun c_161 => ?_) (fun c_161 => ?_)
    · have hf := hf.1 c_161
      refine lv_iload_n F.1 F.2.1 dL_act_751 rfl (lv_at hl 2 rfl) ?_
      refine lv_bipush (v := 9) F.1 F.2.1 dL_act_752 (by decide) ?_
      refine lv_ishr F.1 F.2.1 dL_act_754 ?_
      refine lv_iconst (v := 4) F.1 F.2.1 dL_act_755 (by decide) ?_
      have hM := k_L_low l (D := D) (kk := kk) (ad := ad) (bs := bs) (a := a) (la := la) (b := b) (lb := lb) (lo := lo) (x1 >>> (9 &&& 31)) 4 hf
      refine ig_calli E Z (ig_runS (As := [.int (x1 >>> (9 &&& 31)), .int 4]) (rest := [.ref (ad 0)]) F E Z hl G_L_76 hM rfl md_L_low rfl ⟨rfl, rfl⟩ ⟨Nat.le_of_ble_eq_true rfl, Nat.le_of_ble_eq_true rfl⟩ (Nat.le_of_ble_eq_true rfl) dL_act_756 ⟨(by show _ ≤ 3; omega), (by show _ ≤ 18; omega)⟩) (fun r162 u H locs hf Z => ?_)
      have Z : ig_Z D kk ad bs _ H locs a la b lb lo := Z
      exact wm_L_act_759 l hlt Fs Es hr hk post a la r162 _ hd0 _ _ _ _ _ (by omega) (by omega) hf Z (lv_sub hl [] rfl)
    · have hf := hf.2 c_161
      refine lv_iload F.1 F.2.1 dL_act_746 (lv_at hl 6 rfl) ?_
      refine lv_goto (tgt := 759) F.1 F.2.1 dL_act_748 (by decide) ?_
      exact wm_L_act_759 l hlt Fs Es hr hk post a la x5 _ hd0 _ _ _ _ _ (by omega) (by omega) hf Z (lv_sub hl [] rfl)
  have hf := hf.2 c_160
  refine lv_tableOut (tgt := 763) F.1 F.2.1 dL_act_127 (ig_swout r14 0 42 (by decide) (by decide) (fun k h1 h2 => ?_)) (by decide) ?_
  · rcases (show k = 0 ∨ k = 1 ∨ k = 2 ∨ k = 3 ∨ k = 4 ∨ k = 5 ∨ k = 6 ∨ k = 7 ∨ k = 8 ∨ k = 9 ∨ k = 10 ∨ k = 11 ∨ k = 12 ∨ k = 13 ∨ k = 14 ∨ k = 15 ∨ k = 16 ∨ k = 17 ∨ k = 18 ∨ k = 19 ∨ k = 20 ∨ k = 21 ∨ k = 22 ∨ k = 23 ∨ k = 24 ∨ k = 25 ∨ k = 26 ∨ k = 27 ∨ k = 28 ∨ k = 29 ∨ k = 30 ∨ k = 31 ∨ k = 32 ∨ k = 33 ∨ k = 34 ∨ k = 35 ∨ k = 36 ∨ k = 37 ∨ k = 38 ∨ k = 39 ∨ k = 40 ∨ k = 41 ∨ k = 42 by omega) with rfl | rfl | rfl | rfl | rfl | rfl | rfl | rfl | rfl | rfl | rfl | rfl | rfl | rfl | rfl | rfl | rfl | rfl | rfl | rfl | rfl | rfl | rfl | rfl | rfl | rfl | rfl | rfl | rfl | rfl | rfl | rfl | rfl | rfl | rfl | rfl | rfl | rfl | rfl | rfl | rfl | rfl | rfl
    · exact c_15
    · exact c_18
    · exact c_21
    · exact c_24
    · exact c_27
    · exact c_30
    · exact c_33
    · exact c_36
    · exact c_39
    · exact c_48
    · exact c_52
    · exact c_56
    · exact c_60
    · exact c_63
    · exact c_66
    · exact c_69
    · exact c_72
    · exact c_75
    · exact c_79
    · exact c_83
    · exact c_87
    · exact c_91
    · exact c_94
    · exact c_99
    · exact c_102
    · exact c_105
    · exact c_108
    · exact c_111
    · exact c_114
    · exact c_117
    · exact c_120
    · exact c_123
    · exact c_126
    · exact c_129
    · exact c_133
    · exact c_136
    · exact c_139
    · exact c_142
    · exact c_145
    · exact c_149
    · exact c_153
    · exact c_156
    · exact c_160
  refine lv_aload_n F.1 F.2.1 dL_act_763 rfl (lv_at hl 1 rfl) ?_
  refine lv_iconst (v := 1) F.1 F.2.1 dL_act_764 (by decide) ?_
  have hM := k_L_go l (D := D) (kk := kk) (ad := ad) (bs := bs) (a := a) (la := la) (b := b) (lb := lb) (lo := lo) 1 hlt hf
  refine ig_calli E Z (ig_runSW (As := [.ref (ad 0), .int 1]) (rest := []) F E Z hl GL_110 hM md_L_go rfl ⟨rfl, rfl⟩ ⟨Nat.le_of_ble_eq_true rfl, Nat.le_of_ble_eq_true rfl⟩ (Nat.le_of_ble_eq_true rfl) dL_act_765 ⟨(by show _ ≤ 3; omega), (by show _ ≤ 18; omega)⟩) (fun r163 u H locs hf Z => ?_)
  obtain ⟨a164, la165⟩ := u
  have Z : ig_Z D kk ad bs _ H locs a164 la165 b lb lo := Z
  refine W.widen (k := 3) (n := 18) (by omega) (by omega) ?_
  refine W.endD hd0 ?_
  exact W.iret (v := r163) F.1 F.2.1 hr (fun t ht hW => ⟨⟨_, (a164, la165), rfl, hf, Z.wd E ht hW⟩, Z.fr ht⟩) Z.2.2.2 dL_act_768
set_option maxHeartbeats 4000000 in
set_option maxRecDepth 100000 in
theorem wm_L_act_91 (l : Launch) (hlt : l.stackTraces = false) (Fs : CallFix p m c cL_act 7 s args ig_all RL) (Es : ig_E D kk ad bs s) (hr : meth.sig.returnType = (some .int)) (hk : meth.locks = false) (post : Int32 → ig_M → Int64 → Prop) :
    ∀ (a : ig_M) (la : Int64) (x1 : Int32) (x2 : Int32) (x3 : Int32) (x4 : Int32) (t0 : Int32) (d0 : Drawn) (_ : s.drawn.sameBut d0 lw_cs) (C S : Nat) (H : Heap) (locs : List Loc) (ls : Array Slot) (_ : C + 3 ≤ 3) (_ : S + 18 ≤ 18), wp_L_act_91 post a la x1 x2 x3 x4 t0 → ig_Z D kk ad bs (s.setDrawn d0) H locs a la b lb lo → lv_has ls 7 [(0, .ref (ad 0)), (1, .int x1), (2, .int x2), (3, .int x3), (4, .int x4)] → W p l e ({ frames := 9, cells := 3, slots := 18, locals := 183 } : Room) (s.setDrawn d0) m args below meth c H locs C S (MQD lw_cs below (va_Qi (fun (r : Int32) (u : ig_M × Int64) => post r u.1 u.2) (fun u t => ig_Wd D kk ad bs u.1 u.2 b lb lo t) (ig_A bs)) args s 3 18 (ig_A bs)) (F0 m 91 ls [.int t0]) := by
  intro a la x1 x2 x3 x4 t0 d0 hd0 C S H locs ls hC hS hf Z hl
  have F := ig_Fd Fs d0
  have E := ig_Ed Es d0
  refine lv_istore (lv' := [(5, .int t0), (0, .ref (ad 0)), (1, .int x1), (2, .int x2), (3, .int x3), (4, .int x4)]) F.1 F.2.1 dL_act_91 hl (by decide) rfl (fun ls hl => ?_)
  refine lv_iload_n F.1 F.2.1 dL_act_93 rfl (lv_at hl 3 rfl) ?_
  refine lv_if_eq (tgt := 111) F.1 F.2.1 dL_act_94 (by decide) (fun c_11 => ?_) (fun c_11 => ?_)
  · have hf := hf.1 c_11
    refine lv_iload_n F.1 F.2.1 dL_act_111 rfl (lv_at hl 2 rfl) ?_
    refine lv_bipush (v := 11) F.1 F.2.1 dL_act_112 (by decide) ?_
    refine lv_ishr F.1 F.2.1 dL_act_114 ?_
    refine lv_iconst (v := 3) F.1 F.2.1 dL_act_115 (by decide) ?_
    have hM := k_L_low l (D := D) (kk := kk) (ad := ad) (bs := bs) (a := a) (la := la) (b := b) (lb := lb) (lo := lo) (x1 >>> (11 &&& 31)) 3 hf
    refine ig_calli E Z (ig_runS (As := [.int (x1 >>> (11 &&& 31)), .int 3]) (rest := []) F E Z hl G_L_76 hM rfl md_L_low rfl ⟨rfl, rfl⟩ ⟨Nat.le_of_ble_eq_true rfl, Nat.le_of_ble_eq_true rfl⟩ (Nat.le_of_ble_eq_true rfl) dL_act_116 ⟨(by show _ ≤ 3; omega), (by show _ ≤ 18; omega)⟩) (fun r12 u H locs hf Z => ?_)
    have Z : ig_Z D kk ad bs _ H locs a la b lb lo := Z
    exact wm_L_act_119 l hlt Fs Es hr hk post a la x1 x2 x3 x4 t0 r12 _ hd0 _ _ _ _ _ (by omega) (by omega) hf Z (lv_sub hl [1, 2, 3, 4, 5, 0] rfl)
  · have hf := hf.2 c_11
    refine lv_iload_n F.1 F.2.1 dL_act_97 rfl (lv_at hl 2 rfl) ?_
    refine lv_bipush (v := 11) F.1 F.2.1 dL_act_98 (by decide) ?_
    refine lv_ishr F.1 F.2.1 dL_act_100 ?_
    refine lv_bipush (v := 10) F.1 F.2.1 dL_act_101 (by decide) ?_
    have hM := k_L_low l (D := D) (kk := kk) (ad := ad) (bs := bs) (a := a) (la := la) (b := b) (lb := lb) (lo := lo) (x1 >>> (11 &&& 31)) 10 hf
    refine ig_calli E Z (ig_runS (As := [.int (x1 >>> (11 &&& 31)), .int 10]) (rest := []) F E Z hl G_L_76 hM rfl md_L_low rfl ⟨rfl, rfl⟩ ⟨Nat.le_of_ble_eq_true rfl, Nat.le_of_ble_eq_true rfl⟩ (Nat.le_of_ble_eq_true rfl) dL_act_103 ⟨(by show _ ≤ 3; omega), (by show _ ≤ 18; omega)⟩) (fun r13 u H locs hf Z => ?_)
    have Z : ig_Z D kk ad bs _ H locs a la b lb lo := Z
    refine lv_iconst (v := 2) F.1 F.2.1 dL_act_106 (by decide) ?_
    refine lv_isub F.1 F.2.1 dL_act_107 ?_
    refine lv_goto (tgt := 119) F.1 F.2.1 dL_act_108 (by decide) ?_
    exact wm_L_act_119 l hlt Fs Es hr hk post a la x1 x2 x3 x4 t0 (r13 - 2) _ hd0 _ _ _ _ _ (by omega) (by omega) hf Z (lv_sub hl [1, 2, 3, 4, 5, 0] rfl)
set_option maxHeartbeats 4000000 in
set_option maxRecDepth 100000 in
theorem wm_L_act_69 (l : Launch) (hlt : l.stackTraces = false) (Fs : CallFix p m c cL_act 7 s args ig_all RL) (Es : ig_E D kk ad bs s) (hr : meth.sig.returnType = (some .int)) (hk : meth.locks = false) (post : Int32 → ig_M → Int64 → Prop) :
    ∀ (a : ig_M) (la : Int64) (x1 : Int32) (x2 : Int32) (x3 : Int32) (t0 : Int32) (d0 : Drawn) (_ : s.drawn.sameBut d0 lw_cs) (C S : Nat) (H : Heap) (locs : List Loc) (ls : Array Slot) (_ : C + 3 ≤ 3) (_ : S + 18 ≤ 18), wp_L_act_69 post a la x1 x2 x3 t0 → ig_Z D kk ad bs (s.setDrawn d0) H locs a la b lb lo → lv_has ls 7 [(0, .ref (ad 0)), (1, .int x1), (2, .int x2), (3, .int x3)] → W p l e ({ frames := 9, cells := 3, slots := 18, locals := 183 } : Room) (s.setDrawn d0) m args below meth c H locs C S (MQD lw_cs below (va_Qi (fun (r : Int32) (u : ig_M × Int64) => post r u.1 u.2) (fun u t => ig_Wd D kk ad bs u.1 u.2 b lb lo t) (ig_A bs)) args s 3 18 (ig_A bs)) (F0 m 69 ls [.int t0]) := by
  intro a la x1 x2 x3 t0 d0 hd0 C S H locs ls hC hS hf Z hl
  have F := ig_Fd Fs d0
  have E := ig_Ed Es d0
  refine lv_istore (lv' := [(4, .int t0), (0, .ref (ad 0)), (1, .int x1), (2, .int x2), (3, .int x3)]) F.1 F.2.1 dL_act_69 hl (by decide) rfl (fun ls hl => ?_)
  refine lv_iload_n F.1 F.2.1 dL_act_71 rfl (lv_at hl 3 rfl) ?_
  refine lv_if_eq (tgt := 82) F.1 F.2.1 dL_act_72 (by decide) (fun c_9 => ?_) (fun c_9 => ?_)
  · have hf := hf.1 c_9
    refine lv_iload_n F.1 F.2.1 dL_act_82 rfl (lv_at hl 2 rfl) ?_
    refine lv_bipush (v := 9) F.1 F.2.1 dL_act_83 (by decide) ?_
    refine lv_ishr F.1 F.2.1 dL_act_85 ?_
    refine lv_bipush (v := 30) F.1 F.2.1 dL_act_86 (by decide) ?_
    have hM := k_L_low l (D := D) (kk := kk) (ad := ad) (bs := bs) (a := a) (la := la) (b := b) (lb := lb) (lo := lo) (x1 >>> (9 &&& 31)) 30 hf
    refine ig_calli E Z (ig_runS (As := [.int (x1 >>> (9 &&& 31)), .int 30]) (rest := []) F E Z hl G_L_76 hM rfl md_L_low rfl ⟨rfl, rfl⟩ ⟨Nat.le_of_ble_eq_true rfl, Nat.le_of_ble_eq_true rfl⟩ (Nat.le_of_ble_eq_true rfl) dL_act_88 ⟨(by show _ ≤ 3; omega), (by show _ ≤ 18; omega)⟩) (fun r10 u H locs hf Z => ?_)
    have Z : ig_Z D kk ad bs _ H locs a la b lb lo := Z
    exact wm_L_act_91 l hlt Fs Es hr hk post a la x1 x2 x3 t0 r10 _ hd0 _ _ _ _ _ (by omega) (by omega) hf Z (lv_sub hl [1, 2, 3, 4, 0] rfl)
  · have hf := hf.2 c_9
    refine lv_iload_n F.1 F.2.1 dL_act_75 rfl (lv_at hl 2 rfl) ?_
    refine lv_bipush (v := 9) F.1 F.2.1 dL_act_76 (by decide) ?_
    refine lv_ishr F.1 F.2.1 dL_act_78 ?_
    refine lv_goto (tgt := 91) F.1 F.2.1 dL_act_79 (by decide) ?_
    exact wm_L_act_91 l hlt Fs Es hr hk post a la x1 x2 x3 t0 (x1 >>> (9 &&& 31)) _ hd0 _ _ _ _ _ (by omega) (by omega) hf Z (lv_sub hl [1, 2, 3, 4, 0] rfl)
set_option maxHeartbeats 4000000 in
set_option maxRecDepth 100000 in
theorem wm_L_act_42 (l : Launch) (hlt : l.stackTraces = false) (Fs : CallFix p m c cL_act 7 s args ig_all RL) (Es : ig_E D kk ad bs s) (hr : meth.sig.returnType = (some .int)) (hk : meth.locks = false) (post : Int32 → ig_M → Int64 → Prop) :
    ∀ (a : ig_M) (la : Int64) (x1 : Int32) (x2 : Int32) (t0 : Int32) (d0 : Drawn) (_ : s.drawn.sameBut d0 lw_cs) (C S : Nat) (H : Heap) (locs : List Loc) (ls : Array Slot) (_ : C + 3 ≤ 3) (_ : S + 18 ≤ 18), wp_L_act_42 post a la x1 x2 t0 → ig_Z D kk ad bs (s.setDrawn d0) H locs a la b lb lo → lv_has ls 7 [(0, .ref (ad 0)), (1, .int x1), (2, .int x2)] → W p l e ({ frames := 9, cells := 3, slots := 18, locals := 183 } : Room) (s.setDrawn d0) m args below meth c H locs C S (MQD lw_cs below (va_Qi (fun (r : Int32) (u : ig_M × Int64) => post r u.1 u.2) (fun u t => ig_Wd D kk ad bs u.1 u.2 b lb lo t) (ig_A bs)) args s 3 18 (ig_A bs)) (F0 m 42 ls [.int t0]) := by
  intro a la x1 x2 t0 d0 hd0 C S H locs ls hC hS hf Z hl
  have F := ig_Fd Fs d0
  have E := ig_Ed Es d0
  refine lv_istore_n (lv' := [(3, .int t0), (0, .ref (ad 0)), (1, .int x1), (2, .int x2)]) F.1 F.2.1 dL_act_42 rfl hl (by decide) rfl (fun ls hl => ?_)
  refine lv_iload_n F.1 F.2.1 dL_act_43 rfl (lv_at hl 3 rfl) ?_
  refine lv_if_eq (tgt := 61) F.1 F.2.1 dL_act_44 (by decide) (fun c_6 => ?_) (fun c_6 => ?_)
  · have hf := hf.1 c_6
    refine lv_iload_n F.1 F.2.1 dL_act_61 rfl (lv_at hl 2 rfl) ?_
    refine lv_bipush (v := 7) F.1 F.2.1 dL_act_62 (by decide) ?_
    refine lv_ishr F.1 F.2.1 dL_act_64 ?_
    refine lv_iconst (v := 4) F.1 F.2.1 dL_act_65 (by decide) ?_
    have hM := k_L_low l (D := D) (kk := kk) (ad := ad) (bs := bs) (a := a) (la := la) (b := b) (lb := lb) (lo := lo) (x1 >>> (7 &&& 31)) 4 hf
    refine ig_calli E Z (ig_runS (As := [.int (x1 >>> (7 &&& 31)), .int 4]) (rest := []) F E Z hl G_L_76 hM rfl md_L_low rfl ⟨rfl, rfl⟩ ⟨Nat.le_of_ble_eq_true rfl, Nat.le_of_ble_eq_true rfl⟩ (Nat.le_of_ble_eq_true rfl) dL_act_66 ⟨(by show _ ≤ 3; omega), (by show _ ≤ 18; omega)⟩) (fun r7 u H locs hf Z => ?_)
    have Z : ig_Z D kk ad bs _ H locs a la b lb lo := Z
    exact wm_L_act_69 l hlt Fs Es hr hk post a la x1 x2 t0 r7 _ hd0 _ _ _ _ _ (by omega) (by omega) hf Z (lv_sub hl [1, 2, 3, 0] rfl)
  · have hf := hf.2 c_6
    refine lv_iload_n F.1 F.2.1 dL_act_47 rfl (lv_at hl 2 rfl) ?_
    refine lv_bipush (v := 7) F.1 F.2.1 dL_act_48 (by decide) ?_
    refine lv_ishr F.1 F.2.1 dL_act_50 ?_
    refine lv_bipush (v := 11) F.1 F.2.1 dL_act_51 (by decide) ?_
    have hM := k_L_low l (D := D) (kk := kk) (ad := ad) (bs := bs) (a := a) (la := la) (b := b) (lb := lb) (lo := lo) (x1 >>> (7 &&& 31)) 11 hf
    refine ig_calli E Z (ig_runS (As := [.int (x1 >>> (7 &&& 31)), .int 11]) (rest := []) F E Z hl G_L_76 hM rfl md_L_low rfl ⟨rfl, rfl⟩ ⟨Nat.le_of_ble_eq_true rfl, Nat.le_of_ble_eq_true rfl⟩ (Nat.le_of_ble_eq_true rfl) dL_act_53 ⟨(by show _ ≤ 3; omega), (by show _ ≤ 18; omega)⟩) (fun r8 u H locs hf Z => ?_)
    have Z : ig_Z D kk ad bs _ H locs a la b lb lo := Z
    refine lv_iconst (v := 2) F.1 F.2.1 dL_act_56 (by decide) ?_
    refine lv_isub F.1 F.2.1 dL_act_57 ?_
    refine lv_goto (tgt := 69) F.1 F.2.1 dL_act_58 (by decide) ?_
    exact wm_L_act_69 l hlt Fs Es hr hk post a la x1 x2 t0 (r8 - 2) _ hd0 _ _ _ _ _ (by omega) (by omega) hf Z (lv_sub hl [1, 2, 3, 0] rfl)
set_option maxHeartbeats 4000000 in
set_option maxRecDepth 100000 in
theorem wm_L_act_17 (l : Launch) (hlt : l.stackTraces = false) (Fs : CallFix p m c cL_act 7 s args ig_all RL) (Es : ig_E D kk ad bs s) (hr : meth.sig.returnType = (some .int)) (hk : meth.locks = false) (post : Int32 → ig_M → Int64 → Prop) :
    ∀ (a : ig_M) (la : Int64) (x1 : Int32) (t0 : Int32) (d0 : Drawn) (_ : s.drawn.sameBut d0 lw_cs) (C S : Nat) (H : Heap) (locs : List Loc) (ls : Array Slot) (_ : C + 3 ≤ 3) (_ : S + 18 ≤ 18), wp_L_act_17 post a la x1 t0 → ig_Z D kk ad bs (s.setDrawn d0) H locs a la b lb lo → lv_has ls 7 [(0, .ref (ad 0)), (1, .int x1)] → W p l e ({ frames := 9, cells := 3, slots := 18, locals := 183 } : Room) (s.setDrawn d0) m args below meth c H locs C S (MQD lw_cs below (va_Qi (fun (r : Int32) (u : ig_M × Int64) => post r u.1 u.2) (fun u t => ig_Wd D kk ad bs u.1 u.2 b lb lo t) (ig_A bs)) args s 3 18 (ig_A bs)) (F0 m 17 ls [.int t0]) := by
  intro a la x1 t0 d0 hd0 C S H locs ls hC hS hf Z hl
  have F := ig_Fd Fs d0
  have E := ig_Ed Es d0
  refine lv_istore_n (lv' := [(2, .int t0), (0, .ref (ad 0)), (1, .int x1)]) F.1 F.2.1 dL_act_17 rfl hl (by decide) rfl (fun ls hl => ?_)
  refine lv_iload_n F.1 F.2.1 dL_act_18 rfl (lv_at hl 0 rfl) ?_
  refine lv_if_eq (tgt := 35) F.1 F.2.1 dL_act_19 (by decide) (fun c_3 => ?_) (fun c_3 => ?_)
  · have hf := hf.1 c_3
    refine lv_iload_n F.1 F.2.1 dL_act_35 rfl (lv_at hl 2 rfl) ?_
    refine lv_iconst (v := 4) F.1 F.2.1 dL_act_36 (by decide) ?_
    refine lv_ishr F.1 F.2.1 dL_act_37 ?_
    refine lv_iconst (v := 4) F.1 F.2.1 dL_act_38 (by decide) ?_
    have hM := k_L_low l (D := D) (kk := kk) (ad := ad) (bs := bs) (a := a) (la := la) (b := b) (lb := lb) (lo := lo) (x1 >>> (4 &&& 31)) 4 hf
    refine ig_calli E Z (ig_runS (As := [.int (x1 >>> (4 &&& 31)), .int 4]) (rest := []) F E Z hl G_L_76 hM rfl md_L_low rfl ⟨rfl, rfl⟩ ⟨Nat.le_of_ble_eq_true rfl, Nat.le_of_ble_eq_true rfl⟩ (Nat.le_of_ble_eq_true rfl) dL_act_39 ⟨(by show _ ≤ 3; omega), (by show _ ≤ 18; omega)⟩) (fun r4 u H locs hf Z => ?_)
    have Z : ig_Z D kk ad bs _ H locs a la b lb lo := Z
    exact wm_L_act_42 l hlt Fs Es hr hk post a la x1 t0 r4 _ hd0 _ _ _ _ _ (by omega) (by omega) hf Z (lv_sub hl [1, 2, 0] rfl)
  · have hf := hf.2 c_3
    refine lv_iload_n F.1 F.2.1 dL_act_22 rfl (lv_at hl 2 rfl) ?_
    refine lv_iconst (v := 4) F.1 F.2.1 dL_act_23 (by decide) ?_
    refine lv_ishr F.1 F.2.1 dL_act_24 ?_
    refine lv_bipush (v := 11) F.1 F.2.1 dL_act_25 (by decide) ?_
    have hM := k_L_low l (D := D) (kk := kk) (ad := ad) (bs := bs) (a := a) (la := la) (b := b) (lb := lb) (lo := lo) (x1 >>> (4 &&& 31)) 11 hf
    refine ig_calli E Z (ig_runS (As := [.int (x1 >>> (4 &&& 31)), .int 11]) (rest := []) F E Z hl G_L_76 hM rfl md_L_low rfl ⟨rfl, rfl⟩ ⟨Nat.le_of_ble_eq_true rfl, Nat.le_of_ble_eq_true rfl⟩ (Nat.le_of_ble_eq_true rfl) dL_act_27 ⟨(by show _ ≤ 3; omega), (by show _ ≤ 18; omega)⟩) (fun r5 u H locs hf Z => ?_)
    have Z : ig_Z D kk ad bs _ H locs a la b lb lo := Z
    refine lv_iconst (v := 2) F.1 F.2.1 dL_act_30 (by decide) ?_
    refine lv_isub F.1 F.2.1 dL_act_31 ?_
    refine lv_goto (tgt := 42) F.1 F.2.1 dL_act_32 (by decide) ?_
    exact wm_L_act_42 l hlt Fs Es hr hk post a la x1 t0 (r5 - 2) _ hd0 _ _ _ _ _ (by omega) (by omega) hf Z (lv_sub hl [1, 2, 0] rfl)
set_option maxHeartbeats 4000000 in
set_option maxRecDepth 100000 in
theorem k_L_act (l : Launch) {D : va_G} {kk : Nat → ClassId} {ad : Nat → Nat} {bs : Nat} {a : ig_M} {la : Int64} {b : ig_M} {lb lo : Int64} (x1 : Int32) (hlt : l.stackTraces = false) {post : Int32 → ig_M → Int64 → Prop} (hf : wp_L_act a la x1 post) : MetD lw_cs l yL_act (ig_ws yL_act cL_act 7 (some .int)) ({ frames := 9, cells := 3, slots := 18, locals := 183 } : Room) (va_Pc [.ref (ad 0), .int x1] (ig_Wd D kk ad bs a la b lb lo)) (va_Qi (fun (r : Int32) (u : ig_M × Int64) => post r u.1 u.2) (fun u t => ig_Wd D kk ad bs u.1 u.2 b lb lo t) (ig_A bs)) 3 18 (ig_A bs) := by
  refine MetD.ofW (cc := cL_act) (maxL := 7) (ret := (some .int)) (by decide) rfl ?_
  intro p e s m args below meth c s₁ B hml hv hd0
  obtain ⟨rfl, E, hP⟩ := hv
  have hk := B.notSynchronized
  have hr := B.returns
  have F : CallFix p m c cL_act 7 s _ ig_all RL := ⟨B.exec, B.bytes, hml, findClass_of_methodNamed B.named, fun w hw => atoms_spec B.pre w (List.mem_cons_of_mem _ hw)⟩
  have Z : ig_Z D kk ad bs s s.heap [] a la b lb lo := ig_Z.rf hP
  have hl := lv_entry ([.ref (ad 0), .int x1]) (n := 7) (Nat.le_of_ble_eq_true rfl)
  rw [lg_entry_eq]
  generalize (lg_sl ([.ref (ad 0), .int x1]) ++ List.replicate (7 - (lg_sl ([.ref (ad 0), .int x1])).length) Slot.unset).toArray = ls at hl ⊢
  have hl : lv_has ls 7 [(0, .ref (ad 0)), (1, .int x1)] := hl
  have Fs := F
  have Es := E
  have F := ig_Fd F s.drawn
  have E := ig_Ed E s.drawn
  have Z := ig_Zd Z s.drawn
  refine lv_iload_n F.1 F.2.1 dL_act_0 rfl (lv_at hl 1 rfl) ?_
  refine lv_bipush (v := 26) F.1 F.2.1 dL_act_1 (by decide) ?_
  refine lv_ishr F.1 F.2.1 dL_act_3 ?_
  refine lv_bipush (v := 14) F.1 F.2.1 dL_act_4 (by decide) ?_
  have hM := k_L_low l (D := D) (kk := kk) (ad := ad) (bs := bs) (a := a) (la := la) (b := b) (lb := lb) (lo := lo) (x1 >>> (26 &&& 31)) 14 hf
  refine ig_calli E Z (ig_runS (As := [.int (x1 >>> (26 &&& 31)), .int 14]) (rest := []) F E Z hl G_L_76 hM rfl md_L_low rfl ⟨rfl, rfl⟩ ⟨Nat.le_of_ble_eq_true rfl, Nat.le_of_ble_eq_true rfl⟩ (Nat.le_of_ble_eq_true rfl) dL_act_6 ⟨(by show _ ≤ 3; omega), (by show _ ≤ 18; omega)⟩) (fun r1 u H locs hf Z => ?_)
  have Z : ig_Z D kk ad bs _ H locs a la b lb lo := Z
  refine lv_if_ne (tgt := 16) F.1 F.2.1 dL_act_9 (by decide) (fun c_2 => ?_) (fun c_2 => ?_)
  · have hf := hf.1 c_2
    refine lv_iconst (v := 0) F.1 F.2.1 dL_act_16 (by decide) ?_
    exact wm_L_act_17 l hlt Fs Es hr hk post a la x1 0 _ hd0 _ _ _ _ _ (by omega) (by omega) hf Z (lv_sub hl [0, 1] rfl)
  · have hf := hf.2 c_2
    refine lv_iconst (v := 1) F.1 F.2.1 dL_act_12 (by decide) ?_
    refine lv_goto (tgt := 17) F.1 F.2.1 dL_act_13 (by decide) ?_
    exact wm_L_act_17 l hlt Fs Es hr hk post a la x1 1 _ hd0 _ _ _ _ _ (by omega) (by omega) hf Z (lv_sub hl [0, 1] rfl)
set_option maxHeartbeats 4000000 in
set_option maxRecDepth 100000 in
theorem wm_L_areAlike_32 (l : Launch) (hlt : l.stackTraces = false) (F : CallFix p m c cL_areAlike 5 s args ig_all RL) (E : ig_E D kk ad bs s) (hr : meth.sig.returnType = (some .boolean)) (hk : meth.locks = false) (post : Int32 → ig_M → Int64 → ig_M → Int64 → Prop) :
    ∀ n_32 : Nat, ∀ (a : ig_M) (la : Int64) (b : ig_M) (lb : Int64) (x2 : Int32) (x3 : Int32) (x4 : Int32) (C S : Nat) (H : Heap) (locs : List Loc) (ls : Array Slot) (_ : C + n_32 * 14 + 0 ≤ 140) (_ : S + n_32 * 84 + 0 ≤ 840), wp_L_areAlike_32 post n_32 a la b lb x2 x3 x4 → ig_Z D kk ad bs s H locs a la b lb lo → lv_has ls 5 [(0, .ref (ad 0)), (1, .ref (ad 97)), (2, .int x2), (3, .int x3), (4, .int x4)] → W p l e ({ frames := 9, cells := 140, slots := 840, locals := 183 } : Room) s m args below meth c H locs C S (MQ below (va_Qi (fun (r : Int32) (u : ig_M × Int64 × ig_M × Int64) => post r u.1 u.2.1 u.2.2.1 u.2.2.2) (fun u t => ig_Wd D kk ad bs u.1 u.2.1 u.2.2.1 u.2.2.2 lo t) (ig_A bs)) args s 140 840 (ig_A bs)) (F0 m 32 ls []) := by
  intro n
  induction n with
  | zero => intro a la b lb x2 x3 x4 C S H locs ls hC hS hf Z hl; exact False.elim hf
  | succ n ih =>
    intro a la b lb x2 x3 x4 C S H locs ls hC hS hf Z hl
    refine lv_iload F.1 F.2.1 dL_areAlike_32 (lv_at hl 4 rfl) ?_
    refine lv_bipush (v := 8) F.1 F.2.1 dL_areAlike_34 (by decide) ?_
    refine lv_icmp_ge (tgt := 137) F.1 F.2.1 dL_areAlike_36 (by decide) (fun c_11 => ?_) (fun c_11 => ?_)
    · have hf := hf.1 c_11
      refine lv_iload_n F.1 F.2.1 dL_areAlike_137 rfl (lv_at hl 3 rfl) ?_
      refine W.widen (k := 140) (n := 840) (by omega) (by omega) ?_
      exact W.zret (v := x3) F.1 F.2.1 hr (ig_narrow hf.1) (fun t ht hW => ⟨⟨_, (a, la, b, lb), rfl, hf.2, Z.wd E ht hW⟩, Z.fr ht⟩) Z.2.2.2 dL_areAlike_138
    · have hf := hf.2 c_11
      refine lv_iload_n F.1 F.2.1 dL_areAlike_39 rfl (lv_at hl 3 rfl) ?_
      refine lv_if_eq (tgt := 137) F.1 F.2.1 dL_areAlike_40 (by decide) (fun c_12 => ?_) (fun c_12 => ?_)
      · have hf := hf.1 c_12
        refine lv_iload_n F.1 F.2.1 dL_areAlike_137 rfl (lv_at hl 3 rfl) ?_
        refine W.widen (k := 140) (n := 840) (by omega) (by omega) ?_
        exact W.zret (v := x3) F.1 F.2.1 hr (ig_narrow hf.1) (fun t ht hW => ⟨⟨_, (a, la, b, lb), rfl, hf.2, Z.wd E ht hW⟩, Z.fr ht⟩) Z.2.2.2 dL_areAlike_138
      · have hf := hf.2 c_12
        refine lv_aload_n F.1 F.2.1 dL_areAlike_43 rfl (lv_at hl 0 rfl) ?_
        refine lv_iload F.1 F.2.1 dL_areAlike_44 (lv_at hl 4 rfl) ?_
        have hM := k_L_of l (D := D) (kk := kk) (ad := ad) (bs := bs) (a := a) (la := la) (b := b) (lb := lb) (lo := lo) x4 hlt hf
        refine ig_calli E Z (ig_runSW (As := [.ref (ad 0), .int x4]) (rest := []) F E Z hl GL_116 hM md_L_of rfl ⟨rfl, rfl⟩ ⟨Nat.le_of_ble_eq_true rfl, Nat.le_of_ble_eq_true rfl⟩ (Nat.le_of_ble_eq_true rfl) dL_areAlike_46 ⟨(by show _ ≤ 140; omega), (by show _ ≤ 840; omega)⟩) (fun r13 u H locs hf Z => ?_)
        obtain ⟨a14, la15⟩ := u
        have Z : ig_Z D kk ad bs _ H locs a14 la15 b lb lo := Z
        refine lv_aload_n F.1 F.2.1 dL_areAlike_49 rfl (lv_at hl 1 rfl) ?_
        refine lv_iload F.1 F.2.1 dL_areAlike_50 (lv_at hl 4 rfl) ?_
        have hM := k_L_of l (D := D) (kk := kk) (ad := (ig_sa ad)) (bs := bs) (a := b) (la := lb) (b := a14) (lb := la15) (lo := lo) x4 hlt hf
        refine ig_calli (ig_Es E) (ig_Zs Z) (ig_runSW (As := [.ref ((ig_sa ad) 0), .int x4]) (rest := [.int r13]) F (ig_Es E) (ig_Zs Z) hl GL_116 hM md_L_of rfl ⟨rfl, rfl⟩ ⟨Nat.le_of_ble_eq_true rfl, Nat.le_of_ble_eq_true rfl⟩ (Nat.le_of_ble_eq_true rfl) dL_areAlike_52 ⟨(by show _ ≤ 140; omega), (by show _ ≤ 840; omega)⟩) (fun r16 u H locs hf Z => ?_)
        obtain ⟨b17, lb18⟩ := u
        have Z : ig_Z D kk (ig_sa ad) bs _ H locs b17 lb18 a14 la15 lo := Z
        have Z := ig_Zb Z
        refine lv_icmp_ne (tgt := 129) F.1 F.2.1 dL_areAlike_55 (by decide) (fun c_19 => ?_) (fun c_19 => ?_)
        · have hf := hf.1 c_19
          refine lv_iconst (v := 0) F.1 F.2.1 dL_areAlike_129 (by decide) ?_
          refine lv_istore_n (lv' := [(3, .int 0), (0, .ref (ad 0)), (1, .ref (ad 97)), (2, .int x2), (4, .int x4)]) F.1 F.2.1 dL_areAlike_130 rfl hl (by decide) rfl (fun ls hl => ?_)
          refine lv_iinc (v := x4 + 1) (lv' := [(4, .int (x4 + 1)), (3, .int 0), (0, .ref (ad 0)), (1, .ref (ad 97)), (2, .int x2)]) F.1 F.2.1 dL_areAlike_131 hl (k := 4) rfl (by rfl) (by decide) rfl (fun ls hl => ?_)
          refine lv_goto (tgt := 32) F.1 F.2.1 dL_areAlike_134 (by decide) ?_
          exact ih a14 la15 b17 lb18 x2 0 (x4 + 1) _ _ _ _ _ (by omega) (by omega) hf Z (lv_sub hl [2, 3, 4, 1, 0] rfl)
        · have hf := hf.2 c_19
          refine lv_aload_n F.1 F.2.1 dL_areAlike_58 rfl (lv_at hl 0 rfl) ?_
          refine lv_iload F.1 F.2.1 dL_areAlike_59 (lv_at hl 4 rfl) ?_
          refine lv_iload_n F.1 F.2.1 dL_areAlike_61 rfl (lv_at hl 2 rfl) ?_
          refine lv_bipush (v := 7) F.1 F.2.1 dL_areAlike_62 (by decide) ?_
          have hM := k_L_low l (D := D) (kk := kk) (ad := ad) (bs := bs) (a := a14) (la := la15) (b := b17) (lb := lb18) (lo := lo) x2 7 hf
          refine ig_calli E Z (ig_runS (As := [.int x2, .int 7]) (rest := [.int x4, .ref (ad 0)]) F E Z hl G_L_76 hM rfl md_L_low rfl ⟨rfl, rfl⟩ ⟨Nat.le_of_ble_eq_true rfl, Nat.le_of_ble_eq_true rfl⟩ (Nat.le_of_ble_eq_true rfl) dL_areAlike_64 ⟨(by show _ ≤ 140; omega), (by show _ ≤ 840; omega)⟩) (fun r20 u H locs hf Z => ?_)
          have Z : ig_Z D kk ad bs _ H locs a14 la15 b17 lb18 lo := Z
          have hM := k_L_ofPhase l (D := D) (kk := kk) (ad := ad) (bs := bs) (a := a14) (la := la15) (b := b17) (lb := lb18) (lo := lo) x4 r20 hlt hf
          refine ig_calli E Z (ig_runSW (As := [.ref (ad 0), .int x4, .int r20]) (rest := []) F E Z hl GL_114 hM md_L_ofPhase rfl ⟨rfl, rfl⟩ ⟨Nat.le_of_ble_eq_true rfl, Nat.le_of_ble_eq_true rfl⟩ (Nat.le_of_ble_eq_true rfl) dL_areAlike_67 ⟨(by show _ ≤ 140; omega), (by show _ ≤ 840; omega)⟩) (fun r21 u H locs hf Z => ?_)
          obtain ⟨a22, la23⟩ := u
          have Z : ig_Z D kk ad bs _ H locs a22 la23 b17 lb18 lo := Z
          refine lv_aload_n F.1 F.2.1 dL_areAlike_70 rfl (lv_at hl 1 rfl) ?_
          refine lv_iload F.1 F.2.1 dL_areAlike_71 (lv_at hl 4 rfl) ?_
          refine lv_iload_n F.1 F.2.1 dL_areAlike_73 rfl (lv_at hl 2 rfl) ?_
          refine lv_bipush (v := 7) F.1 F.2.1 dL_areAlike_74 (by decide) ?_
          have hM := k_L_low l (D := D) (kk := kk) (ad := ad) (bs := bs) (a := a22) (la := la23) (b := b17) (lb := lb18) (lo := lo) x2 7 hf
          refine ig_calli E Z (ig_runS (As := [.int x2, .int 7]) (rest := [.int x4, .ref (ad 97), .int r21]) F E Z hl G_L_76 hM rfl md_L_low rfl ⟨rfl, rfl⟩ ⟨Nat.le_of_ble_eq_true rfl, Nat.le_of_ble_eq_true rfl⟩ (Nat.le_of_ble_eq_true rfl) dL_areAlike_76 ⟨(by show _ ≤ 140; omega), (by show _ ≤ 840; omega)⟩) (fun r24 u H locs hf Z => ?_)
          have Z : ig_Z D kk ad bs _ H locs a22 la23 b17 lb18 lo := Z
          have hM := k_L_ofPhase l (D := D) (kk := kk) (ad := (ig_sa ad)) (bs := bs) (a := b17) (la := lb18) (b := a22) (lb := la23) (lo := lo) x4 r24 hlt hf
          refine ig_calli (ig_Es E) (ig_Zs Z) (ig_runSW (As := [.ref ((ig_sa ad) 0), .int x4, .int r24]) (rest := [.int r21]) F (ig_Es E) (ig_Zs Z) hl GL_114 hM md_L_ofPhase rfl ⟨rfl, rfl⟩ ⟨Nat.le_of_ble_eq_true rfl, Nat.le_of_ble_eq_true rfl⟩ (Nat.le_of_ble_eq_true rfl) dL_areAlike_79 ⟨(by show _ ≤ 140; omega), (by show _ ≤ 840; omega)⟩) (fun r25 u H locs hf Z => ?_)
          obtain ⟨b26, lb27⟩ := u
          have Z : ig_Z D kk (ig_sa ad) bs _ H locs b26 lb27 a22 la23 lo := Z
          have Z := ig_Zb Z
          refine lv_icmp_ne (tgt := 129) F.1 F.2.1 dL_areAlike_82 (by decide) (fun c_28 => ?_) (fun c_28 => ?_)
          · have hf := hf.1 c_28
            refine lv_iconst (v := 0) F.1 F.2.1 dL_areAlike_129 (by decide) ?_
            refine lv_istore_n (lv' := [(3, .int 0), (0, .ref (ad 0)), (1, .ref (ad 97)), (2, .int x2), (4, .int x4)]) F.1 F.2.1 dL_areAlike_130 rfl hl (by decide) rfl (fun ls hl => ?_)
            refine lv_iinc (v := x4 + 1) (lv' := [(4, .int (x4 + 1)), (3, .int 0), (0, .ref (ad 0)), (1, .ref (ad 97)), (2, .int x2)]) F.1 F.2.1 dL_areAlike_131 hl (k := 4) rfl (by rfl) (by decide) rfl (fun ls hl => ?_)
            refine lv_goto (tgt := 32) F.1 F.2.1 dL_areAlike_134 (by decide) ?_
            exact ih a22 la23 b26 lb27 x2 0 (x4 + 1) _ _ _ _ _ (by omega) (by omega) hf Z (lv_sub hl [2, 3, 4, 1, 0] rfl)
          · have hf := hf.2 c_28
            refine lv_aload_n F.1 F.2.1 dL_areAlike_85 rfl (lv_at hl 0 rfl) ?_
            refine lv_iload F.1 F.2.1 dL_areAlike_86 (lv_at hl 4 rfl) ?_
            refine lv_iload_n F.1 F.2.1 dL_areAlike_88 rfl (lv_at hl 2 rfl) ?_
            refine lv_iconst (v := 4) F.1 F.2.1 dL_areAlike_89 (by decide) ?_
            have hM := k_L_low l (D := D) (kk := kk) (ad := ad) (bs := bs) (a := a22) (la := la23) (b := b26) (lb := lb27) (lo := lo) x2 4 hf
            refine ig_calli E Z (ig_runS (As := [.int x2, .int 4]) (rest := [.int x4, .ref (ad 0)]) F E Z hl G_L_76 hM rfl md_L_low rfl ⟨rfl, rfl⟩ ⟨Nat.le_of_ble_eq_true rfl, Nat.le_of_ble_eq_true rfl⟩ (Nat.le_of_ble_eq_true rfl) dL_areAlike_90 ⟨(by show _ ≤ 140; omega), (by show _ ≤ 840; omega)⟩) (fun r29 u H locs hf Z => ?_)
            have Z : ig_Z D kk ad bs _ H locs a22 la23 b26 lb27 lo := Z
            have hM := k_L_seen l (D := D) (kk := kk) (ad := ad) (bs := bs) (a := a22) (la := la23) (b := b26) (lb := lb27) (lo := lo) x4 r29 hlt hf
            refine ig_calli E Z (ig_runSW (As := [.ref (ad 0), .int x4, .int r29]) (rest := []) F E Z hl GL_127 hM md_L_seen rfl ⟨rfl, rfl⟩ ⟨Nat.le_of_ble_eq_true rfl, Nat.le_of_ble_eq_true rfl⟩ (Nat.le_of_ble_eq_true rfl) dL_areAlike_93 ⟨(by show _ ≤ 140; omega), (by show _ ≤ 840; omega)⟩) (fun r30 u H locs hf Z => ?_)
            obtain ⟨a31, la32⟩ := u
            have Z : ig_Z D kk ad bs _ H locs a31 la32 b26 lb27 lo := Z
            refine lv_aload_n F.1 F.2.1 dL_areAlike_96 rfl (lv_at hl 1 rfl) ?_
            refine lv_iload F.1 F.2.1 dL_areAlike_97 (lv_at hl 4 rfl) ?_
            refine lv_iload_n F.1 F.2.1 dL_areAlike_99 rfl (lv_at hl 2 rfl) ?_
            refine lv_iconst (v := 4) F.1 F.2.1 dL_areAlike_100 (by decide) ?_
            have hM := k_L_low l (D := D) (kk := kk) (ad := ad) (bs := bs) (a := a31) (la := la32) (b := b26) (lb := lb27) (lo := lo) x2 4 hf
            refine ig_calli E Z (ig_runS (As := [.int x2, .int 4]) (rest := [.int x4, .ref (ad 97), .int r30]) F E Z hl G_L_76 hM rfl md_L_low rfl ⟨rfl, rfl⟩ ⟨Nat.le_of_ble_eq_true rfl, Nat.le_of_ble_eq_true rfl⟩ (Nat.le_of_ble_eq_true rfl) dL_areAlike_101 ⟨(by show _ ≤ 140; omega), (by show _ ≤ 840; omega)⟩) (fun r33 u H locs hf Z => ?_)
            have Z : ig_Z D kk ad bs _ H locs a31 la32 b26 lb27 lo := Z
            have hM := k_L_seen l (D := D) (kk := kk) (ad := (ig_sa ad)) (bs := bs) (a := b26) (la := lb27) (b := a31) (lb := la32) (lo := lo) x4 r33 hlt hf
            refine ig_calli (ig_Es E) (ig_Zs Z) (ig_runSW (As := [.ref ((ig_sa ad) 0), .int x4, .int r33]) (rest := [.int r30]) F (ig_Es E) (ig_Zs Z) hl GL_127 hM md_L_seen rfl ⟨rfl, rfl⟩ ⟨Nat.le_of_ble_eq_true rfl, Nat.le_of_ble_eq_true rfl⟩ (Nat.le_of_ble_eq_true rfl) dL_areAlike_104 ⟨(by show _ ≤ 140; omega), (by show _ ≤ 840; omega)⟩) (fun r34 u H locs hf Z => ?_)
            obtain ⟨b35, lb36⟩ := u
            have Z : ig_Z D kk (ig_sa ad) bs _ H locs b35 lb36 a31 la32 lo := Z
            have Z := ig_Zb Z
            refine lv_icmp_ne (tgt := 129) F.1 F.2.1 dL_areAlike_107 (by decide) (fun c_37 => ?_) (fun c_37 => ?_)
            · have hf := hf.1 c_37
              refine lv_iconst (v := 0) F.1 F.2.1 dL_areAlike_129 (by decide) ?_
              refine lv_istore_n (lv' := [(3, .int 0), (0, .ref (ad 0)), (1, .ref (ad 97)), (2, .int x2), (4, .int x4)]) F.1 F.2.1 dL_areAlike_130 rfl hl (by decide) rfl (fun ls hl => ?_)
              refine lv_iinc (v := x4 + 1) (lv' := [(4, .int (x4 + 1)), (3, .int 0), (0, .ref (ad 0)), (1, .ref (ad 97)), (2, .int x2)]) F.1 F.2.1 dL_areAlike_131 hl (k := 4) rfl (by rfl) (by decide) rfl (fun ls hl => ?_)
              refine lv_goto (tgt := 32) F.1 F.2.1 dL_areAlike_134 (by decide) ?_
              exact ih a31 la32 b35 lb36 x2 0 (x4 + 1) _ _ _ _ _ (by omega) (by omega) hf Z (lv_sub hl [2, 3, 4, 1, 0] rfl)
            · have hf := hf.2 c_37
              refine lv_aload_n F.1 F.2.1 dL_areAlike_110 rfl (lv_at hl 0 rfl) ?_
              refine lv_iload F.1 F.2.1 dL_areAlike_111 (lv_at hl 4 rfl) ?_
              have hM := k_L_inRound l (D := D) (kk := kk) (ad := ad) (bs := bs) (a := a31) (la := la32) (b := b35) (lb := lb36) (lo := lo) x4 hlt hf
              refine ig_calli E Z (ig_runSW (As := [.ref (ad 0), .int x4]) (rest := []) F E Z hl GL_134 hM md_L_inRound rfl ⟨rfl, rfl⟩ ⟨Nat.le_of_ble_eq_true rfl, Nat.le_of_ble_eq_true rfl⟩ (Nat.le_of_ble_eq_true rfl) dL_areAlike_113 ⟨(by show _ ≤ 140; omega), (by show _ ≤ 840; omega)⟩) (fun r38 u H locs hf Z => ?_)
              obtain ⟨a39, la40⟩ := u
              have Z : ig_Z D kk ad bs _ H locs a39 la40 b35 lb36 lo := Z
              refine lv_aload_n F.1 F.2.1 dL_areAlike_116 rfl (lv_at hl 1 rfl) ?_
              refine lv_iload F.1 F.2.1 dL_areAlike_117 (lv_at hl 4 rfl) ?_
              have hM := k_L_inRound l (D := D) (kk := kk) (ad := (ig_sa ad)) (bs := bs) (a := b35) (la := lb36) (b := a39) (lb := la40) (lo := lo) x4 hlt hf
              refine ig_calli (ig_Es E) (ig_Zs Z) (ig_runSW (As := [.ref ((ig_sa ad) 0), .int x4]) (rest := [.int r38]) F (ig_Es E) (ig_Zs Z) hl GL_134 hM md_L_inRound rfl ⟨rfl, rfl⟩ ⟨Nat.le_of_ble_eq_true rfl, Nat.le_of_ble_eq_true rfl⟩ (Nat.le_of_ble_eq_true rfl) dL_areAlike_119 ⟨(by show _ ≤ 140; omega), (by show _ ≤ 840; omega)⟩) (fun r41 u H locs hf Z => ?_)
              obtain ⟨b42, lb43⟩ := u
              have Z : ig_Z D kk (ig_sa ad) bs _ H locs b42 lb43 a39 la40 lo := Z
              have Z := ig_Zb Z
              refine lv_icmp_ne (tgt := 129) F.1 F.2.1 dL_areAlike_122 (by decide) (fun c_44 => ?_) (fun c_44 => ?_)
              · have hf := hf.1 c_44
                refine lv_iconst (v := 0) F.1 F.2.1 dL_areAlike_129 (by decide) ?_
                refine lv_istore_n (lv' := [(3, .int 0), (0, .ref (ad 0)), (1, .ref (ad 97)), (2, .int x2), (4, .int x4)]) F.1 F.2.1 dL_areAlike_130 rfl hl (by decide) rfl (fun ls hl => ?_)
                refine lv_iinc (v := x4 + 1) (lv' := [(4, .int (x4 + 1)), (3, .int 0), (0, .ref (ad 0)), (1, .ref (ad 97)), (2, .int x2)]) F.1 F.2.1 dL_areAlike_131 hl (k := 4) rfl (by rfl) (by decide) rfl (fun ls hl => ?_)
                refine lv_goto (tgt := 32) F.1 F.2.1 dL_areAlike_134 (by decide) ?_
                exact ih a39 la40 b42 lb43 x2 0 (x4 + 1) _ _ _ _ _ (by omega) (by omega) hf Z (lv_sub hl [2, 3, 4, 1, 0] rfl)
              · have hf := hf.2 c_44
                refine lv_iconst (v := 1) F.1 F.2.1 dL_areAlike_125 (by decide) ?_
                refine lv_goto (tgt := 130) F.1 F.2.1 dL_areAlike_126 (by decide) ?_
                refine lv_istore_n (lv' := [(3, .int 1), (0, .ref (ad 0)), (1, .ref (ad 97)), (2, .int x2), (4, .int x4)]) F.1 F.2.1 dL_areAlike_130 rfl hl (by decide) rfl (fun ls hl => ?_)
                refine lv_iinc (v := x4 + 1) (lv' := [(4, .int (x4 + 1)), (3, .int 1), (0, .ref (ad 0)), (1, .ref (ad 97)), (2, .int x2)]) F.1 F.2.1 dL_areAlike_131 hl (k := 4) rfl (by rfl) (by decide) rfl (fun ls hl => ?_)
                refine lv_goto (tgt := 32) F.1 F.2.1 dL_areAlike_134 (by decide) ?_
                exact ih a39 la40 b42 lb43 x2 1 (x4 + 1) _ _ _ _ _ (by omega) (by omega) hf Z (lv_sub hl [2, 3, 4, 1, 0] rfl)
set_option maxHeartbeats 4000000 in
set_option maxRecDepth 100000 in
theorem k_L_areAlike (l : Launch) {D : va_G} {kk : Nat → ClassId} {ad : Nat → Nat} {bs : Nat} {a : ig_M} {la : Int64} {b : ig_M} {lb lo : Int64} (x2 : Int32) (hlt : l.stackTraces = false) {post : Int32 → ig_M → Int64 → ig_M → Int64 → Prop} (hf : wp_L_areAlike a la b lb x2 post) : Met l yL_areAlike (ig_ws yL_areAlike cL_areAlike 5 (some .boolean)) ({ frames := 9, cells := 140, slots := 840, locals := 183 } : Room) (va_Pc [.ref (ad 0), .ref (ad 97), .int x2] (ig_Wd D kk ad bs a la b lb lo)) (va_Qi (fun (r : Int32) (u : ig_M × Int64 × ig_M × Int64) => post r u.1 u.2.1 u.2.2.1 u.2.2.2) (fun u t => ig_Wd D kk ad bs u.1 u.2.1 u.2.2.1 u.2.2.2 lo t) (ig_A bs)) 140 840 (ig_A bs) := by
  refine Met.ofW (cc := cL_areAlike) (maxL := 5) (ret := (some .boolean)) (by decide) rfl ?_
  intro p e s m args below meth c s₁ B hml hv
  obtain ⟨rfl, E, hP⟩ := hv
  have hk := B.notSynchronized
  have hr := B.returns
  have F : CallFix p m c cL_areAlike 5 s _ ig_all RL := ⟨B.exec, B.bytes, hml, findClass_of_methodNamed B.named, fun w hw => atoms_spec B.pre w (List.mem_cons_of_mem _ hw)⟩
  have Z : ig_Z D kk ad bs s s.heap [] a la b lb lo := ig_Z.rf hP
  have hl := lv_entry ([.ref (ad 0), .ref (ad 97), .int x2]) (n := 5) (Nat.le_of_ble_eq_true rfl)
  rw [lg_entry_eq]
  generalize (lg_sl ([.ref (ad 0), .ref (ad 97), .int x2]) ++ List.replicate (5 - (lg_sl ([.ref (ad 0), .ref (ad 97), .int x2])).length) Slot.unset).toArray = ls at hl ⊢
  have hl : lv_has ls 5 [(0, .ref (ad 0)), (1, .ref (ad 97)), (2, .int x2)] := hl
  refine lv_aload_n F.1 F.2.1 dL_areAlike_0 rfl (lv_at hl 0 rfl) ?_
  have hM := k_X5_delay l (D := D) (kk := kk) (ad := ad) (bs := bs) (a := a) (la := la) (b := b) (lb := lb) (lo := lo) hf
  refine ig_calll E Z (ig_runV (As := []) (rest := []) F E Z hl G_L_118 hM (i := 0) (by decide) (ig_k_0 _ _ _ _ _ _) rfl rfl md_X5_delay rfl ⟨rfl, rfl⟩ ⟨Nat.le_of_ble_eq_true rfl, Nat.le_of_ble_eq_true rfl⟩ (Nat.le_of_ble_eq_true rfl) dL_areAlike_1 ⟨(by show _ ≤ 140; omega), (by show _ ≤ 840; omega)⟩) (fun r1 u H locs hf Z => ?_)
  have Z : ig_Z D kk ad bs _ H locs a la b lb lo := Z
  refine lv_aload_n F.1 F.2.1 dL_areAlike_4 rfl (lv_at hl 1 rfl) ?_
  have hM := k_X5_delay l (D := D) (kk := kk) (ad := (ig_sa ad)) (bs := bs) (a := b) (la := lb) (b := a) (lb := la) (lo := lo) hf
  refine ig_calll (ig_Es E) (ig_Zs Z) (ig_runV (As := []) (rest := [.long r1]) F (ig_Es E) (ig_Zs Z) hl G_L_118 hM (i := 0) (by decide) (ig_k_0 _ _ _ _ _ _) rfl rfl md_X5_delay rfl ⟨rfl, rfl⟩ ⟨Nat.le_of_ble_eq_true rfl, Nat.le_of_ble_eq_true rfl⟩ (Nat.le_of_ble_eq_true rfl) dL_areAlike_5 ⟨(by show _ ≤ 140; omega), (by show _ ≤ 840; omega)⟩) (fun r2 u H locs hf Z => ?_)
  have Z : ig_Z D kk (ig_sa ad) bs _ H locs b lb a la lo := Z
  have Z := ig_Zb Z
  refine W.lcmp F.1 F.2.1 dL_areAlike_8 ?_
  refine lv_if_ne (tgt := 27) F.1 F.2.1 dL_areAlike_9 (by decide) (fun c_3 => ?_) (fun c_3 => ?_)
  · have hf := hf.1 c_3
    refine lv_iconst (v := 0) F.1 F.2.1 dL_areAlike_27 (by decide) ?_
    refine lv_istore_n (lv' := [(3, .int 0), (0, .ref (ad 0)), (1, .ref (ad 97)), (2, .int x2)]) F.1 F.2.1 dL_areAlike_28 rfl hl (by decide) rfl (fun ls hl => ?_)
    refine lv_iconst (v := 0) F.1 F.2.1 dL_areAlike_29 (by decide) ?_
    refine lv_istore (lv' := [(4, .int 0), (3, .int 0), (0, .ref (ad 0)), (1, .ref (ad 97)), (2, .int x2)]) F.1 F.2.1 dL_areAlike_30 hl (by decide) rfl (fun ls hl => ?_)
    obtain ⟨n1, hn1, hf⟩ := hf
    exact wm_L_areAlike_32 l hlt F E hr hk post n1 a la b lb x2 0 0 _ _ _ _ _ (by omega) (by omega) hf Z (lv_sub hl [2, 3, 4, 1, 0] rfl)
  · have hf := hf.2 c_3
    refine lv_aload_n F.1 F.2.1 dL_areAlike_12 rfl (lv_at hl 0 rfl) ?_
    have hM := k_X5_round l (D := D) (kk := kk) (ad := ad) (bs := bs) (a := a) (la := la) (b := b) (lb := lb) (lo := lo) hf
    refine ig_calli E Z (ig_runV (As := []) (rest := []) F E Z hl G_L_131 hM (i := 0) (by decide) (ig_k_0 _ _ _ _ _ _) rfl rfl md_X5_round rfl ⟨rfl, rfl⟩ ⟨Nat.le_of_ble_eq_true rfl, Nat.le_of_ble_eq_true rfl⟩ (Nat.le_of_ble_eq_true rfl) dL_areAlike_13 ⟨(by show _ ≤ 140; omega), (by show _ ≤ 840; omega)⟩) (fun r4 u H locs hf Z => ?_)
    obtain ⟨a5, la6⟩ := u
    have Z : ig_Z D kk ad bs _ H locs a5 la6 b lb lo := Z
    refine lv_aload_n F.1 F.2.1 dL_areAlike_16 rfl (lv_at hl 1 rfl) ?_
    have hM := k_X5_round l (D := D) (kk := kk) (ad := (ig_sa ad)) (bs := bs) (a := b) (la := lb) (b := a5) (lb := la6) (lo := lo) hf
    refine ig_calli (ig_Es E) (ig_Zs Z) (ig_runV (As := []) (rest := [.int r4]) F (ig_Es E) (ig_Zs Z) hl G_L_131 hM (i := 0) (by decide) (ig_k_0 _ _ _ _ _ _) rfl rfl md_X5_round rfl ⟨rfl, rfl⟩ ⟨Nat.le_of_ble_eq_true rfl, Nat.le_of_ble_eq_true rfl⟩ (Nat.le_of_ble_eq_true rfl) dL_areAlike_17 ⟨(by show _ ≤ 140; omega), (by show _ ≤ 840; omega)⟩) (fun r7 u H locs hf Z => ?_)
    obtain ⟨b8, lb9⟩ := u
    have Z : ig_Z D kk (ig_sa ad) bs _ H locs b8 lb9 a5 la6 lo := Z
    have Z := ig_Zb Z
    refine lv_icmp_ne (tgt := 27) F.1 F.2.1 dL_areAlike_20 (by decide) (fun c_10 => ?_) (fun c_10 => ?_)
    · have hf := hf.1 c_10
      refine lv_iconst (v := 0) F.1 F.2.1 dL_areAlike_27 (by decide) ?_
      refine lv_istore_n (lv' := [(3, .int 0), (0, .ref (ad 0)), (1, .ref (ad 97)), (2, .int x2)]) F.1 F.2.1 dL_areAlike_28 rfl hl (by decide) rfl (fun ls hl => ?_)
      refine lv_iconst (v := 0) F.1 F.2.1 dL_areAlike_29 (by decide) ?_
      refine lv_istore (lv' := [(4, .int 0), (3, .int 0), (0, .ref (ad 0)), (1, .ref (ad 97)), (2, .int x2)]) F.1 F.2.1 dL_areAlike_30 hl (by decide) rfl (fun ls hl => ?_)
      obtain ⟨n1, hn1, hf⟩ := hf
      exact wm_L_areAlike_32 l hlt F E hr hk post n1 a5 la6 b8 lb9 x2 0 0 _ _ _ _ _ (by omega) (by omega) hf Z (lv_sub hl [2, 3, 4, 1, 0] rfl)
    · have hf := hf.2 c_10
      refine lv_iconst (v := 1) F.1 F.2.1 dL_areAlike_23 (by decide) ?_
      refine lv_goto (tgt := 28) F.1 F.2.1 dL_areAlike_24 (by decide) ?_
      refine lv_istore_n (lv' := [(3, .int 1), (0, .ref (ad 0)), (1, .ref (ad 97)), (2, .int x2)]) F.1 F.2.1 dL_areAlike_28 rfl hl (by decide) rfl (fun ls hl => ?_)
      refine lv_iconst (v := 0) F.1 F.2.1 dL_areAlike_29 (by decide) ?_
      refine lv_istore (lv' := [(4, .int 0), (3, .int 1), (0, .ref (ad 0)), (1, .ref (ad 97)), (2, .int x2)]) F.1 F.2.1 dL_areAlike_30 hl (by decide) rfl (fun ls hl => ?_)
      obtain ⟨n1, hn1, hf⟩ := hf
      exact wm_L_areAlike_32 l hlt F E hr hk post n1 a5 la6 b8 lb9 x2 1 0 _ _ _ _ _ (by omega) (by omega) hf Z (lv_sub hl [2, 3, 4, 1, 0] rfl)
set_option maxHeartbeats 4000000 in
set_option maxRecDepth 100000 in
theorem wm_L_isSafe_32 (l : Launch) (hlt : l.stackTraces = false) (F : CallFix p m c cL_isSafe 6 s args ig_all RL) (E : ig_E D kk ad bs s) (hr : meth.sig.returnType = (some .boolean)) (hk : meth.locks = false) (k_33 : ig_M → Int64 → Int32 → Int32 → Int32 → Prop) (post : Int32 → ig_M → Int64 → Prop) (h_33 : ∀ (a : ig_M) (la : Int64) (x3 : Int32) (x4 : Int32) (t0 : Int32) (C S : Nat) (H : Heap) (locs : List Loc) (ls : Array Slot) (_ : C + 0 ≤ 7) (_ : S + 0 ≤ 42), k_33 a la x3 x4 t0 → ig_Z D kk ad bs s H locs a la b lb lo → lv_has ls 6 [(3, .int x3), (4, .int x4)] → W p l e ({ frames := 8, cells := 7, slots := 42, locals := 133 } : Room) s m args below meth c H locs C S (MQ below (va_Qi (fun (r : Int32) (u : ig_M × Int64) => post r u.1 u.2) (fun u t => ig_Wd D kk ad bs u.1 u.2 b lb lo t) (ig_A bs)) args s 7 42 (ig_A bs)) (F0 m 33 ls [.int t0])) :
    ∀ (a : ig_M) (la : Int64) (x3 : Int32) (x4 : Int32) (C S : Nat) (H : Heap) (locs : List Loc) (ls : Array Slot) (_ : C + 0 ≤ 7) (_ : S + 0 ≤ 42), wp_L_isSafe_32 k_33 post a la x3 x4 → ig_Z D kk ad bs s H locs a la b lb lo → lv_has ls 6 [(3, .int x3), (4, .int x4)] → W p l e ({ frames := 8, cells := 7, slots := 42, locals := 133 } : Room) s m args below meth c H locs C S (MQ below (va_Qi (fun (r : Int32) (u : ig_M × Int64) => post r u.1 u.2) (fun u t => ig_Wd D kk ad bs u.1 u.2 b lb lo t) (ig_A bs)) args s 7 42 (ig_A bs)) (F0 m 32 ls []) := by
  intro a la x3 x4 C S H locs ls hC hS hf Z hl
  refine lv_iconst (v := 0) F.1 F.2.1 dL_isSafe_32 (by decide) ?_
  exact h_33 a la x3 x4 0 _ _ _ _ _ (by omega) (by omega) hf Z (lv_sub hl [0, 1] rfl)
set_option maxHeartbeats 4000000 in
set_option maxRecDepth 100000 in
theorem wm_L_isSafe_33 (l : Launch) (hlt : l.stackTraces = false) (F : CallFix p m c cL_isSafe 6 s args ig_all RL) (E : ig_E D kk ad bs s) (hr : meth.sig.returnType = (some .boolean)) (hk : meth.locks = false) (post : Int32 → ig_M → Int64 → Prop) :
    ∀ (a : ig_M) (la : Int64) (x3 : Int32) (x4 : Int32) (t0 : Int32) (C S : Nat) (H : Heap) (locs : List Loc) (ls : Array Slot) (_ : C + 0 ≤ 7) (_ : S + 0 ≤ 42), wp_L_isSafe_33 post a la x3 x4 t0 → ig_Z D kk ad bs s H locs a la b lb lo → lv_has ls 6 [(3, .int x3), (4, .int x4)] → W p l e ({ frames := 8, cells := 7, slots := 42, locals := 133 } : Room) s m args below meth c H locs C S (MQ below (va_Qi (fun (r : Int32) (u : ig_M × Int64) => post r u.1 u.2) (fun u t => ig_Wd D kk ad bs u.1 u.2 b lb lo t) (ig_A bs)) args s 7 42 (ig_A bs)) (F0 m 33 ls [.int t0]) := by
  intro a la x3 x4 t0 C S H locs ls hC hS hf Z hl
  refine lv_istore (lv' := [(5, .int t0), (3, .int x3), (4, .int x4)]) F.1 F.2.1 dL_isSafe_33 hl (by decide) rfl (fun ls hl => ?_)
  refine lv_iload F.1 F.2.1 dL_isSafe_35 (lv_at hl 0 rfl) ?_
  refine lv_if_ne (tgt := 55) F.1 F.2.1 dL_isSafe_37 (by decide) (fun c_6 => ?_) (fun c_6 => ?_)
  · have hf := hf.1 c_6
    refine lv_iconst (v := 0) F.1 F.2.1 dL_isSafe_55 (by decide) ?_
    refine W.widen (k := 7) (n := 42) (by omega) (by omega) ?_
    exact W.zret (v := 0) F.1 F.2.1 hr (ig_narrow (Or.inl rfl)) (fun t ht hW => ⟨⟨_, (a, la), rfl, hf, Z.wd E ht hW⟩, Z.fr ht⟩) Z.2.2.2 dL_isSafe_56
  · have hf := hf.2 c_6
    refine lv_iload F.1 F.2.1 dL_isSafe_40 (lv_at hl 2 rfl) ?_
    refine lv_if_lt (tgt := 51) F.1 F.2.1 dL_isSafe_42 (by decide) (fun c_7 => ?_) (fun c_7 => ?_)
    · have hf := hf.1 c_7
      refine lv_iconst (v := 1) F.1 F.2.1 dL_isSafe_51 (by decide) ?_
      refine lv_goto (tgt := 56) F.1 F.2.1 dL_isSafe_52 (by decide) ?_
      refine W.widen (k := 7) (n := 42) (by omega) (by omega) ?_
      exact W.zret (v := 1) F.1 F.2.1 hr (ig_narrow (Or.inr rfl)) (fun t ht hW => ⟨⟨_, (a, la), rfl, hf, Z.wd E ht hW⟩, Z.fr ht⟩) Z.2.2.2 dL_isSafe_56
    · have hf := hf.2 c_7
      refine lv_iload F.1 F.2.1 dL_isSafe_45 (lv_at hl 2 rfl) ?_
      refine lv_iload_n F.1 F.2.1 dL_isSafe_47 rfl (lv_at hl 1 rfl) ?_
      refine lv_icmp_lt (tgt := 55) F.1 F.2.1 dL_isSafe_48 (by decide) (fun c_8 => ?_) (fun c_8 => ?_)
      · have hf := hf.1 c_8
        refine lv_iconst (v := 0) F.1 F.2.1 dL_isSafe_55 (by decide) ?_
        refine W.widen (k := 7) (n := 42) (by omega) (by omega) ?_
        exact W.zret (v := 0) F.1 F.2.1 hr (ig_narrow (Or.inl rfl)) (fun t ht hW => ⟨⟨_, (a, la), rfl, hf, Z.wd E ht hW⟩, Z.fr ht⟩) Z.2.2.2 dL_isSafe_56
      · have hf := hf.2 c_8
        refine lv_iconst (v := 1) F.1 F.2.1 dL_isSafe_51 (by decide) ?_
        refine lv_goto (tgt := 56) F.1 F.2.1 dL_isSafe_52 (by decide) ?_
        refine W.widen (k := 7) (n := 42) (by omega) (by omega) ?_
        exact W.zret (v := 1) F.1 F.2.1 hr (ig_narrow (Or.inr rfl)) (fun t ht hW => ⟨⟨_, (a, la), rfl, hf, Z.wd E ht hW⟩, Z.fr ht⟩) Z.2.2.2 dL_isSafe_56
set_option maxHeartbeats 4000000 in
set_option maxRecDepth 100000 in
theorem k_L_isSafe (l : Launch) {D : va_G} {kk : Nat → ClassId} {ad : Nat → Nat} {bs : Nat} {a : ig_M} {la : Int64} {b : ig_M} {lb lo : Int64} (x1 : Int32) (x2 : Int32) (x3 : Int32) (hlt : l.stackTraces = false) {post : Int32 → ig_M → Int64 → Prop} (hf : wp_L_isSafe a la x1 x2 x3 post) : Met l yL_isSafe (ig_ws yL_isSafe cL_isSafe 6 (some .boolean)) ({ frames := 8, cells := 7, slots := 42, locals := 133 } : Room) (va_Pc [.ref (ad 0), .int x1, .int x2, .int x3] (ig_Wd D kk ad bs a la b lb lo)) (va_Qi (fun (r : Int32) (u : ig_M × Int64) => post r u.1 u.2) (fun u t => ig_Wd D kk ad bs u.1 u.2 b lb lo t) (ig_A bs)) 7 42 (ig_A bs) := by
  refine Met.ofW (cc := cL_isSafe) (maxL := 6) (ret := (some .boolean)) (by decide) rfl ?_
  intro p e s m args below meth c s₁ B hml hv
  obtain ⟨rfl, E, hP⟩ := hv
  have hk := B.notSynchronized
  have hr := B.returns
  have F : CallFix p m c cL_isSafe 6 s _ ig_all RL := ⟨B.exec, B.bytes, hml, findClass_of_methodNamed B.named, fun w hw => atoms_spec B.pre w (List.mem_cons_of_mem _ hw)⟩
  have Z : ig_Z D kk ad bs s s.heap [] a la b lb lo := ig_Z.rf hP
  have hl := lv_entry ([.ref (ad 0), .int x1, .int x2, .int x3]) (n := 6) (Nat.le_of_ble_eq_true rfl)
  rw [lg_entry_eq]
  generalize (lg_sl ([.ref (ad 0), .int x1, .int x2, .int x3]) ++ List.replicate (6 - (lg_sl ([.ref (ad 0), .int x1, .int x2, .int x3])).length) Slot.unset).toArray = ls at hl ⊢
  have hl : lv_has ls 6 [(0, .ref (ad 0)), (1, .int x1), (2, .int x2), (3, .int x3)] := hl
  refine lv_aload_n F.1 F.2.1 dL_isSafe_0 rfl (lv_at hl 0 rfl) ?_
  refine lv_iload_n F.1 F.2.1 dL_isSafe_1 rfl (lv_at hl 1 rfl) ?_
  refine lv_iload_n F.1 F.2.1 dL_isSafe_2 rfl (lv_at hl 2 rfl) ?_
  have hM := k_X5_seen l (D := D) (kk := kk) (ad := ad) (bs := bs) (a := a) (la := la) (b := b) (lb := lb) (lo := lo) x1 x2 hlt hf
  refine ig_callXi E Z (ig_runVX (As := [.int x1, .int x2]) (rest := []) F E Z hl G_L_67 hM (i := 0) (by decide) (ig_k_0 _ _ _ _ _ _) rfl rfl md_X5_seen rfl ⟨rfl, rfl⟩ ⟨Nat.le_of_ble_eq_true rfl, Nat.le_of_ble_eq_true rfl⟩ (Nat.le_of_ble_eq_true rfl) dL_isSafe_3 ⟨(by show _ ≤ 7; omega), (by show _ ≤ 42; omega)⟩) (fun u q9 ce H locs hu Z hce hcv hcl => hu.elim) (fun r1 u H locs hf Z => ?_)
  have Z : ig_Z D kk ad bs _ H locs a la b lb lo := Z
  refine lv_istore (lv' := [(4, .int r1), (0, .ref (ad 0)), (1, .int x1), (2, .int x2), (3, .int x3)]) F.1 F.2.1 dL_isSafe_6 hl (by decide) rfl (fun ls hl => ?_)
  refine lv_aload_n F.1 F.2.1 dL_isSafe_8 rfl (lv_at hl 1 rfl) ?_
  refine lv_iload_n F.1 F.2.1 dL_isSafe_9 rfl (lv_at hl 2 rfl) ?_
  refine lv_iconst (v := 0) F.1 F.2.1 dL_isSafe_10 (by decide) ?_
  have hM := k_X5_ofPhase l (D := D) (kk := kk) (ad := ad) (bs := bs) (a := a) (la := la) (b := b) (lb := lb) (lo := lo) x1 0 hlt hf
  refine ig_callXi E Z (ig_runVX (As := [.int x1, .int 0]) (rest := []) F E Z hl G_L_61 hM (i := 0) (by decide) (ig_k_0 _ _ _ _ _ _) rfl rfl md_X5_ofPhase rfl ⟨rfl, rfl⟩ ⟨Nat.le_of_ble_eq_true rfl, Nat.le_of_ble_eq_true rfl⟩ (Nat.le_of_ble_eq_true rfl) dL_isSafe_11 ⟨(by show _ ≤ 7; omega), (by show _ ≤ 42; omega)⟩) (fun u q9 ce H locs hu Z hce hcv hcl => hu.elim) (fun r2 u H locs hf Z => ?_)
  have Z : ig_Z D kk ad bs _ H locs a la b lb lo := Z
  refine lv_iconst (v := 1) F.1 F.2.1 dL_isSafe_14 (by decide) ?_
  refine lv_icmp_ne (tgt := 32) F.1 F.2.1 dL_isSafe_15 (by decide) (fun c_3 => ?_) (fun c_3 => ?_)
  · have hf := hf.1 c_3
    exact wm_L_isSafe_32 l hlt F E hr hk (wp_L_isSafe_33 post) post (fun v0 v1 v2 v3 v4 C S H locs ls hC hS hf Z hl => wm_L_isSafe_33 l hlt F E hr hk post v0 v1 v2 v3 v4 C S H locs ls (by omega) (by omega) hf Z hl) a la x3 r1 _ _ _ _ _ (by omega) (by omega) hf Z (lv_sub hl [4, 0] rfl)
  · have hf := hf.2 c_3
    refine lv_aload_n F.1 F.2.1 dL_isSafe_18 rfl (lv_at hl 1 rfl) ?_
    refine lv_iload_n F.1 F.2.1 dL_isSafe_19 rfl (lv_at hl 3 rfl) ?_
    refine lv_iconst (v := 0) F.1 F.2.1 dL_isSafe_20 (by decide) ?_
    have hM := k_X5_ofPhase l (D := D) (kk := kk) (ad := ad) (bs := bs) (a := a) (la := la) (b := b) (lb := lb) (lo := lo) x2 0 hlt hf
    refine ig_callXi E Z (ig_runVX (As := [.int x2, .int 0]) (rest := []) F E Z hl G_L_61 hM (i := 0) (by decide) (ig_k_0 _ _ _ _ _ _) rfl rfl md_X5_ofPhase rfl ⟨rfl, rfl⟩ ⟨Nat.le_of_ble_eq_true rfl, Nat.le_of_ble_eq_true rfl⟩ (Nat.le_of_ble_eq_true rfl) dL_isSafe_21 ⟨(by show _ ≤ 7; omega), (by show _ ≤ 42; omega)⟩) (fun u q9 ce H locs hu Z hce hcv hcl => hu.elim) (fun r4 u H locs hf Z => ?_)
    have Z : ig_Z D kk ad bs _ H locs a la b lb lo := Z
    refine lv_iconst (v := 1) F.1 F.2.1 dL_isSafe_24 (by decide) ?_
    refine lv_icmp_ne (tgt := 32) F.1 F.2.1 dL_isSafe_25 (by decide) (fun c_5 => ?_) (fun c_5 => ?_)
    · have hf := hf.1 c_5
      exact wm_L_isSafe_32 l hlt F E hr hk (wp_L_isSafe_33 post) post (fun v0 v1 v2 v3 v4 C S H locs ls hC hS hf Z hl => wm_L_isSafe_33 l hlt F E hr hk post v0 v1 v2 v3 v4 C S H locs ls (by omega) (by omega) hf Z hl) a la x3 r1 _ _ _ _ _ (by omega) (by omega) hf Z (lv_sub hl [4, 0] rfl)
    · have hf := hf.2 c_5
      refine lv_iconst (v := 1) F.1 F.2.1 dL_isSafe_28 (by decide) ?_
      refine lv_goto (tgt := 33) F.1 F.2.1 dL_isSafe_29 (by decide) ?_
      exact wm_L_isSafe_33 l hlt F E hr hk post a la x3 r1 1 _ _ _ _ _ (by omega) (by omega) hf Z (lv_sub hl [4, 0] rfl)
set_option maxHeartbeats 4000000 in
set_option maxRecDepth 100000 in
theorem wm_L_isSo_32 (l : Launch) (hlt : l.stackTraces = false) (F : CallFix p m c cL_isSo 8 s args ig_all RL) (E : ig_E D kk ad bs s) (hr : meth.sig.returnType = (some .boolean)) (hk : meth.locks = false) (k_33 : ig_M → Int64 → Int32 → Int32 → Prop) (post : Int32 → ig_M → Int64 → Prop) (h_33 : ∀ (a : ig_M) (la : Int64) (x1 : Int32) (t0 : Int32) (C S : Nat) (H : Heap) (locs : List Loc) (ls : Array Slot) (_ : C + 286 ≤ 287) (_ : S + 1716 ≤ 1722), k_33 a la x1 t0 → ig_Z D kk ad bs s H locs a la b lb lo → lv_has ls 8 [(0, .ref (ad 0)), (1, .int x1)] → W p l e ({ frames := 9, cells := 287, slots := 1722, locals := 183 } : Room) s m args below meth c H locs C S (MQ below (va_Qi (fun (r : Int32) (u : ig_M × Int64) => post r u.1 u.2) (fun u t => ig_Wd D kk ad bs u.1 u.2 b lb lo t) (ig_A bs)) args s 287 1722 (ig_A bs)) (F0 m 33 ls [.int t0])) :
    ∀ (a : ig_M) (la : Int64) (x1 : Int32) (C S : Nat) (H : Heap) (locs : List Loc) (ls : Array Slot) (_ : C + 286 ≤ 287) (_ : S + 1716 ≤ 1722), wp_L_isSo_32 k_33 post a la x1 → ig_Z D kk ad bs s H locs a la b lb lo → lv_has ls 8 [(0, .ref (ad 0)), (1, .int x1)] → W p l e ({ frames := 9, cells := 287, slots := 1722, locals := 183 } : Room) s m args below meth c H locs C S (MQ below (va_Qi (fun (r : Int32) (u : ig_M × Int64) => post r u.1 u.2) (fun u t => ig_Wd D kk ad bs u.1 u.2 b lb lo t) (ig_A bs)) args s 287 1722 (ig_A bs)) (F0 m 32 ls []) := by
  intro a la x1 C S H locs ls hC hS hf Z hl
  refine lv_iconst (v := 0) F.1 F.2.1 dL_isSo_32 (by decide) ?_
  exact h_33 a la x1 0 _ _ _ _ _ (by omega) (by omega) hf Z (lv_sub hl [0, 1] rfl)
set_option maxHeartbeats 4000000 in
set_option maxRecDepth 100000 in
theorem wm_L_isSo_102 (l : Launch) (hlt : l.stackTraces = false) (F : CallFix p m c cL_isSo 8 s args ig_all RL) (E : ig_E D kk ad bs s) (hr : meth.sig.returnType = (some .boolean)) (hk : meth.locks = false) (k_103 : ig_M → Int64 → Int32 → Int32 → Prop) (post : Int32 → ig_M → Int64 → Prop) (h_103 : ∀ (a : ig_M) (la : Int64) (x1 : Int32) (t0 : Int32) (C S : Nat) (H : Heap) (locs : List Loc) (ls : Array Slot) (_ : C + 244 ≤ 287) (_ : S + 1464 ≤ 1722), k_103 a la x1 t0 → ig_Z D kk ad bs s H locs a la b lb lo → lv_has ls 8 [(0, .ref (ad 0)), (1, .int x1)] → W p l e ({ frames := 9, cells := 287, slots := 1722, locals := 183 } : Room) s m args below meth c H locs C S (MQ below (va_Qi (fun (r : Int32) (u : ig_M × Int64) => post r u.1 u.2) (fun u t => ig_Wd D kk ad bs u.1 u.2 b lb lo t) (ig_A bs)) args s 287 1722 (ig_A bs)) (F0 m 103 ls [.int t0])) :
    ∀ (a : ig_M) (la : Int64) (x1 : Int32) (C S : Nat) (H : Heap) (locs : List Loc) (ls : Array Slot) (_ : C + 244 ≤ 287) (_ : S + 1464 ≤ 1722), wp_L_isSo_102 k_103 post a la x1 → ig_Z D kk ad bs s H locs a la b lb lo → lv_has ls 8 [(0, .ref (ad 0)), (1, .int x1)] → W p l e ({ frames := 9, cells := 287, slots := 1722, locals := 183 } : Room) s m args below meth c H locs C S (MQ below (va_Qi (fun (r : Int32) (u : ig_M × Int64) => post r u.1 u.2) (fun u t => ig_Wd D kk ad bs u.1 u.2 b lb lo t) (ig_A bs)) args s 287 1722 (ig_A bs)) (F0 m 102 ls []) := by
  intro a la x1 C S H locs ls hC hS hf Z hl
  refine lv_iconst (v := 0) F.1 F.2.1 dL_isSo_102 (by decide) ?_
  exact h_103 a la x1 0 _ _ _ _ _ (by omega) (by omega) hf Z (lv_sub hl [0, 1] rfl)
set_option maxHeartbeats 4000000 in
set_option maxRecDepth 100000 in
theorem wm_L_isSo_207 (l : Launch) (hlt : l.stackTraces = false) (F : CallFix p m c cL_isSo 8 s args ig_all RL) (E : ig_E D kk ad bs s) (hr : meth.sig.returnType = (some .boolean)) (hk : meth.locks = false) (k_221 : ig_M → Int64 → Int32 → Int32 → Int32 → Prop) (k_222 : ig_M → Int64 → Int32 → Int32 → Int32 → Int32 → Prop) (post : Int32 → ig_M → Int64 → Prop) (n_113 : Nat) (h_221 : ∀ (a : ig_M) (la : Int64) (x1 : Int32) (x3 : Int32) (x4 : Int32) (C S : Nat) (H : Heap) (locs : List Loc) (ls : Array Slot) (_ : C + (n_113 * 18 + 67) ≤ 287) (_ : S + (n_113 * 108 + 402) ≤ 1722), k_221 a la x1 x3 x4 → ig_Z D kk ad bs s H locs a la b lb lo → lv_has ls 8 [(0, .ref (ad 0)), (1, .int x1), (3, .int x3), (4, .int x4)] → W p l e ({ frames := 9, cells := 287, slots := 1722, locals := 183 } : Room) s m args below meth c H locs C S (MQ below (va_Qi (fun (r : Int32) (u : ig_M × Int64) => post r u.1 u.2) (fun u t => ig_Wd D kk ad bs u.1 u.2 b lb lo t) (ig_A bs)) args s 287 1722 (ig_A bs)) (F0 m 221 ls [])) (h_222 : ∀ (a : ig_M) (la : Int64) (x1 : Int32) (x3 : Int32) (x4 : Int32) (t0 : Int32) (C S : Nat) (H : Heap) (locs : List Loc) (ls : Array Slot) (_ : C + (n_113 * 18 + 67) ≤ 287) (_ : S + (n_113 * 108 + 402) ≤ 1722), k_222 a la x1 x3 x4 t0 → ig_Z D kk ad bs s H locs a la b lb lo → lv_has ls 8 [(0, .ref (ad 0)), (1, .int x1), (3, .int x3), (4, .int x4)] → W p l e ({ frames := 9, cells := 287, slots := 1722, locals := 183 } : Room) s m args below meth c H locs C S (MQ below (va_Qi (fun (r : Int32) (u : ig_M × Int64) => post r u.1 u.2) (fun u t => ig_Wd D kk ad bs u.1 u.2 b lb lo t) (ig_A bs)) args s 287 1722 (ig_A bs)) (F0 m 222 ls [.int t0])) :
    ∀ (a : ig_M) (la : Int64) (x1 : Int32) (x3 : Int32) (x4 : Int32) (C S : Nat) (H : Heap) (locs : List Loc) (ls : Array Slot) (_ : C + (n_113 * 18 + 69) ≤ 287) (_ : S + (n_113 * 108 + 414) ≤ 1722), wp_L_isSo_207 k_221 k_222 post a la x1 x3 x4 → ig_Z D kk ad bs s H locs a la b lb lo → lv_has ls 8 [(0, .ref (ad 0)), (1, .int x1), (3, .int x3), (4, .int x4)] → W p l e ({ frames := 9, cells := 287, slots := 1722, locals := 183 } : Room) s m args below meth c H locs C S (MQ below (va_Qi (fun (r : Int32) (u : ig_M × Int64) => post r u.1 u.2) (fun u t => ig_Wd D kk ad bs u.1 u.2 b lb lo t) (ig_A bs)) args s 287 1722 (ig_A bs)) (F0 m 207 ls []) := by
  intro a la x1 x3 x4 C S H locs ls hC hS hf Z hl
  refine lv_aload_n F.1 F.2.1 dL_isSo_207 rfl (lv_at hl 0 rfl) ?_
  refine lv_iload F.1 F.2.1 dL_isSo_208 (lv_at hl 3 rfl) ?_
  refine lv_iconst (v := 3) F.1 F.2.1 dL_isSo_210 (by decide) ?_
  have hM := k_X5_ofPhase l (D := D) (kk := kk) (ad := ad) (bs := bs) (a := a) (la := la) (b := b) (lb := lb) (lo := lo) x4 3 hlt hf
  refine ig_callXi E Z (ig_runVX (As := [.int x4, .int 3]) (rest := []) F E Z hl G_L_61 hM (i := 0) (by decide) (ig_k_0 _ _ _ _ _ _) rfl rfl md_X5_ofPhase rfl ⟨rfl, rfl⟩ ⟨Nat.le_of_ble_eq_true rfl, Nat.le_of_ble_eq_true rfl⟩ (Nat.le_of_ble_eq_true rfl) dL_isSo_211 ⟨(by show _ ≤ 287; omega), (by show _ ≤ 1722; omega)⟩) (fun u q9 ce H locs hu Z hce hcv hcl => hu.elim) (fun r57 u H locs hf Z => ?_)
  have Z : ig_Z D kk ad bs _ H locs a la b lb lo := Z
  refine lv_if_lt (tgt := 221) F.1 F.2.1 dL_isSo_214 (by decide) (fun c_58 => ?_) (fun c_58 => ?_)
  · have hf := hf.1 c_58
    exact h_221 a la x1 x3 x4 _ _ _ _ _ (by omega) (by omega) hf Z (lv_sub hl [0, 1, 2, 3] rfl)
  · have hf := hf.2 c_58
    refine lv_iconst (v := 1) F.1 F.2.1 dL_isSo_217 (by decide) ?_
    refine lv_goto (tgt := 222) F.1 F.2.1 dL_isSo_218 (by decide) ?_
    exact h_222 a la x1 x3 x4 1 _ _ _ _ _ (by omega) (by omega) hf Z (lv_sub hl [0, 1, 2, 3] rfl)
set_option maxHeartbeats 4000000 in
set_option maxRecDepth 100000 in
theorem wm_L_isSo_173 (l : Launch) (hlt : l.stackTraces = false) (F : CallFix p m c cL_isSo 8 s args ig_all RL) (E : ig_E D kk ad bs s) (hr : meth.sig.returnType = (some .boolean)) (hk : meth.locks = false) (k_221 : ig_M → Int64 → Int32 → Int32 → Int32 → Prop) (k_222 : ig_M → Int64 → Int32 → Int32 → Int32 → Int32 → Prop) (post : Int32 → ig_M → Int64 → Prop) (n_113 : Nat) (h_221 : ∀ (a : ig_M) (la : Int64) (x1 : Int32) (x3 : Int32) (x4 : Int32) (C S : Nat) (H : Heap) (locs : List Loc) (ls : Array Slot) (_ : C + (n_113 * 18 + 67) ≤ 287) (_ : S + (n_113 * 108 + 402) ≤ 1722), k_221 a la x1 x3 x4 → ig_Z D kk ad bs s H locs a la b lb lo → lv_has ls 8 [(0, .ref (ad 0)), (1, .int x1), (3, .int x3), (4, .int x4)] → W p l e ({ frames := 9, cells := 287, slots := 1722, locals := 183 } : Room) s m args below meth c H locs C S (MQ below (va_Qi (fun (r : Int32) (u : ig_M × Int64) => post r u.1 u.2) (fun u t => ig_Wd D kk ad bs u.1 u.2 b lb lo t) (ig_A bs)) args s 287 1722 (ig_A bs)) (F0 m 221 ls [])) (h_222 : ∀ (a : ig_M) (la : Int64) (x1 : Int32) (x3 : Int32) (x4 : Int32) (t0 : Int32) (C S : Nat) (H : Heap) (locs : List Loc) (ls : Array Slot) (_ : C + (n_113 * 18 + 67) ≤ 287) (_ : S + (n_113 * 108 + 402) ≤ 1722), k_222 a la x1 x3 x4 t0 → ig_Z D kk ad bs s H locs a la b lb lo → lv_has ls 8 [(0, .ref (ad 0)), (1, .int x1), (3, .int x3), (4, .int x4)] → W p l e ({ frames := 9, cells := 287, slots := 1722, locals := 183 } : Room) s m args below meth c H locs C S (MQ below (va_Qi (fun (r : Int32) (u : ig_M × Int64) => post r u.1 u.2) (fun u t => ig_Wd D kk ad bs u.1 u.2 b lb lo t) (ig_A bs)) args s 287 1722 (ig_A bs)) (F0 m 222 ls [.int t0])) :
    ∀ (a : ig_M) (la : Int64) (x1 : Int32) (x3 : Int32) (x4 : Int32) (x5 : Int32) (C S : Nat) (H : Heap) (locs : List Loc) (ls : Array Slot) (_ : C + (n_113 * 18 + 75) ≤ 287) (_ : S + (n_113 * 108 + 450) ≤ 1722), wp_L_isSo_173 k_221 k_222 post a la x1 x3 x4 x5 → ig_Z D kk ad bs s H locs a la b lb lo → lv_has ls 8 [(0, .ref (ad 0)), (1, .int x1), (3, .int x3), (4, .int x4), (5, .int x5)] → W p l e ({ frames := 9, cells := 287, slots := 1722, locals := 183 } : Room) s m args below meth c H locs C S (MQ below (va_Qi (fun (r : Int32) (u : ig_M × Int64) => post r u.1 u.2) (fun u t => ig_Wd D kk ad bs u.1 u.2 b lb lo t) (ig_A bs)) args s 287 1722 (ig_A bs)) (F0 m 173 ls []) := by
  intro a la x1 x3 x4 x5 C S H locs ls hC hS hf Z hl
  refine lv_aload_n F.1 F.2.1 dL_isSo_173 rfl (lv_at hl 0 rfl) ?_
  refine lv_iload F.1 F.2.1 dL_isSo_174 (lv_at hl 3 rfl) ?_
  refine lv_iconst (v := 5) F.1 F.2.1 dL_isSo_176 (by decide) ?_
  have hM := k_X5_ofPhase l (D := D) (kk := kk) (ad := ad) (bs := bs) (a := a) (la := la) (b := b) (lb := lb) (lo := lo) x4 5 hlt hf
  refine ig_callXi E Z (ig_runVX (As := [.int x4, .int 5]) (rest := []) F E Z hl G_L_61 hM (i := 0) (by decide) (ig_k_0 _ _ _ _ _ _) rfl rfl md_X5_ofPhase rfl ⟨rfl, rfl⟩ ⟨Nat.le_of_ble_eq_true rfl, Nat.le_of_ble_eq_true rfl⟩ (Nat.le_of_ble_eq_true rfl) dL_isSo_177 ⟨(by show _ ≤ 287; omega), (by show _ ≤ 1722; omega)⟩) (fun u q9 ce H locs hu Z hce hcv hcl => hu.elim) (fun r51 u H locs hf Z => ?_)
  have Z : ig_Z D kk ad bs _ H locs a la b lb lo := Z
  refine lv_aload_n F.1 F.2.1 dL_isSo_180 rfl (lv_at hl 0 rfl) ?_
  refine lv_iload F.1 F.2.1 dL_isSo_181 (lv_at hl 3 rfl) ?_
  refine lv_iconst (v := 4) F.1 F.2.1 dL_isSo_183 (by decide) ?_
  have hM := k_X5_ofPhase l (D := D) (kk := kk) (ad := ad) (bs := bs) (a := a) (la := la) (b := b) (lb := lb) (lo := lo) x4 4 hlt hf
  refine ig_callXi E Z (ig_runVX (As := [.int x4, .int 4]) (rest := [.int r51]) F E Z hl G_L_61 hM (i := 0) (by decide) (ig_k_0 _ _ _ _ _ _) rfl rfl md_X5_ofPhase rfl ⟨rfl, rfl⟩ ⟨Nat.le_of_ble_eq_true rfl, Nat.le_of_ble_eq_true rfl⟩ (Nat.le_of_ble_eq_true rfl) dL_isSo_184 ⟨(by show _ ≤ 287; omega), (by show _ ≤ 1722; omega)⟩) (fun u q9 ce H locs hu Z hce hcv hcl => hu.elim) (fun r52 u H locs hf Z => ?_)
  have Z : ig_Z D kk ad bs _ H locs a la b lb lo := Z
  refine lv_icmp_lt (tgt := 221) F.1 F.2.1 dL_isSo_187 (by decide) (fun c_53 => ?_) (fun c_53 => ?_)
  · have hf := hf.1 c_53
    exact h_221 a la x1 x3 x4 _ _ _ _ _ (by omega) (by omega) hf Z (lv_sub hl [0, 1, 2, 3] rfl)
  · have hf := hf.2 c_53
    refine lv_iload F.1 F.2.1 dL_isSo_190 (lv_at hl 4 rfl) ?_
    refine lv_iconst (v := 1) F.1 F.2.1 dL_isSo_192 (by decide) ?_
    refine lv_icmp_ne (tgt := 207) F.1 F.2.1 dL_isSo_193 (by decide) (fun c_54 => ?_) (fun c_54 => ?_)
    · have hf := hf.1 c_54
      exact wm_L_isSo_207 l hlt F E hr hk k_221 k_222 post n_113 h_221 h_222 a la x1 x3 x4 _ _ _ _ _ (by omega) (by omega) hf Z (lv_sub hl [0, 1, 2, 3] rfl)
    · have hf := hf.2 c_54
      refine lv_aload_n F.1 F.2.1 dL_isSo_196 rfl (lv_at hl 0 rfl) ?_
      refine lv_iload F.1 F.2.1 dL_isSo_197 (lv_at hl 3 rfl) ?_
      refine lv_bipush (v := 6) F.1 F.2.1 dL_isSo_199 (by decide) ?_
      have hM := k_X5_ofPhase l (D := D) (kk := kk) (ad := ad) (bs := bs) (a := a) (la := la) (b := b) (lb := lb) (lo := lo) x4 6 hlt hf
      refine ig_callXi E Z (ig_runVX (As := [.int x4, .int 6]) (rest := []) F E Z hl G_L_61 hM (i := 0) (by decide) (ig_k_0 _ _ _ _ _ _) rfl rfl md_X5_ofPhase rfl ⟨rfl, rfl⟩ ⟨Nat.le_of_ble_eq_true rfl, Nat.le_of_ble_eq_true rfl⟩ (Nat.le_of_ble_eq_true rfl) dL_isSo_201 ⟨(by show _ ≤ 287; omega), (by show _ ≤ 1722; omega)⟩) (fun u q9 ce H locs hu Z hce hcv hcl => hu.elim) (fun r55 u H locs hf Z => ?_)
      have Z : ig_Z D kk ad bs _ H locs a la b lb lo := Z
      refine lv_if_ne (tgt := 221) F.1 F.2.1 dL_isSo_204 (by decide) (fun c_56 => ?_) (fun c_56 => ?_)
      · have hf := hf.1 c_56
        exact h_221 a la x1 x3 x4 _ _ _ _ _ (by omega) (by omega) hf Z (lv_sub hl [0, 1, 2, 3] rfl)
      · have hf := hf.2 c_56
        exact wm_L_isSo_207 l hlt F E hr hk k_221 k_222 post n_113 h_221 h_222 a la x1 x3 x4 _ _ _ _ _ (by omega) (by omega) hf Z (lv_sub hl [0, 1, 2, 3] rfl)
set_option maxHeartbeats 4000000 in
set_option maxRecDepth 100000 in
theorem wm_L_isSo_147 (l : Launch) (hlt : l.stackTraces = false) (F : CallFix p m c cL_isSo 8 s args ig_all RL) (E : ig_E D kk ad bs s) (hr : meth.sig.returnType = (some .boolean)) (hk : meth.locks = false) (k_221 : ig_M → Int64 → Int32 → Int32 → Int32 → Prop) (k_222 : ig_M → Int64 → Int32 → Int32 → Int32 → Int32 → Prop) (post : Int32 → ig_M → Int64 → Prop) (n_113 : Nat) (h_221 : ∀ (a : ig_M) (la : Int64) (x1 : Int32) (x3 : Int32) (x4 : Int32) (C S : Nat) (H : Heap) (locs : List Loc) (ls : Array Slot) (_ : C + (n_113 * 18 + 67) ≤ 287) (_ : S + (n_113 * 108 + 402) ≤ 1722), k_221 a la x1 x3 x4 → ig_Z D kk ad bs s H locs a la b lb lo → lv_has ls 8 [(0, .ref (ad 0)), (1, .int x1), (3, .int x3), (4, .int x4)] → W p l e ({ frames := 9, cells := 287, slots := 1722, locals := 183 } : Room) s m args below meth c H locs C S (MQ below (va_Qi (fun (r : Int32) (u : ig_M × Int64) => post r u.1 u.2) (fun u t => ig_Wd D kk ad bs u.1 u.2 b lb lo t) (ig_A bs)) args s 287 1722 (ig_A bs)) (F0 m 221 ls [])) (h_222 : ∀ (a : ig_M) (la : Int64) (x1 : Int32) (x3 : Int32) (x4 : Int32) (t0 : Int32) (C S : Nat) (H : Heap) (locs : List Loc) (ls : Array Slot) (_ : C + (n_113 * 18 + 67) ≤ 287) (_ : S + (n_113 * 108 + 402) ≤ 1722), k_222 a la x1 x3 x4 t0 → ig_Z D kk ad bs s H locs a la b lb lo → lv_has ls 8 [(0, .ref (ad 0)), (1, .int x1), (3, .int x3), (4, .int x4)] → W p l e ({ frames := 9, cells := 287, slots := 1722, locals := 183 } : Room) s m args below meth c H locs C S (MQ below (va_Qi (fun (r : Int32) (u : ig_M × Int64) => post r u.1 u.2) (fun u t => ig_Wd D kk ad bs u.1 u.2 b lb lo t) (ig_A bs)) args s 287 1722 (ig_A bs)) (F0 m 222 ls [.int t0])) :
    ∀ (a : ig_M) (la : Int64) (x1 : Int32) (x3 : Int32) (x4 : Int32) (x5 : Int32) (C S : Nat) (H : Heap) (locs : List Loc) (ls : Array Slot) (_ : C + (n_113 * 18 + 79) ≤ 287) (_ : S + (n_113 * 108 + 474) ≤ 1722), wp_L_isSo_147 k_221 k_222 post a la x1 x3 x4 x5 → ig_Z D kk ad bs s H locs a la b lb lo → lv_has ls 8 [(0, .ref (ad 0)), (1, .int x1), (3, .int x3), (4, .int x4), (5, .int x5)] → W p l e ({ frames := 9, cells := 287, slots := 1722, locals := 183 } : Room) s m args below meth c H locs C S (MQ below (va_Qi (fun (r : Int32) (u : ig_M × Int64) => post r u.1 u.2) (fun u t => ig_Wd D kk ad bs u.1 u.2 b lb lo t) (ig_A bs)) args s 287 1722 (ig_A bs)) (F0 m 147 ls []) := by
  intro a la x1 x3 x4 x5 C S H locs ls hC hS hf Z hl
  refine lv_iload F.1 F.2.1 dL_isSo_147 (lv_at hl 4 rfl) ?_
  refine lv_iconst (v := 1) F.1 F.2.1 dL_isSo_149 (by decide) ?_
  refine lv_icmp_eq (tgt := 173) F.1 F.2.1 dL_isSo_150 (by decide) (fun c_46 => ?_) (fun c_46 => ?_)
  · have hf := hf.1 c_46
    exact wm_L_isSo_173 l hlt F E hr hk k_221 k_222 post n_113 h_221 h_222 a la x1 x3 x4 x5 _ _ _ _ _ (by omega) (by omega) hf Z (lv_sub hl [0, 1, 2, 3, 4] rfl)
  · have hf := hf.2 c_46
    refine lv_aload_n F.1 F.2.1 dL_isSo_153 rfl (lv_at hl 0 rfl) ?_
    refine lv_iload F.1 F.2.1 dL_isSo_154 (lv_at hl 3 rfl) ?_
    refine lv_iconst (v := 1) F.1 F.2.1 dL_isSo_156 (by decide) ?_
    have hM := k_X5_ofPhase l (D := D) (kk := kk) (ad := ad) (bs := bs) (a := a) (la := la) (b := b) (lb := lb) (lo := lo) x4 1 hlt hf
    refine ig_callXi E Z (ig_runVX (As := [.int x4, .int 1]) (rest := []) F E Z hl G_L_61 hM (i := 0) (by decide) (ig_k_0 _ _ _ _ _ _) rfl rfl md_X5_ofPhase rfl ⟨rfl, rfl⟩ ⟨Nat.le_of_ble_eq_true rfl, Nat.le_of_ble_eq_true rfl⟩ (Nat.le_of_ble_eq_true rfl) dL_isSo_157 ⟨(by show _ ≤ 287; omega), (by show _ ≤ 1722; omega)⟩) (fun u q9 ce H locs hu Z hce hcv hcl => hu.elim) (fun r47 u H locs hf Z => ?_)
    have Z : ig_Z D kk ad bs _ H locs a la b lb lo := Z
    refine lv_if_ne (tgt := 221) F.1 F.2.1 dL_isSo_160 (by decide) (fun c_48 => ?_) (fun c_48 => ?_)
    · have hf := hf.1 c_48
      exact h_221 a la x1 x3 x4 _ _ _ _ _ (by omega) (by omega) hf Z (lv_sub hl [0, 1, 2, 3] rfl)
    · have hf := hf.2 c_48
      refine lv_aload_n F.1 F.2.1 dL_isSo_163 rfl (lv_at hl 0 rfl) ?_
      refine lv_iload F.1 F.2.1 dL_isSo_164 (lv_at hl 3 rfl) ?_
      refine lv_iconst (v := 2) F.1 F.2.1 dL_isSo_166 (by decide) ?_
      have hM := k_X5_ofPhase l (D := D) (kk := kk) (ad := ad) (bs := bs) (a := a) (la := la) (b := b) (lb := lb) (lo := lo) x4 2 hlt hf
      refine ig_callXi E Z (ig_runVX (As := [.int x4, .int 2]) (rest := []) F E Z hl G_L_61 hM (i := 0) (by decide) (ig_k_0 _ _ _ _ _ _) rfl rfl md_X5_ofPhase rfl ⟨rfl, rfl⟩ ⟨Nat.le_of_ble_eq_true rfl, Nat.le_of_ble_eq_true rfl⟩ (Nat.le_of_ble_eq_true rfl) dL_isSo_167 ⟨(by show _ ≤ 287; omega), (by show _ ≤ 1722; omega)⟩) (fun u q9 ce H locs hu Z hce hcv hcl => hu.elim) (fun r49 u H locs hf Z => ?_)
      have Z : ig_Z D kk ad bs _ H locs a la b lb lo := Z
      refine lv_if_ne (tgt := 221) F.1 F.2.1 dL_isSo_170 (by decide) (fun c_50 => ?_) (fun c_50 => ?_)
      · have hf := hf.1 c_50
        exact h_221 a la x1 x3 x4 _ _ _ _ _ (by omega) (by omega) hf Z (lv_sub hl [0, 1, 2, 3] rfl)
      · have hf := hf.2 c_50
        exact wm_L_isSo_173 l hlt F E hr hk k_221 k_222 post n_113 h_221 h_222 a la x1 x3 x4 x5 _ _ _ _ _ (by omega) (by omega) hf Z (lv_sub hl [0, 1, 2, 3, 4] rfl)
set_option maxHeartbeats 4000000 in
set_option maxRecDepth 100000 in
theorem wm_L_isSo_317 (l : Launch) (hlt : l.stackTraces = false) (F : CallFix p m c cL_isSo 8 s args ig_all RL) (E : ig_E D kk ad bs s) (hr : meth.sig.returnType = (some .boolean)) (hk : meth.locks = false) (post : Int32 → ig_M → Int64 → Prop) :
    ∀ n_317 : Nat, ∀ (a : ig_M) (la : Int64) (x1 : Int32) (x2 : Int32) (x4 : Int32) (x5 : Int32) (x6 : Int32) (x7 : Int32) (C S : Nat) (H : Heap) (locs : List Loc) (ls : Array Slot) (_ : C + n_317 * 4 + 2 ≤ 287) (_ : S + n_317 * 24 + 12 ≤ 1722), wp_L_isSo_317 post n_317 a la x1 x2 x4 x5 x6 x7 → ig_Z D kk ad bs s H locs a la b lb lo → lv_has ls 8 [(0, .ref (ad 0)), (1, .int x1), (2, .int x2), (4, .int x4), (5, .int x5), (6, .int x6), (7, .int x7)] → W p l e ({ frames := 9, cells := 287, slots := 1722, locals := 183 } : Room) s m args below meth c H locs C S (MQ below (va_Qi (fun (r : Int32) (u : ig_M × Int64) => post r u.1 u.2) (fun u t => ig_Wd D kk ad bs u.1 u.2 b lb lo t) (ig_A bs)) args s 287 1722 (ig_A bs)) (F0 m 317 ls []) := by
  intro n
  induction n with
  | zero => intro a la x1 x2 x4 x5 x6 x7 C S H locs ls hC hS hf Z hl; exact False.elim hf
  | succ n ih =>
    intro a la x1 x2 x4 x5 x6 x7 C S H locs ls hC hS hf Z hl
    refine lv_iload F.1 F.2.1 dL_isSo_317 (lv_at hl 6 rfl) ?_
    refine lv_iload F.1 F.2.1 dL_isSo_319 (lv_at hl 3 rfl) ?_
    refine lv_icmp_ge (tgt := 356) F.1 F.2.1 dL_isSo_321 (by decide) (fun c_74 => ?_) (fun c_74 => ?_)
    · have hf := hf.1 c_74
      refine lv_iload_n F.1 F.2.1 dL_isSo_356 rfl (lv_at hl 2 rfl) ?_
      refine lv_if_eq (tgt := 404) F.1 F.2.1 dL_isSo_357 (by decide) (fun c_75 => ?_) (fun c_75 => ?_)
      · have hf := hf.1 c_75
        refine lv_iconst (v := 0) F.1 F.2.1 dL_isSo_404 (by decide) ?_
        refine W.widen (k := 287) (n := 1722) (by omega) (by omega) ?_
        exact W.zret (v := 0) F.1 F.2.1 hr (ig_narrow (Or.inl rfl)) (fun t ht hW => ⟨⟨_, (a, la), rfl, hf, Z.wd E ht hW⟩, Z.fr ht⟩) Z.2.2.2 dL_isSo_405
      · have hf := hf.2 c_75
        refine lv_iload F.1 F.2.1 dL_isSo_360 (lv_at hl 4 rfl) ?_
        refine lv_iconst (v := 1) F.1 F.2.1 dL_isSo_362 (by decide) ?_
        refine lv_iload F.1 F.2.1 dL_isSo_363 (lv_at hl 3 rfl) ?_
        refine lv_ishl F.1 F.2.1 dL_isSo_365 ?_
        refine lv_iconst (v := 1) F.1 F.2.1 dL_isSo_366 (by decide) ?_
        refine lv_isub F.1 F.2.1 dL_isSo_367 ?_
        refine lv_icmp_ne (tgt := 404) F.1 F.2.1 dL_isSo_368 (by decide) (fun c_76 => ?_) (fun c_76 => ?_)
        · have hf := hf.1 c_76
          refine lv_iconst (v := 0) F.1 F.2.1 dL_isSo_404 (by decide) ?_
          refine W.widen (k := 287) (n := 1722) (by omega) (by omega) ?_
          exact W.zret (v := 0) F.1 F.2.1 hr (ig_narrow (Or.inl rfl)) (fun t ht hW => ⟨⟨_, (a, la), rfl, hf, Z.wd E ht hW⟩, Z.fr ht⟩) Z.2.2.2 dL_isSo_405
        · have hf := hf.2 c_76
          refine lv_iload F.1 F.2.1 dL_isSo_371 (lv_at hl 5 rfl) ?_
          refine lv_aload_n F.1 F.2.1 dL_isSo_373 rfl (lv_at hl 0 rfl) ?_
          have hM := k_X5_round l (D := D) (kk := kk) (ad := ad) (bs := bs) (a := a) (la := la) (b := b) (lb := lb) (lo := lo) hf
          refine ig_calli E Z (ig_runV (As := []) (rest := [.int x6]) F E Z hl G_L_131 hM (i := 0) (by decide) (ig_k_0 _ _ _ _ _ _) rfl rfl md_X5_round rfl ⟨rfl, rfl⟩ ⟨Nat.le_of_ble_eq_true rfl, Nat.le_of_ble_eq_true rfl⟩ (Nat.le_of_ble_eq_true rfl) dL_isSo_374 ⟨(by show _ ≤ 287; omega), (by show _ ≤ 1722; omega)⟩) (fun r77 u H locs hf Z => ?_)
          obtain ⟨a78, la79⟩ := u
          have Z : ig_Z D kk ad bs _ H locs a78 la79 b lb lo := Z
          refine lv_iload F.1 F.2.1 dL_isSo_377 (lv_at hl 3 rfl) ?_
          refine lv_isub F.1 F.2.1 dL_isSo_379 ?_
          refine lv_icmp_gt (tgt := 404) F.1 F.2.1 dL_isSo_380 (by decide) (fun c_80 => ?_) (fun c_80 => ?_)
          · have hf := hf.1 c_80
            refine lv_iconst (v := 0) F.1 F.2.1 dL_isSo_404 (by decide) ?_
            refine W.widen (k := 287) (n := 1722) (by omega) (by omega) ?_
            exact W.zret (v := 0) F.1 F.2.1 hr (ig_narrow (Or.inl rfl)) (fun t ht hW => ⟨⟨_, (a78, la79), rfl, hf, Z.wd E ht hW⟩, Z.fr ht⟩) Z.2.2.2 dL_isSo_405
          · have hf := hf.2 c_80
            refine lv_aload_n F.1 F.2.1 dL_isSo_383 rfl (lv_at hl 0 rfl) ?_
            refine lv_iload_n F.1 F.2.1 dL_isSo_384 rfl (lv_at hl 1 rfl) ?_
            refine lv_iconst (v := 3) F.1 F.2.1 dL_isSo_385 (by decide) ?_
            have hM := k_L_low l (D := D) (kk := kk) (ad := ad) (bs := bs) (a := a78) (la := la79) (b := b) (lb := lb) (lo := lo) x1 3 hf
            refine ig_calli E Z (ig_runS (As := [.int x1, .int 3]) (rest := [.ref (ad 0)]) F E Z hl G_L_76 hM rfl md_L_low rfl ⟨rfl, rfl⟩ ⟨Nat.le_of_ble_eq_true rfl, Nat.le_of_ble_eq_true rfl⟩ (Nat.le_of_ble_eq_true rfl) dL_isSo_386 ⟨(by show _ ≤ 287; omega), (by show _ ≤ 1722; omega)⟩) (fun r81 u H locs hf Z => ?_)
            have Z : ig_Z D kk ad bs _ H locs a78 la79 b lb lo := Z
            refine lv_iload_n F.1 F.2.1 dL_isSo_389 rfl (lv_at hl 1 rfl) ?_
            refine lv_iconst (v := 3) F.1 F.2.1 dL_isSo_390 (by decide) ?_
            have hM := k_L_low l (D := D) (kk := kk) (ad := ad) (bs := bs) (a := a78) (la := la79) (b := b) (lb := lb) (lo := lo) x1 3 hf
            refine ig_calli E Z (ig_runS (As := [.int x1, .int 3]) (rest := [.int r81, .ref (ad 0)]) F E Z hl G_L_76 hM rfl md_L_low rfl ⟨rfl, rfl⟩ ⟨Nat.le_of_ble_eq_true rfl, Nat.le_of_ble_eq_true rfl⟩ (Nat.le_of_ble_eq_true rfl) dL_isSo_391 ⟨(by show _ ≤ 287; omega), (by show _ ≤ 1722; omega)⟩) (fun r82 u H locs hf Z => ?_)
            have Z : ig_Z D kk ad bs _ H locs a78 la79 b lb lo := Z
            have hM := k_X5_change l (D := D) (kk := kk) (ad := ad) (bs := bs) (a := a78) (la := la79) (b := b) (lb := lb) (lo := lo) r81 r82 hlt hf
            refine ig_callXi E Z (ig_runVX (As := [.int r81, .int r82]) (rest := []) F E Z hl G_L_70 hM (i := 0) (by decide) (ig_k_0 _ _ _ _ _ _) rfl rfl md_X5_change rfl ⟨rfl, rfl⟩ ⟨Nat.le_of_ble_eq_true rfl, Nat.le_of_ble_eq_true rfl⟩ (Nat.le_of_ble_eq_true rfl) dL_isSo_394 ⟨(by show _ ≤ 287; omega), (by show _ ≤ 1722; omega)⟩) (fun u q9 ce H locs hu Z hce hcv hcl => hu.elim) (fun r83 u H locs hf Z => ?_)
            have Z : ig_Z D kk ad bs _ H locs a78 la79 b lb lo := Z
            refine lv_if_ne (tgt := 404) F.1 F.2.1 dL_isSo_397 (by decide) (fun c_84 => ?_) (fun c_84 => ?_)
            · have hf := hf.1 c_84
              refine lv_iconst (v := 0) F.1 F.2.1 dL_isSo_404 (by decide) ?_
              refine W.widen (k := 287) (n := 1722) (by omega) (by omega) ?_
              exact W.zret (v := 0) F.1 F.2.1 hr (ig_narrow (Or.inl rfl)) (fun t ht hW => ⟨⟨_, (a78, la79), rfl, hf, Z.wd E ht hW⟩, Z.fr ht⟩) Z.2.2.2 dL_isSo_405
            · have hf := hf.2 c_84
              refine lv_iconst (v := 1) F.1 F.2.1 dL_isSo_400 (by decide) ?_
              refine lv_goto (tgt := 405) F.1 F.2.1 dL_isSo_401 (by decide) ?_
              refine W.widen (k := 287) (n := 1722) (by omega) (by omega) ?_
              exact W.zret (v := 1) F.1 F.2.1 hr (ig_narrow (Or.inr rfl)) (fun t ht hW => ⟨⟨_, (a78, la79), rfl, hf, Z.wd E ht hW⟩, Z.fr ht⟩) Z.2.2.2 dL_isSo_405
    · have hf := hf.2 c_74
      refine lv_iload F.1 F.2.1 dL_isSo_324 (lv_at hl 5 rfl) ?_
      refine lv_aload_n F.1 F.2.1 dL_isSo_326 rfl (lv_at hl 0 rfl) ?_
      refine lv_aload_n F.1 F.2.1 dL_isSo_327 rfl (lv_at hl 0 rfl) ?_
      refine lv_iload F.1 F.2.1 dL_isSo_328 (lv_at hl 6 rfl) ?_
      have hM := k_X5_inRound l (D := D) (kk := kk) (ad := ad) (bs := bs) (a := a) (la := la) (b := b) (lb := lb) (lo := lo) x7 hlt hf
      refine ig_callXi E Z (ig_runVX (As := [.int x7]) (rest := [.ref (ad 0), .int x6]) F E Z hl G_L_73 hM (i := 0) (by decide) (ig_k_0 _ _ _ _ _ _) rfl rfl md_X5_inRound rfl ⟨rfl, rfl⟩ ⟨Nat.le_of_ble_eq_true rfl, Nat.le_of_ble_eq_true rfl⟩ (Nat.le_of_ble_eq_true rfl) dL_isSo_330 ⟨(by show _ ≤ 287; omega), (by show _ ≤ 1722; omega)⟩) (fun u q9 ce H locs hu Z hce hcv hcl => hu.elim) (fun r85 u H locs hf Z => ?_)
      obtain ⟨a86, la87⟩ := u
      have Z : ig_Z D kk ad bs _ H locs a86 la87 b lb lo := Z
      refine lv_aload_n F.1 F.2.1 dL_isSo_333 rfl (lv_at hl 0 rfl) ?_
      refine lv_iload F.1 F.2.1 dL_isSo_334 (lv_at hl 6 rfl) ?_
      refine lv_iconst (v := 1) F.1 F.2.1 dL_isSo_336 (by decide) ?_
      refine lv_iadd F.1 F.2.1 dL_isSo_337 ?_
      refine lv_iload F.1 F.2.1 dL_isSo_338 (lv_at hl 3 rfl) ?_
      have hz88 := hf.1
      have hf := hf.2
      refine lv_irem F.1 F.2.1 dL_isSo_340 hz88 ?_
      have hM := k_X5_inRound l (D := D) (kk := kk) (ad := ad) (bs := bs) (a := a86) (la := la87) (b := b) (lb := lb) (lo := lo) ((x7 + 1) - (x7 + 1) / x4 * x4) hlt hf
      refine ig_callXi E Z (ig_runVX (As := [.int ((x7 + 1) - (x7 + 1) / x4 * x4)]) (rest := [.int r85, .ref (ad 0), .int x6]) F E Z hl G_L_73 hM (i := 0) (by decide) (ig_k_0 _ _ _ _ _ _) rfl rfl md_X5_inRound rfl ⟨rfl, rfl⟩ ⟨Nat.le_of_ble_eq_true rfl, Nat.le_of_ble_eq_true rfl⟩ (Nat.le_of_ble_eq_true rfl) dL_isSo_341 ⟨(by show _ ≤ 287; omega), (by show _ ≤ 1722; omega)⟩) (fun u q9 ce H locs hu Z hce hcv hcl => hu.elim) (fun r89 u H locs hf Z => ?_)
      obtain ⟨a90, la91⟩ := u
      have Z : ig_Z D kk ad bs _ H locs a90 la91 b lb lo := Z
      have hM := k_X5_change l (D := D) (kk := kk) (ad := ad) (bs := bs) (a := a90) (la := la91) (b := b) (lb := lb) (lo := lo) r85 r89 hlt hf
      refine ig_callXi E Z (ig_runVX (As := [.int r85, .int r89]) (rest := [.int x6]) F E Z hl G_L_70 hM (i := 0) (by decide) (ig_k_0 _ _ _ _ _ _) rfl rfl md_X5_change rfl ⟨rfl, rfl⟩ ⟨Nat.le_of_ble_eq_true rfl, Nat.le_of_ble_eq_true rfl⟩ (Nat.le_of_ble_eq_true rfl) dL_isSo_344 ⟨(by show _ ≤ 287; omega), (by show _ ≤ 1722; omega)⟩) (fun u q9 ce H locs hu Z hce hcv hcl => hu.elim) (fun r92 u H locs hf Z => ?_)
      have Z : ig_Z D kk ad bs _ H locs a90 la91 b lb lo := Z
      refine lv_iadd F.1 F.2.1 dL_isSo_347 ?_
      refine lv_istore (lv' := [(6, .int (x6 + r92)), (0, .ref (ad 0)), (1, .int x1), (2, .int x2), (4, .int x4), (5, .int x5), (7, .int x7)]) F.1 F.2.1 dL_isSo_348 hl (by decide) rfl (fun ls hl => ?_)
      refine lv_iinc (v := x7 + 1) (lv' := [(7, .int (x7 + 1)), (6, .int (x6 + r92)), (0, .ref (ad 0)), (1, .int x1), (2, .int x2), (4, .int x4), (5, .int x5)]) F.1 F.2.1 dL_isSo_350 hl (k := 6) rfl (by rfl) (by decide) rfl (fun ls hl => ?_)
      refine lv_goto (tgt := 317) F.1 F.2.1 dL_isSo_353 (by decide) ?_
      exact ih a90 la91 x1 x2 x4 x5 (x6 + r92) (x7 + 1) _ _ _ _ _ (by omega) (by omega) hf Z (lv_sub hl [2, 3, 4, 5, 6, 1, 0] rfl)
set_option maxHeartbeats 4000000 in
set_option maxRecDepth 100000 in
theorem wm_L_isSo_279 (l : Launch) (hlt : l.stackTraces = false) (F : CallFix p m c cL_isSo 8 s args ig_all RL) (E : ig_E D kk ad bs s) (hr : meth.sig.returnType = (some .boolean)) (hk : meth.locks = false) (post : Int32 → ig_M → Int64 → Prop) :
    ∀ n_279 : Nat, ∀ (a : ig_M) (la : Int64) (x1 : Int32) (x2 : Int32) (x4 : Int32) (x5 : Int32) (C S : Nat) (H : Heap) (locs : List Loc) (ls : Array Slot) (_ : C + n_279 * 2 + 43 ≤ 287) (_ : S + n_279 * 12 + 258 ≤ 1722), wp_L_isSo_279 post n_279 a la x1 x2 x4 x5 → ig_Z D kk ad bs s H locs a la b lb lo → lv_has ls 8 [(0, .ref (ad 0)), (1, .int x1), (2, .int x2), (4, .int x4), (5, .int x5)] → W p l e ({ frames := 9, cells := 287, slots := 1722, locals := 183 } : Room) s m args below meth c H locs C S (MQ below (va_Qi (fun (r : Int32) (u : ig_M × Int64) => post r u.1 u.2) (fun u t => ig_Wd D kk ad bs u.1 u.2 b lb lo t) (ig_A bs)) args s 287 1722 (ig_A bs)) (F0 m 279 ls []) := by
  intro n
  induction n with
  | zero => intro a la x1 x2 x4 x5 C S H locs ls hC hS hf Z hl; exact False.elim hf
  | succ n ih =>
    intro a la x1 x2 x4 x5 C S H locs ls hC hS hf Z hl
    refine lv_iload_n F.1 F.2.1 dL_isSo_279 rfl (lv_at hl 2 rfl) ?_
    refine lv_if_eq (tgt := 311) F.1 F.2.1 dL_isSo_280 (by decide) (fun c_66 => ?_) (fun c_66 => ?_)
    · have hf := hf.1 c_66
      refine lv_iconst (v := 0) F.1 F.2.1 dL_isSo_311 (by decide) ?_
      refine lv_istore (lv' := [(6, .int 0), (0, .ref (ad 0)), (1, .int x1), (2, .int x2), (4, .int x4), (5, .int x5)]) F.1 F.2.1 dL_isSo_312 hl (by decide) rfl (fun ls hl => ?_)
      refine lv_iconst (v := 0) F.1 F.2.1 dL_isSo_314 (by decide) ?_
      refine lv_istore (lv' := [(7, .int 0), (6, .int 0), (0, .ref (ad 0)), (1, .int x1), (2, .int x2), (4, .int x4), (5, .int x5)]) F.1 F.2.1 dL_isSo_315 hl (by decide) rfl (fun ls hl => ?_)
      obtain ⟨n1, hn1, hf⟩ := hf
      exact wm_L_isSo_317 l hlt F E hr hk post n1 a la x1 x2 x4 x5 0 0 _ _ _ _ _ (by omega) (by omega) hf Z (lv_sub hl [2, 3, 4, 5, 6, 1, 0] rfl)
    · have hf := hf.2 c_66
      refine lv_aload_n F.1 F.2.1 dL_isSo_283 rfl (lv_at hl 0 rfl) ?_
      refine lv_iload F.1 F.2.1 dL_isSo_284 (lv_at hl 3 rfl) ?_
      have hM := k_L_inRound l (D := D) (kk := kk) (ad := ad) (bs := bs) (a := a) (la := la) (b := b) (lb := lb) (lo := lo) x4 hlt hf
      refine ig_calli E Z (ig_runSW (As := [.ref (ad 0), .int x4]) (rest := []) F E Z hl GL_134 hM md_L_inRound rfl ⟨rfl, rfl⟩ ⟨Nat.le_of_ble_eq_true rfl, Nat.le_of_ble_eq_true rfl⟩ (Nat.le_of_ble_eq_true rfl) dL_isSo_286 ⟨(by show _ ≤ 287; omega), (by show _ ≤ 1722; omega)⟩) (fun r67 u H locs hf Z => ?_)
      obtain ⟨a68, la69⟩ := u
      have Z : ig_Z D kk ad bs _ H locs a68 la69 b lb lo := Z
      refine lv_if_lt (tgt := 311) F.1 F.2.1 dL_isSo_289 (by decide) (fun c_70 => ?_) (fun c_70 => ?_)
      · have hf := hf.1 c_70
        refine lv_iconst (v := 0) F.1 F.2.1 dL_isSo_311 (by decide) ?_
        refine lv_istore (lv' := [(6, .int 0), (0, .ref (ad 0)), (1, .int x1), (2, .int x2), (4, .int x4), (5, .int x5)]) F.1 F.2.1 dL_isSo_312 hl (by decide) rfl (fun ls hl => ?_)
        refine lv_iconst (v := 0) F.1 F.2.1 dL_isSo_314 (by decide) ?_
        refine lv_istore (lv' := [(7, .int 0), (6, .int 0), (0, .ref (ad 0)), (1, .int x1), (2, .int x2), (4, .int x4), (5, .int x5)]) F.1 F.2.1 dL_isSo_315 hl (by decide) rfl (fun ls hl => ?_)
        obtain ⟨n1, hn1, hf⟩ := hf
        exact wm_L_isSo_317 l hlt F E hr hk post n1 a68 la69 x1 x2 x4 x5 0 0 _ _ _ _ _ (by omega) (by omega) hf Z (lv_sub hl [2, 3, 4, 5, 6, 1, 0] rfl)
      · have hf := hf.2 c_70
        refine lv_iload F.1 F.2.1 dL_isSo_292 (lv_at hl 4 rfl) ?_
        refine lv_iconst (v := 1) F.1 F.2.1 dL_isSo_294 (by decide) ?_
        refine lv_aload_n F.1 F.2.1 dL_isSo_295 rfl (lv_at hl 0 rfl) ?_
        refine lv_iload F.1 F.2.1 dL_isSo_296 (lv_at hl 3 rfl) ?_
        have hM := k_X5_inRound l (D := D) (kk := kk) (ad := ad) (bs := bs) (a := a68) (la := la69) (b := b) (lb := lb) (lo := lo) x4 hlt hf
        refine ig_callXi E Z (ig_runVX (As := [.int x4]) (rest := [.int 1, .int x5]) F E Z hl G_L_73 hM (i := 0) (by decide) (ig_k_0 _ _ _ _ _ _) rfl rfl md_X5_inRound rfl ⟨rfl, rfl⟩ ⟨Nat.le_of_ble_eq_true rfl, Nat.le_of_ble_eq_true rfl⟩ (Nat.le_of_ble_eq_true rfl) dL_isSo_298 ⟨(by show _ ≤ 287; omega), (by show _ ≤ 1722; omega)⟩) (fun u q9 ce H locs hu Z hce hcv hcl => hu.elim) (fun r71 u H locs hf Z => ?_)
        obtain ⟨a72, la73⟩ := u
        have Z : ig_Z D kk ad bs _ H locs a72 la73 b lb lo := Z
        refine lv_ishl F.1 F.2.1 dL_isSo_301 ?_
        refine lv_ior F.1 F.2.1 dL_isSo_302 ?_
        refine lv_istore (lv' := [(5, .int (x5 ||| (1 <<< (r71 &&& 31)))), (0, .ref (ad 0)), (1, .int x1), (2, .int x2), (4, .int x4)]) F.1 F.2.1 dL_isSo_303 hl (by decide) rfl (fun ls hl => ?_)
        refine lv_iinc (v := x4 + 1) (lv' := [(4, .int (x4 + 1)), (5, .int (x5 ||| (1 <<< (r71 &&& 31)))), (0, .ref (ad 0)), (1, .int x1), (2, .int x2)]) F.1 F.2.1 dL_isSo_305 hl (k := 4) rfl (by rfl) (by decide) rfl (fun ls hl => ?_)
        refine lv_goto (tgt := 279) F.1 F.2.1 dL_isSo_308 (by decide) ?_
        exact ih a72 la73 x1 x2 (x4 + 1) (x5 ||| (1 <<< (r71 &&& 31))) _ _ _ _ _ (by omega) (by omega) hf Z (lv_sub hl [2, 3, 4, 0, 1] rfl)
set_option maxHeartbeats 4000000 in
set_option maxRecDepth 100000 in
theorem wm_L_isSo_221 (l : Launch) (hlt : l.stackTraces = false) (F : CallFix p m c cL_isSo 8 s args ig_all RL) (E : ig_E D kk ad bs s) (hr : meth.sig.returnType = (some .boolean)) (hk : meth.locks = false) (k_222 : ig_M → Int64 → Int32 → Int32 → Int32 → Int32 → Prop) (post : Int32 → ig_M → Int64 → Prop) (n_113 : Nat) (h_222 : ∀ (a : ig_M) (la : Int64) (x1 : Int32) (x3 : Int32) (x4 : Int32) (t0 : Int32) (C S : Nat) (H : Heap) (locs : List Loc) (ls : Array Slot) (_ : C + (n_113 * 18 + 67) ≤ 287) (_ : S + (n_113 * 108 + 402) ≤ 1722), k_222 a la x1 x3 x4 t0 → ig_Z D kk ad bs s H locs a la b lb lo → lv_has ls 8 [(0, .ref (ad 0)), (1, .int x1), (3, .int x3), (4, .int x4)] → W p l e ({ frames := 9, cells := 287, slots := 1722, locals := 183 } : Room) s m args below meth c H locs C S (MQ below (va_Qi (fun (r : Int32) (u : ig_M × Int64) => post r u.1 u.2) (fun u t => ig_Wd D kk ad bs u.1 u.2 b lb lo t) (ig_A bs)) args s 287 1722 (ig_A bs)) (F0 m 222 ls [.int t0])) :
    ∀ (a : ig_M) (la : Int64) (x1 : Int32) (x3 : Int32) (x4 : Int32) (C S : Nat) (H : Heap) (locs : List Loc) (ls : Array Slot) (_ : C + (n_113 * 18 + 67) ≤ 287) (_ : S + (n_113 * 108 + 402) ≤ 1722), wp_L_isSo_221 k_222 post a la x1 x3 x4 → ig_Z D kk ad bs s H locs a la b lb lo → lv_has ls 8 [(0, .ref (ad 0)), (1, .int x1), (3, .int x3), (4, .int x4)] → W p l e ({ frames := 9, cells := 287, slots := 1722, locals := 183 } : Room) s m args below meth c H locs C S (MQ below (va_Qi (fun (r : Int32) (u : ig_M × Int64) => post r u.1 u.2) (fun u t => ig_Wd D kk ad bs u.1 u.2 b lb lo t) (ig_A bs)) args s 287 1722 (ig_A bs)) (F0 m 221 ls []) := by
  intro a la x1 x3 x4 C S H locs ls hC hS hf Z hl
  refine lv_iconst (v := 0) F.1 F.2.1 dL_isSo_221 (by decide) ?_
  exact h_222 a la x1 x3 x4 0 _ _ _ _ _ (by omega) (by omega) hf Z (lv_sub hl [0, 1, 2, 3] rfl)
set_option maxHeartbeats 4000000 in
set_option maxRecDepth 100000 in
theorem wm_L_isSo_222 (l : Launch) (hlt : l.stackTraces = false) (F : CallFix p m c cL_isSo 8 s args ig_all RL) (E : ig_E D kk ad bs s) (hr : meth.sig.returnType = (some .boolean)) (hk : meth.locks = false) (k_113 : ig_M → Int64 → Int32 → Int32 → Int32 → Int32 → Prop) (post : Int32 → ig_M → Int64 → Prop) (n_113 : Nat) (h_113 : ∀ (a : ig_M) (la : Int64) (x1 : Int32) (x2 : Int32) (x3 : Int32) (x4 : Int32) (C S : Nat) (H : Heap) (locs : List Loc) (ls : Array Slot) (_ : C + n_113 * 18 + 63 ≤ 287) (_ : S + n_113 * 108 + 378 ≤ 1722), k_113 a la x1 x2 x3 x4 → ig_Z D kk ad bs s H locs a la b lb lo → lv_has ls 8 [(0, .ref (ad 0)), (1, .int x1), (2, .int x2), (3, .int x3), (4, .int x4)] → W p l e ({ frames := 9, cells := 287, slots := 1722, locals := 183 } : Room) s m args below meth c H locs C S (MQ below (va_Qi (fun (r : Int32) (u : ig_M × Int64) => post r u.1 u.2) (fun u t => ig_Wd D kk ad bs u.1 u.2 b lb lo t) (ig_A bs)) args s 287 1722 (ig_A bs)) (F0 m 113 ls [])) :
    ∀ (a : ig_M) (la : Int64) (x1 : Int32) (x3 : Int32) (x4 : Int32) (t0 : Int32) (C S : Nat) (H : Heap) (locs : List Loc) (ls : Array Slot) (_ : C + (n_113 * 18 + 67) ≤ 287) (_ : S + (n_113 * 108 + 402) ≤ 1722), wp_L_isSo_222 k_113 post a la x1 x3 x4 t0 → ig_Z D kk ad bs s H locs a la b lb lo → lv_has ls 8 [(0, .ref (ad 0)), (1, .int x1), (3, .int x3), (4, .int x4)] → W p l e ({ frames := 9, cells := 287, slots := 1722, locals := 183 } : Room) s m args below meth c H locs C S (MQ below (va_Qi (fun (r : Int32) (u : ig_M × Int64) => post r u.1 u.2) (fun u t => ig_Wd D kk ad bs u.1 u.2 b lb lo t) (ig_A bs)) args s 287 1722 (ig_A bs)) (F0 m 222 ls [.int t0]) := by
  intro a la x1 x3 x4 t0 C S H locs ls hC hS hf Z hl
  refine lv_istore_n (lv' := [(2, .int t0), (0, .ref (ad 0)), (1, .int x1), (3, .int x3), (4, .int x4)]) F.1 F.2.1 dL_isSo_222 rfl hl (by decide) rfl (fun ls hl => ?_)
  refine lv_iload_n F.1 F.2.1 dL_isSo_223 rfl (lv_at hl 0 rfl) ?_
  refine lv_if_eq (tgt := 267) F.1 F.2.1 dL_isSo_224 (by decide) (fun c_59 => ?_) (fun c_59 => ?_)
  · have hf := hf.1 c_59
    refine lv_iinc (v := x4 + 1) (lv' := [(4, .int (x4 + 1)), (2, .int t0), (0, .ref (ad 0)), (1, .int x1), (3, .int x3)]) F.1 F.2.1 dL_isSo_267 hl (k := 4) rfl (by rfl) (by decide) rfl (fun ls hl => ?_)
    refine lv_goto (tgt := 113) F.1 F.2.1 dL_isSo_270 (by decide) ?_
    exact h_113 a la x1 t0 x3 (x4 + 1) _ _ _ _ _ (by omega) (by omega) hf Z (lv_sub hl [2, 3, 1, 4, 0] rfl)
  · have hf := hf.2 c_59
    refine lv_aload_n F.1 F.2.1 dL_isSo_227 rfl (lv_at hl 1 rfl) ?_
    refine lv_iconst (v := 2) F.1 F.2.1 dL_isSo_228 (by decide) ?_
    have hM := k_X5_of l (D := D) (kk := kk) (ad := ad) (bs := bs) (a := a) (la := la) (b := b) (lb := lb) (lo := lo) 2 hlt hf
    refine ig_callXi E Z (ig_runVX (As := [.int 2]) (rest := []) F E Z hl G_L_64 hM (i := 0) (by decide) (ig_k_0 _ _ _ _ _ _) rfl rfl md_X5_of rfl ⟨rfl, rfl⟩ ⟨Nat.le_of_ble_eq_true rfl, Nat.le_of_ble_eq_true rfl⟩ (Nat.le_of_ble_eq_true rfl) dL_isSo_229 ⟨(by show _ ≤ 287; omega), (by show _ ≤ 1722; omega)⟩) (fun u q9 ce H locs hu Z hce hcv hcl => hu.elim) (fun r60 u H locs hf Z => ?_)
    have Z : ig_Z D kk ad bs _ H locs a la b lb lo := Z
    refine lv_if_le (tgt := 267) F.1 F.2.1 dL_isSo_232 (by decide) (fun c_61 => ?_) (fun c_61 => ?_)
    · have hf := hf.1 c_61
      refine lv_iinc (v := x4 + 1) (lv' := [(4, .int (x4 + 1)), (2, .int t0), (0, .ref (ad 0)), (1, .int x1), (3, .int x3)]) F.1 F.2.1 dL_isSo_267 hl (k := 4) rfl (by rfl) (by decide) rfl (fun ls hl => ?_)
      refine lv_goto (tgt := 113) F.1 F.2.1 dL_isSo_270 (by decide) ?_
      exact h_113 a la x1 t0 x3 (x4 + 1) _ _ _ _ _ (by omega) (by omega) hf Z (lv_sub hl [2, 3, 1, 4, 0] rfl)
    · have hf := hf.2 c_61
      refine lv_aload_n F.1 F.2.1 dL_isSo_235 rfl (lv_at hl 1 rfl) ?_
      refine lv_iload F.1 F.2.1 dL_isSo_236 (lv_at hl 4 rfl) ?_
      refine lv_aload_n F.1 F.2.1 dL_isSo_238 rfl (lv_at hl 1 rfl) ?_
      refine lv_iconst (v := 2) F.1 F.2.1 dL_isSo_239 (by decide) ?_
      have hM := k_X5_of l (D := D) (kk := kk) (ad := ad) (bs := bs) (a := a) (la := la) (b := b) (lb := lb) (lo := lo) 2 hlt hf
      refine ig_callXi E Z (ig_runVX (As := [.int 2]) (rest := [.int x4, .ref (ad 0)]) F E Z hl G_L_64 hM (i := 0) (by decide) (ig_k_0 _ _ _ _ _ _) rfl rfl md_X5_of rfl ⟨rfl, rfl⟩ ⟨Nat.le_of_ble_eq_true rfl, Nat.le_of_ble_eq_true rfl⟩ (Nat.le_of_ble_eq_true rfl) dL_isSo_240 ⟨(by show _ ≤ 287; omega), (by show _ ≤ 1722; omega)⟩) (fun u q9 ce H locs hu Z hce hcv hcl => hu.elim) (fun r62 u H locs hf Z => ?_)
      have Z : ig_Z D kk ad bs _ H locs a la b lb lo := Z
      refine lv_iconst (v := 1) F.1 F.2.1 dL_isSo_243 (by decide) ?_
      refine lv_isub F.1 F.2.1 dL_isSo_244 ?_
      have hM := k_X5_lamp l (D := D) (kk := kk) (ad := ad) (bs := bs) (a := a) (la := la) (b := b) (lb := lb) (lo := lo) x4 (r62 - 1) hlt hf
      refine ig_callXi E Z (ig_runVX (As := [.int x4, .int (r62 - 1)]) (rest := []) F E Z hl G_L_58 hM (i := 0) (by decide) (ig_k_0 _ _ _ _ _ _) rfl rfl md_X5_lamp rfl ⟨rfl, rfl⟩ ⟨Nat.le_of_ble_eq_true rfl, Nat.le_of_ble_eq_true rfl⟩ (Nat.le_of_ble_eq_true rfl) dL_isSo_245 ⟨(by show _ ≤ 287; omega), (by show _ ≤ 1722; omega)⟩) (fun u q9 ce H locs hu Z hce hcv hcl => hu.elim) (fun r63 u H locs hf Z => ?_)
      have Z : ig_Z D kk ad bs _ H locs a la b lb lo := Z
      refine lv_istore (lv' := [(6, .int r63), (2, .int t0), (0, .ref (ad 0)), (1, .int x1), (3, .int x3), (4, .int x4)]) F.1 F.2.1 dL_isSo_248 hl (by decide) rfl (fun ls hl => ?_)
      refine lv_iload F.1 F.2.1 dL_isSo_250 (lv_at hl 0 rfl) ?_
      refine lv_if_lt (tgt := 265) F.1 F.2.1 dL_isSo_252 (by decide) (fun c_64 => ?_) (fun c_64 => ?_)
      · have hf := hf.1 c_64
        refine lv_iconst (v := 0) F.1 F.2.1 dL_isSo_265 (by decide) ?_
        refine lv_istore_n (lv' := [(2, .int 0), (6, .int r63), (0, .ref (ad 0)), (1, .int x1), (3, .int x3), (4, .int x4)]) F.1 F.2.1 dL_isSo_266 rfl hl (by decide) rfl (fun ls hl => ?_)
        refine lv_iinc (v := x4 + 1) (lv' := [(4, .int (x4 + 1)), (2, .int 0), (6, .int r63), (0, .ref (ad 0)), (1, .int x1), (3, .int x3)]) F.1 F.2.1 dL_isSo_267 hl (k := 5) rfl (by rfl) (by decide) rfl (fun ls hl => ?_)
        refine lv_goto (tgt := 113) F.1 F.2.1 dL_isSo_270 (by decide) ?_
        exact h_113 a la x1 0 x3 (x4 + 1) _ _ _ _ _ (by omega) (by omega) hf Z (lv_sub hl [3, 4, 1, 5, 0] rfl)
      · have hf := hf.2 c_64
        refine lv_iload F.1 F.2.1 dL_isSo_255 (lv_at hl 0 rfl) ?_
        refine lv_iconst (v := 4) F.1 F.2.1 dL_isSo_257 (by decide) ?_
        refine lv_icmp_ge (tgt := 265) F.1 F.2.1 dL_isSo_258 (by decide) (fun c_65 => ?_) (fun c_65 => ?_)
        · have hf := hf.1 c_65
          refine lv_iconst (v := 0) F.1 F.2.1 dL_isSo_265 (by decide) ?_
          refine lv_istore_n (lv' := [(2, .int 0), (6, .int r63), (0, .ref (ad 0)), (1, .int x1), (3, .int x3), (4, .int x4)]) F.1 F.2.1 dL_isSo_266 rfl hl (by decide) rfl (fun ls hl => ?_)
          refine lv_iinc (v := x4 + 1) (lv' := [(4, .int (x4 + 1)), (2, .int 0), (6, .int r63), (0, .ref (ad 0)), (1, .int x1), (3, .int x3)]) F.1 F.2.1 dL_isSo_267 hl (k := 5) rfl (by rfl) (by decide) rfl (fun ls hl => ?_)
          refine lv_goto (tgt := 113) F.1 F.2.1 dL_isSo_270 (by decide) ?_
          exact h_113 a la x1 0 x3 (x4 + 1) _ _ _ _ _ (by omega) (by omega) hf Z (lv_sub hl [3, 4, 1, 5, 0] rfl)
        · have hf := hf.2 c_65
          refine lv_iconst (v := 1) F.1 F.2.1 dL_isSo_261 (by decide) ?_
          refine lv_goto (tgt := 266) F.1 F.2.1 dL_isSo_262 (by decide) ?_
          refine lv_istore_n (lv' := [(2, .int 1), (6, .int r63), (0, .ref (ad 0)), (1, .int x1), (3, .int x3), (4, .int x4)]) F.1 F.2.1 dL_isSo_266 rfl hl (by decide) rfl (fun ls hl => ?_)
          refine lv_iinc (v := x4 + 1) (lv' := [(4, .int (x4 + 1)), (2, .int 1), (6, .int r63), (0, .ref (ad 0)), (1, .int x1), (3, .int x3)]) F.1 F.2.1 dL_isSo_267 hl (k := 5) rfl (by rfl) (by decide) rfl (fun ls hl => ?_)
          refine lv_goto (tgt := 113) F.1 F.2.1 dL_isSo_270 (by decide) ?_
          exact h_113 a la x1 1 x3 (x4 + 1) _ _ _ _ _ (by omega) (by omega) hf Z (lv_sub hl [3, 4, 1, 5, 0] rfl)
set_option maxHeartbeats 4000000 in
set_option maxRecDepth 100000 in
theorem wm_L_isSo_113 (l : Launch) (hlt : l.stackTraces = false) (F : CallFix p m c cL_isSo 8 s args ig_all RL) (E : ig_E D kk ad bs s) (hr : meth.sig.returnType = (some .boolean)) (hk : meth.locks = false) (post : Int32 → ig_M → Int64 → Prop) :
    ∀ n_113 : Nat, ∀ (a : ig_M) (la : Int64) (x1 : Int32) (x2 : Int32) (x3 : Int32) (x4 : Int32) (C S : Nat) (H : Heap) (locs : List Loc) (ls : Array Slot) (_ : C + n_113 * 18 + 63 ≤ 287) (_ : S + n_113 * 108 + 378 ≤ 1722), wp_L_isSo_113 post n_113 a la x1 x2 x3 x4 → ig_Z D kk ad bs s H locs a la b lb lo → lv_has ls 8 [(0, .ref (ad 0)), (1, .int x1), (2, .int x2), (3, .int x3), (4, .int x4)] → W p l e ({ frames := 9, cells := 287, slots := 1722, locals := 183 } : Room) s m args below meth c H locs C S (MQ below (va_Qi (fun (r : Int32) (u : ig_M × Int64) => post r u.1 u.2) (fun u t => ig_Wd D kk ad bs u.1 u.2 b lb lo t) (ig_A bs)) args s 287 1722 (ig_A bs)) (F0 m 113 ls []) := by
  intro n
  induction n with
  | zero => intro a la x1 x2 x3 x4 C S H locs ls hC hS hf Z hl; exact False.elim hf
  | succ n ih =>
    intro a la x1 x2 x3 x4 C S H locs ls hC hS hf Z hl
    refine lv_iload F.1 F.2.1 dL_isSo_113 (lv_at hl 4 rfl) ?_
    refine lv_iconst (v := 4) F.1 F.2.1 dL_isSo_115 (by decide) ?_
    refine lv_icmp_ge (tgt := 273) F.1 F.2.1 dL_isSo_116 (by decide) (fun c_40 => ?_) (fun c_40 => ?_)
    · have hf := hf.1 c_40
      refine lv_iconst (v := 0) F.1 F.2.1 dL_isSo_273 (by decide) ?_
      refine lv_istore (lv' := [(4, .int 0), (0, .ref (ad 0)), (1, .int x1), (2, .int x2), (3, .int x3)]) F.1 F.2.1 dL_isSo_274 hl (by decide) rfl (fun ls hl => ?_)
      refine lv_iconst (v := 0) F.1 F.2.1 dL_isSo_276 (by decide) ?_
      refine lv_istore (lv' := [(5, .int 0), (4, .int 0), (0, .ref (ad 0)), (1, .int x1), (2, .int x2), (3, .int x3)]) F.1 F.2.1 dL_isSo_277 hl (by decide) rfl (fun ls hl => ?_)
      obtain ⟨n1, hn1, hf⟩ := hf
      exact wm_L_isSo_279 l hlt F E hr hk post n1 a la x1 x2 0 0 _ _ _ _ _ (by omega) (by omega) hf Z (lv_sub hl [2, 3, 4, 1, 0] rfl)
    · have hf := hf.2 c_40
      refine lv_iload_n F.1 F.2.1 dL_isSo_119 rfl (lv_at hl 2 rfl) ?_
      refine lv_if_eq (tgt := 273) F.1 F.2.1 dL_isSo_120 (by decide) (fun c_41 => ?_) (fun c_41 => ?_)
      · have hf := hf.1 c_41
        refine lv_iconst (v := 0) F.1 F.2.1 dL_isSo_273 (by decide) ?_
        refine lv_istore (lv' := [(4, .int 0), (0, .ref (ad 0)), (1, .int x1), (2, .int x2), (3, .int x3)]) F.1 F.2.1 dL_isSo_274 hl (by decide) rfl (fun ls hl => ?_)
        refine lv_iconst (v := 0) F.1 F.2.1 dL_isSo_276 (by decide) ?_
        refine lv_istore (lv' := [(5, .int 0), (4, .int 0), (0, .ref (ad 0)), (1, .int x1), (2, .int x2), (3, .int x3)]) F.1 F.2.1 dL_isSo_277 hl (by decide) rfl (fun ls hl => ?_)
        obtain ⟨n1, hn1, hf⟩ := hf
        exact wm_L_isSo_279 l hlt F E hr hk post n1 a la x1 x2 0 0 _ _ _ _ _ (by omega) (by omega) hf Z (lv_sub hl [2, 3, 4, 1, 0] rfl)
      · have hf := hf.2 c_41
        refine lv_aload_n F.1 F.2.1 dL_isSo_123 rfl (lv_at hl 0 rfl) ?_
        refine lv_iload F.1 F.2.1 dL_isSo_124 (lv_at hl 4 rfl) ?_
        refine lv_iconst (v := 0) F.1 F.2.1 dL_isSo_126 (by decide) ?_
        have hM := k_X5_ofPhase l (D := D) (kk := kk) (ad := ad) (bs := bs) (a := a) (la := la) (b := b) (lb := lb) (lo := lo) x4 0 hlt hf
        refine ig_callXi E Z (ig_runVX (As := [.int x4, .int 0]) (rest := []) F E Z hl G_L_61 hM (i := 0) (by decide) (ig_k_0 _ _ _ _ _ _) rfl rfl md_X5_ofPhase rfl ⟨rfl, rfl⟩ ⟨Nat.le_of_ble_eq_true rfl, Nat.le_of_ble_eq_true rfl⟩ (Nat.le_of_ble_eq_true rfl) dL_isSo_127 ⟨(by show _ ≤ 287; omega), (by show _ ≤ 1722; omega)⟩) (fun u q9 ce H locs hu Z hce hcv hcl => hu.elim) (fun r42 u H locs hf Z => ?_)
        have Z : ig_Z D kk ad bs _ H locs a la b lb lo := Z
        refine lv_istore (lv' := [(5, .int r42), (0, .ref (ad 0)), (1, .int x1), (2, .int x2), (3, .int x3), (4, .int x4)]) F.1 F.2.1 dL_isSo_130 hl (by decide) rfl (fun ls hl => ?_)
        refine lv_iload_n F.1 F.2.1 dL_isSo_132 rfl (lv_at hl 4 rfl) ?_
        refine lv_iconst (v := 1) F.1 F.2.1 dL_isSo_133 (by decide) ?_
        refine lv_icmp_eq (tgt := 147) F.1 F.2.1 dL_isSo_134 (by decide) (fun c_43 => ?_) (fun c_43 => ?_)
        · have hf := hf.1 c_43
          exact wm_L_isSo_147 l hlt F E hr hk (wp_L_isSo_221 (wp_L_isSo_222 (fun (z0 : ig_M) (z1 : Int64) (z2 : Int32) (z3 : Int32) (z4 : Int32) (z5 : Int32) => wp_L_isSo_113 post n z0 z1 z2 z3 z4 z5) post) post) (wp_L_isSo_222 (fun (z0 : ig_M) (z1 : Int64) (z2 : Int32) (z3 : Int32) (z4 : Int32) (z5 : Int32) => wp_L_isSo_113 post n z0 z1 z2 z3 z4 z5) post) post n (fun v0 v1 v2 v3 v4 C S H locs ls hC hS hf Z hl => wm_L_isSo_221 l hlt F E hr hk (wp_L_isSo_222 (fun (z0 : ig_M) (z1 : Int64) (z2 : Int32) (z3 : Int32) (z4 : Int32) (z5 : Int32) => wp_L_isSo_113 post n z0 z1 z2 z3 z4 z5) post) post n (fun v0 v1 v2 v3 v4 v5 C S H locs ls hC hS hf Z hl => wm_L_isSo_222 l hlt F E hr hk (fun (z0 : ig_M) (z1 : Int64) (z2 : Int32) (z3 : Int32) (z4 : Int32) (z5 : Int32) => wp_L_isSo_113 post n z0 z1 z2 z3 z4 z5) post n ih v0 v1 v2 v3 v4 v5 C S H locs ls (by omega) (by omega) hf Z hl) v0 v1 v2 v3 v4 C S H locs ls (by omega) (by omega) hf Z hl) (fun v0 v1 v2 v3 v4 v5 C S H locs ls hC hS hf Z hl => wm_L_isSo_222 l hlt F E hr hk (fun (z0 : ig_M) (z1 : Int64) (z2 : Int32) (z3 : Int32) (z4 : Int32) (z5 : Int32) => wp_L_isSo_113 post n z0 z1 z2 z3 z4 z5) post n ih v0 v1 v2 v3 v4 v5 C S H locs ls (by omega) (by omega) hf Z hl) a la x1 x3 x4 r42 _ _ _ _ _ (by omega) (by omega) hf Z (lv_sub hl [1, 2, 4, 5, 0] rfl)
        · have hf := hf.2 c_43
          refine lv_iload_n F.1 F.2.1 dL_isSo_137 rfl (lv_at hl 4 rfl) ?_
          refine lv_iconst (v := 2) F.1 F.2.1 dL_isSo_138 (by decide) ?_
          refine lv_icmp_eq (tgt := 147) F.1 F.2.1 dL_isSo_139 (by decide) (fun c_44 => ?_) (fun c_44 => ?_)
          · have hf := hf.1 c_44
            exact wm_L_isSo_147 l hlt F E hr hk (wp_L_isSo_221 (wp_L_isSo_222 (fun (z0 : ig_M) (z1 : Int64) (z2 : Int32) (z3 : Int32) (z4 : Int32) (z5 : Int32) => wp_L_isSo_113 post n z0 z1 z2 z3 z4 z5) post) post) (wp_L_isSo_222 (fun (z0 : ig_M) (z1 : Int64) (z2 : Int32) (z3 : Int32) (z4 : Int32) (z5 : Int32) => wp_L_isSo_113 post n z0 z1 z2 z3 z4 z5) post) post n (fun v0 v1 v2 v3 v4 C S H locs ls hC hS hf Z hl => wm_L_isSo_221 l hlt F E hr hk (wp_L_isSo_222 (fun (z0 : ig_M) (z1 : Int64) (z2 : Int32) (z3 : Int32) (z4 : Int32) (z5 : Int32) => wp_L_isSo_113 post n z0 z1 z2 z3 z4 z5) post) post n (fun v0 v1 v2 v3 v4 v5 C S H locs ls hC hS hf Z hl => wm_L_isSo_222 l hlt F E hr hk (fun (z0 : ig_M) (z1 : Int64) (z2 : Int32) (z3 : Int32) (z4 : Int32) (z5 : Int32) => wp_L_isSo_113 post n z0 z1 z2 z3 z4 z5) post n ih v0 v1 v2 v3 v4 v5 C S H locs ls (by omega) (by omega) hf Z hl) v0 v1 v2 v3 v4 C S H locs ls (by omega) (by omega) hf Z hl) (fun v0 v1 v2 v3 v4 v5 C S H locs ls hC hS hf Z hl => wm_L_isSo_222 l hlt F E hr hk (fun (z0 : ig_M) (z1 : Int64) (z2 : Int32) (z3 : Int32) (z4 : Int32) (z5 : Int32) => wp_L_isSo_113 post n z0 z1 z2 z3 z4 z5) post n ih v0 v1 v2 v3 v4 v5 C S H locs ls (by omega) (by omega) hf Z hl) a la x1 x3 x4 r42 _ _ _ _ _ (by omega) (by omega) hf Z (lv_sub hl [1, 2, 4, 5, 0] rfl)
          · have hf := hf.2 c_44
            refine lv_iload F.1 F.2.1 dL_isSo_142 (lv_at hl 0 rfl) ?_
            refine lv_if_ne (tgt := 221) F.1 F.2.1 dL_isSo_144 (by decide) (fun c_45 => ?_) (fun c_45 => ?_)
            · have hf := hf.1 c_45
              exact wm_L_isSo_221 l hlt F E hr hk (wp_L_isSo_222 (fun (z0 : ig_M) (z1 : Int64) (z2 : Int32) (z3 : Int32) (z4 : Int32) (z5 : Int32) => wp_L_isSo_113 post n z0 z1 z2 z3 z4 z5) post) post n (fun v0 v1 v2 v3 v4 v5 C S H locs ls hC hS hf Z hl => wm_L_isSo_222 l hlt F E hr hk (fun (z0 : ig_M) (z1 : Int64) (z2 : Int32) (z3 : Int32) (z4 : Int32) (z5 : Int32) => wp_L_isSo_113 post n z0 z1 z2 z3 z4 z5) post n ih v0 v1 v2 v3 v4 v5 C S H locs ls (by omega) (by omega) hf Z hl) a la x1 x3 x4 _ _ _ _ _ (by omega) (by omega) hf Z (lv_sub hl [1, 2, 4, 5] rfl)
            · have hf := hf.2 c_45
              exact wm_L_isSo_147 l hlt F E hr hk (wp_L_isSo_221 (wp_L_isSo_222 (fun (z0 : ig_M) (z1 : Int64) (z2 : Int32) (z3 : Int32) (z4 : Int32) (z5 : Int32) => wp_L_isSo_113 post n z0 z1 z2 z3 z4 z5) post) post) (wp_L_isSo_222 (fun (z0 : ig_M) (z1 : Int64) (z2 : Int32) (z3 : Int32) (z4 : Int32) (z5 : Int32) => wp_L_isSo_113 post n z0 z1 z2 z3 z4 z5) post) post n (fun v0 v1 v2 v3 v4 C S H locs ls hC hS hf Z hl => wm_L_isSo_221 l hlt F E hr hk (wp_L_isSo_222 (fun (z0 : ig_M) (z1 : Int64) (z2 : Int32) (z3 : Int32) (z4 : Int32) (z5 : Int32) => wp_L_isSo_113 post n z0 z1 z2 z3 z4 z5) post) post n (fun v0 v1 v2 v3 v4 v5 C S H locs ls hC hS hf Z hl => wm_L_isSo_222 l hlt F E hr hk (fun (z0 : ig_M) (z1 : Int64) (z2 : Int32) (z3 : Int32) (z4 : Int32) (z5 : Int32) => wp_L_isSo_113 post n z0 z1 z2 z3 z4 z5) post n ih v0 v1 v2 v3 v4 v5 C S H locs ls (by omega) (by omega) hf Z hl) v0 v1 v2 v3 v4 C S H locs ls (by omega) (by omega) hf Z hl) (fun v0 v1 v2 v3 v4 v5 C S H locs ls hC hS hf Z hl => wm_L_isSo_222 l hlt F E hr hk (fun (z0 : ig_M) (z1 : Int64) (z2 : Int32) (z3 : Int32) (z4 : Int32) (z5 : Int32) => wp_L_isSo_113 post n z0 z1 z2 z3 z4 z5) post n ih v0 v1 v2 v3 v4 v5 C S H locs ls (by omega) (by omega) hf Z hl) a la x1 x3 x4 r42 _ _ _ _ _ (by omega) (by omega) hf Z (lv_sub hl [1, 2, 4, 5, 0] rfl)
set_option maxHeartbeats 4000000 in
set_option maxRecDepth 100000 in
theorem wm_L_isSo_103 (l : Launch) (hlt : l.stackTraces = false) (F : CallFix p m c cL_isSo 8 s args ig_all RL) (E : ig_E D kk ad bs s) (hr : meth.sig.returnType = (some .boolean)) (hk : meth.locks = false) (post : Int32 → ig_M → Int64 → Prop) :
    ∀ (a : ig_M) (la : Int64) (x1 : Int32) (t0 : Int32) (C S : Nat) (H : Heap) (locs : List Loc) (ls : Array Slot) (_ : C + 244 ≤ 287) (_ : S + 1464 ≤ 1722), wp_L_isSo_103 post a la x1 t0 → ig_Z D kk ad bs s H locs a la b lb lo → lv_has ls 8 [(0, .ref (ad 0)), (1, .int x1)] → W p l e ({ frames := 9, cells := 287, slots := 1722, locals := 183 } : Room) s m args below meth c H locs C S (MQ below (va_Qi (fun (r : Int32) (u : ig_M × Int64) => post r u.1 u.2) (fun u t => ig_Wd D kk ad bs u.1 u.2 b lb lo t) (ig_A bs)) args s 287 1722 (ig_A bs)) (F0 m 103 ls [.int t0]) := by
  intro a la x1 t0 C S H locs ls hC hS hf Z hl
  refine lv_istore_n (lv' := [(2, .int t0), (0, .ref (ad 0)), (1, .int x1)]) F.1 F.2.1 dL_isSo_103 rfl hl (by decide) rfl (fun ls hl => ?_)
  refine lv_aload_n F.1 F.2.1 dL_isSo_104 rfl (lv_at hl 1 rfl) ?_
  refine lv_iconst (v := 0) F.1 F.2.1 dL_isSo_105 (by decide) ?_
  have hM := k_X5_of l (D := D) (kk := kk) (ad := ad) (bs := bs) (a := a) (la := la) (b := b) (lb := lb) (lo := lo) 0 hlt hf
  refine ig_callXi E Z (ig_runVX (As := [.int 0]) (rest := []) F E Z hl G_L_64 hM (i := 0) (by decide) (ig_k_0 _ _ _ _ _ _) rfl rfl md_X5_of rfl ⟨rfl, rfl⟩ ⟨Nat.le_of_ble_eq_true rfl, Nat.le_of_ble_eq_true rfl⟩ (Nat.le_of_ble_eq_true rfl) dL_isSo_106 ⟨(by show _ ≤ 287; omega), (by show _ ≤ 1722; omega)⟩) (fun u q9 ce H locs hu Z hce hcv hcl => hu.elim) (fun r39 u H locs hf Z => ?_)
  have Z : ig_Z D kk ad bs _ H locs a la b lb lo := Z
  refine lv_istore_n (lv' := [(3, .int r39), (2, .int t0), (0, .ref (ad 0)), (1, .int x1)]) F.1 F.2.1 dL_isSo_109 rfl hl (by decide) rfl (fun ls hl => ?_)
  refine lv_iconst (v := 0) F.1 F.2.1 dL_isSo_110 (by decide) ?_
  refine lv_istore (lv' := [(4, .int 0), (3, .int r39), (2, .int t0), (0, .ref (ad 0)), (1, .int x1)]) F.1 F.2.1 dL_isSo_111 hl (by decide) rfl (fun ls hl => ?_)
  obtain ⟨n1, hn1, hf⟩ := hf
  exact wm_L_isSo_113 l hlt F E hr hk post n1 a la x1 t0 r39 0 _ _ _ _ _ (by omega) (by omega) hf Z (lv_sub hl [3, 4, 2, 1, 0] rfl)
set_option maxHeartbeats 4000000 in
set_option maxRecDepth 100000 in
theorem wm_L_isSo_33 (l : Launch) (hlt : l.stackTraces = false) (F : CallFix p m c cL_isSo 8 s args ig_all RL) (E : ig_E D kk ad bs s) (hr : meth.sig.returnType = (some .boolean)) (hk : meth.locks = false) (post : Int32 → ig_M → Int64 → Prop) :
    ∀ (a : ig_M) (la : Int64) (x1 : Int32) (t0 : Int32) (C S : Nat) (H : Heap) (locs : List Loc) (ls : Array Slot) (_ : C + 286 ≤ 287) (_ : S + 1716 ≤ 1722), wp_L_isSo_33 post a la x1 t0 → ig_Z D kk ad bs s H locs a la b lb lo → lv_has ls 8 [(0, .ref (ad 0)), (1, .int x1)] → W p l e ({ frames := 9, cells := 287, slots := 1722, locals := 183 } : Room) s m args below meth c H locs C S (MQ below (va_Qi (fun (r : Int32) (u : ig_M × Int64) => post r u.1 u.2) (fun u t => ig_Wd D kk ad bs u.1 u.2 b lb lo t) (ig_A bs)) args s 287 1722 (ig_A bs)) (F0 m 33 ls [.int t0]) := by
  intro a la x1 t0 C S H locs ls hC hS hf Z hl
  refine lv_istore_n (lv' := [(2, .int t0), (0, .ref (ad 0)), (1, .int x1)]) F.1 F.2.1 dL_isSo_33 rfl hl (by decide) rfl (fun ls hl => ?_)
  refine lv_iload_n F.1 F.2.1 dL_isSo_34 rfl (lv_at hl 0 rfl) ?_
  refine lv_if_eq (tgt := 102) F.1 F.2.1 dL_isSo_35 (by decide) (fun c_14 => ?_) (fun c_14 => ?_)
  · have hf := hf.1 c_14
    exact wm_L_isSo_102 l hlt F E hr hk (wp_L_isSo_103 post) post (fun v0 v1 v2 v3 C S H locs ls hC hS hf Z hl => wm_L_isSo_103 l hlt F E hr hk post v0 v1 v2 v3 C S H locs ls (by omega) (by omega) hf Z hl) a la x1 _ _ _ _ _ (by omega) (by omega) hf Z (lv_sub hl [1, 2] rfl)
  · have hf := hf.2 c_14
    refine lv_aload_n F.1 F.2.1 dL_isSo_38 rfl (lv_at hl 1 rfl) ?_
    refine lv_iconst (v := 0) F.1 F.2.1 dL_isSo_39 (by decide) ?_
    refine lv_iconst (v := 1) F.1 F.2.1 dL_isSo_40 (by decide) ?_
    refine lv_iconst (v := 1) F.1 F.2.1 dL_isSo_41 (by decide) ?_
    have hM := k_L_isSafe l (D := D) (kk := kk) (ad := ad) (bs := bs) (a := a) (la := la) (b := b) (lb := lb) (lo := lo) 0 1 1 hlt hf
    refine ig_calli E Z (ig_runS (As := [.ref (ad 0), .int 0, .int 1, .int 1]) (rest := []) F E Z hl G_L_136 hM rfl md_L_isSafe rfl ⟨rfl, rfl⟩ ⟨Nat.le_of_ble_eq_true rfl, Nat.le_of_ble_eq_true rfl⟩ (Nat.le_of_ble_eq_true rfl) dL_isSo_42 ⟨(by show _ ≤ 287; omega), (by show _ ≤ 1722; omega)⟩) (fun r15 u H locs hf Z => ?_)
    obtain ⟨a16, la17⟩ := u
    have Z : ig_Z D kk ad bs _ H locs a16 la17 b lb lo := Z
    refine lv_if_eq (tgt := 102) F.1 F.2.1 dL_isSo_45 (by decide) (fun c_18 => ?_) (fun c_18 => ?_)
    · have hf := hf.1 c_18
      exact wm_L_isSo_102 l hlt F E hr hk (wp_L_isSo_103 post) post (fun v0 v1 v2 v3 C S H locs ls hC hS hf Z hl => wm_L_isSo_103 l hlt F E hr hk post v0 v1 v2 v3 C S H locs ls (by omega) (by omega) hf Z hl) a16 la17 x1 _ _ _ _ _ (by omega) (by omega) hf Z (lv_sub hl [1, 2] rfl)
    · have hf := hf.2 c_18
      refine lv_aload_n F.1 F.2.1 dL_isSo_48 rfl (lv_at hl 1 rfl) ?_
      refine lv_iconst (v := 1) F.1 F.2.1 dL_isSo_49 (by decide) ?_
      refine lv_iconst (v := 0) F.1 F.2.1 dL_isSo_50 (by decide) ?_
      refine lv_iconst (v := 1) F.1 F.2.1 dL_isSo_51 (by decide) ?_
      have hM := k_L_isSafe l (D := D) (kk := kk) (ad := ad) (bs := bs) (a := a16) (la := la17) (b := b) (lb := lb) (lo := lo) 1 0 1 hlt hf
      refine ig_calli E Z (ig_runS (As := [.ref (ad 0), .int 1, .int 0, .int 1]) (rest := []) F E Z hl G_L_136 hM rfl md_L_isSafe rfl ⟨rfl, rfl⟩ ⟨Nat.le_of_ble_eq_true rfl, Nat.le_of_ble_eq_true rfl⟩ (Nat.le_of_ble_eq_true rfl) dL_isSo_52 ⟨(by show _ ≤ 287; omega), (by show _ ≤ 1722; omega)⟩) (fun r19 u H locs hf Z => ?_)
      obtain ⟨a20, la21⟩ := u
      have Z : ig_Z D kk ad bs _ H locs a20 la21 b lb lo := Z
      refine lv_if_eq (tgt := 102) F.1 F.2.1 dL_isSo_55 (by decide) (fun c_22 => ?_) (fun c_22 => ?_)
      · have hf := hf.1 c_22
        exact wm_L_isSo_102 l hlt F E hr hk (wp_L_isSo_103 post) post (fun v0 v1 v2 v3 C S H locs ls hC hS hf Z hl => wm_L_isSo_103 l hlt F E hr hk post v0 v1 v2 v3 C S H locs ls (by omega) (by omega) hf Z hl) a20 la21 x1 _ _ _ _ _ (by omega) (by omega) hf Z (lv_sub hl [1, 2] rfl)
      · have hf := hf.2 c_22
        refine lv_aload_n F.1 F.2.1 dL_isSo_58 rfl (lv_at hl 1 rfl) ?_
        refine lv_iconst (v := 0) F.1 F.2.1 dL_isSo_59 (by decide) ?_
        refine lv_iconst (v := 2) F.1 F.2.1 dL_isSo_60 (by decide) ?_
        refine lv_iconst (v := 1) F.1 F.2.1 dL_isSo_61 (by decide) ?_
        have hM := k_L_isSafe l (D := D) (kk := kk) (ad := ad) (bs := bs) (a := a20) (la := la21) (b := b) (lb := lb) (lo := lo) 0 2 1 hlt hf
        refine ig_calli E Z (ig_runS (As := [.ref (ad 0), .int 0, .int 2, .int 1]) (rest := []) F E Z hl G_L_136 hM rfl md_L_isSafe rfl ⟨rfl, rfl⟩ ⟨Nat.le_of_ble_eq_true rfl, Nat.le_of_ble_eq_true rfl⟩ (Nat.le_of_ble_eq_true rfl) dL_isSo_62 ⟨(by show _ ≤ 287; omega), (by show _ ≤ 1722; omega)⟩) (fun r23 u H locs hf Z => ?_)
        obtain ⟨a24, la25⟩ := u
        have Z : ig_Z D kk ad bs _ H locs a24 la25 b lb lo := Z
        refine lv_if_eq (tgt := 102) F.1 F.2.1 dL_isSo_65 (by decide) (fun c_26 => ?_) (fun c_26 => ?_)
        · have hf := hf.1 c_26
          exact wm_L_isSo_102 l hlt F E hr hk (wp_L_isSo_103 post) post (fun v0 v1 v2 v3 C S H locs ls hC hS hf Z hl => wm_L_isSo_103 l hlt F E hr hk post v0 v1 v2 v3 C S H locs ls (by omega) (by omega) hf Z hl) a24 la25 x1 _ _ _ _ _ (by omega) (by omega) hf Z (lv_sub hl [1, 2] rfl)
        · have hf := hf.2 c_26
          refine lv_aload_n F.1 F.2.1 dL_isSo_68 rfl (lv_at hl 1 rfl) ?_
          refine lv_iconst (v := 2) F.1 F.2.1 dL_isSo_69 (by decide) ?_
          refine lv_iconst (v := 3) F.1 F.2.1 dL_isSo_70 (by decide) ?_
          refine lv_iconst (v := 1) F.1 F.2.1 dL_isSo_71 (by decide) ?_
          have hM := k_L_isSafe l (D := D) (kk := kk) (ad := ad) (bs := bs) (a := a24) (la := la25) (b := b) (lb := lb) (lo := lo) 2 3 1 hlt hf
          refine ig_calli E Z (ig_runS (As := [.ref (ad 0), .int 2, .int 3, .int 1]) (rest := []) F E Z hl G_L_136 hM rfl md_L_isSafe rfl ⟨rfl, rfl⟩ ⟨Nat.le_of_ble_eq_true rfl, Nat.le_of_ble_eq_true rfl⟩ (Nat.le_of_ble_eq_true rfl) dL_isSo_72 ⟨(by show _ ≤ 287; omega), (by show _ ≤ 1722; omega)⟩) (fun r27 u H locs hf Z => ?_)
          obtain ⟨a28, la29⟩ := u
          have Z : ig_Z D kk ad bs _ H locs a28 la29 b lb lo := Z
          refine lv_if_eq (tgt := 102) F.1 F.2.1 dL_isSo_75 (by decide) (fun c_30 => ?_) (fun c_30 => ?_)
          · have hf := hf.1 c_30
            exact wm_L_isSo_102 l hlt F E hr hk (wp_L_isSo_103 post) post (fun v0 v1 v2 v3 C S H locs ls hC hS hf Z hl => wm_L_isSo_103 l hlt F E hr hk post v0 v1 v2 v3 C S H locs ls (by omega) (by omega) hf Z hl) a28 la29 x1 _ _ _ _ _ (by omega) (by omega) hf Z (lv_sub hl [1, 2] rfl)
          · have hf := hf.2 c_30
            refine lv_aload_n F.1 F.2.1 dL_isSo_78 rfl (lv_at hl 1 rfl) ?_
            refine lv_iconst (v := 3) F.1 F.2.1 dL_isSo_79 (by decide) ?_
            refine lv_iconst (v := 2) F.1 F.2.1 dL_isSo_80 (by decide) ?_
            refine lv_iconst (v := 1) F.1 F.2.1 dL_isSo_81 (by decide) ?_
            have hM := k_L_isSafe l (D := D) (kk := kk) (ad := ad) (bs := bs) (a := a28) (la := la29) (b := b) (lb := lb) (lo := lo) 3 2 1 hlt hf
            refine ig_calli E Z (ig_runS (As := [.ref (ad 0), .int 3, .int 2, .int 1]) (rest := []) F E Z hl G_L_136 hM rfl md_L_isSafe rfl ⟨rfl, rfl⟩ ⟨Nat.le_of_ble_eq_true rfl, Nat.le_of_ble_eq_true rfl⟩ (Nat.le_of_ble_eq_true rfl) dL_isSo_82 ⟨(by show _ ≤ 287; omega), (by show _ ≤ 1722; omega)⟩) (fun r31 u H locs hf Z => ?_)
            obtain ⟨a32, la33⟩ := u
            have Z : ig_Z D kk ad bs _ H locs a32 la33 b lb lo := Z
            refine lv_if_eq (tgt := 102) F.1 F.2.1 dL_isSo_85 (by decide) (fun c_34 => ?_) (fun c_34 => ?_)
            · have hf := hf.1 c_34
              exact wm_L_isSo_102 l hlt F E hr hk (wp_L_isSo_103 post) post (fun v0 v1 v2 v3 C S H locs ls hC hS hf Z hl => wm_L_isSo_103 l hlt F E hr hk post v0 v1 v2 v3 C S H locs ls (by omega) (by omega) hf Z hl) a32 la33 x1 _ _ _ _ _ (by omega) (by omega) hf Z (lv_sub hl [1, 2] rfl)
            · have hf := hf.2 c_34
              refine lv_aload_n F.1 F.2.1 dL_isSo_88 rfl (lv_at hl 1 rfl) ?_
              refine lv_iconst (v := 2) F.1 F.2.1 dL_isSo_89 (by decide) ?_
              refine lv_iconst (v := 0) F.1 F.2.1 dL_isSo_90 (by decide) ?_
              refine lv_iconst (v := 1) F.1 F.2.1 dL_isSo_91 (by decide) ?_
              have hM := k_L_isSafe l (D := D) (kk := kk) (ad := ad) (bs := bs) (a := a32) (la := la33) (b := b) (lb := lb) (lo := lo) 2 0 1 hlt hf
              refine ig_calli E Z (ig_runS (As := [.ref (ad 0), .int 2, .int 0, .int 1]) (rest := []) F E Z hl G_L_136 hM rfl md_L_isSafe rfl ⟨rfl, rfl⟩ ⟨Nat.le_of_ble_eq_true rfl, Nat.le_of_ble_eq_true rfl⟩ (Nat.le_of_ble_eq_true rfl) dL_isSo_92 ⟨(by show _ ≤ 287; omega), (by show _ ≤ 1722; omega)⟩) (fun r35 u H locs hf Z => ?_)
              obtain ⟨a36, la37⟩ := u
              have Z : ig_Z D kk ad bs _ H locs a36 la37 b lb lo := Z
              refine lv_if_eq (tgt := 102) F.1 F.2.1 dL_isSo_95 (by decide) (fun c_38 => ?_) (fun c_38 => ?_)
              · have hf := hf.1 c_38
                exact wm_L_isSo_102 l hlt F E hr hk (wp_L_isSo_103 post) post (fun v0 v1 v2 v3 C S H locs ls hC hS hf Z hl => wm_L_isSo_103 l hlt F E hr hk post v0 v1 v2 v3 C S H locs ls (by omega) (by omega) hf Z hl) a36 la37 x1 _ _ _ _ _ (by omega) (by omega) hf Z (lv_sub hl [1, 2] rfl)
              · have hf := hf.2 c_38
                refine lv_iconst (v := 1) F.1 F.2.1 dL_isSo_98 (by decide) ?_
                refine lv_goto (tgt := 103) F.1 F.2.1 dL_isSo_99 (by decide) ?_
                exact wm_L_isSo_103 l hlt F E hr hk post a36 la37 x1 1 _ _ _ _ _ (by omega) (by omega) hf Z (lv_sub hl [1, 2] rfl)
set_option maxHeartbeats 4000000 in
set_option maxRecDepth 100000 in
theorem k_L_isSo (l : Launch) {D : va_G} {kk : Nat → ClassId} {ad : Nat → Nat} {bs : Nat} {a : ig_M} {la : Int64} {b : ig_M} {lb lo : Int64} (x1 : Int32) (hlt : l.stackTraces = false) {post : Int32 → ig_M → Int64 → Prop} (hf : wp_L_isSo a la x1 post) : Met l yL_isSo (ig_ws yL_isSo cL_isSo 8 (some .boolean)) ({ frames := 9, cells := 287, slots := 1722, locals := 183 } : Room) (va_Pc [.ref (ad 0), .int x1] (ig_Wd D kk ad bs a la b lb lo)) (va_Qi (fun (r : Int32) (u : ig_M × Int64) => post r u.1 u.2) (fun u t => ig_Wd D kk ad bs u.1 u.2 b lb lo t) (ig_A bs)) 287 1722 (ig_A bs) := by
  refine Met.ofW (cc := cL_isSo) (maxL := 8) (ret := (some .boolean)) (by decide) rfl ?_
  intro p e s m args below meth c s₁ B hml hv
  obtain ⟨rfl, E, hP⟩ := hv
  have hk := B.notSynchronized
  have hr := B.returns
  have F : CallFix p m c cL_isSo 8 s _ ig_all RL := ⟨B.exec, B.bytes, hml, findClass_of_methodNamed B.named, fun w hw => atoms_spec B.pre w (List.mem_cons_of_mem _ hw)⟩
  have Z : ig_Z D kk ad bs s s.heap [] a la b lb lo := ig_Z.rf hP
  have hl := lv_entry ([.ref (ad 0), .int x1]) (n := 8) (Nat.le_of_ble_eq_true rfl)
  rw [lg_entry_eq]
  generalize (lg_sl ([.ref (ad 0), .int x1]) ++ List.replicate (8 - (lg_sl ([.ref (ad 0), .int x1])).length) Slot.unset).toArray = ls at hl ⊢
  have hl : lv_has ls 8 [(0, .ref (ad 0)), (1, .int x1)] := hl
  refine lv_aload_n F.1 F.2.1 dL_isSo_0 rfl (lv_at hl 0 rfl) ?_
  have hM := k_X5_round l (D := D) (kk := kk) (ad := ad) (bs := bs) (a := a) (la := la) (b := b) (lb := lb) (lo := lo) hf
  refine ig_calli E Z (ig_runV (As := []) (rest := []) F E Z hl G_L_131 hM (i := 0) (by decide) (ig_k_0 _ _ _ _ _ _) rfl rfl md_X5_round rfl ⟨rfl, rfl⟩ ⟨Nat.le_of_ble_eq_true rfl, Nat.le_of_ble_eq_true rfl⟩ (Nat.le_of_ble_eq_true rfl) dL_isSo_1 ⟨(by show _ ≤ 287; omega), (by show _ ≤ 1722; omega)⟩) (fun r1 u H locs hf Z => ?_)
  obtain ⟨a2, la3⟩ := u
  have Z : ig_Z D kk ad bs _ H locs a2 la3 b lb lo := Z
  refine lv_aload_n F.1 F.2.1 dL_isSo_4 rfl (lv_at hl 0 rfl) ?_
  have hM := k_X5_roundAnew l (D := D) (kk := kk) (ad := ad) (bs := bs) (a := a2) (la := la3) (b := b) (lb := lb) (lo := lo) hf
  refine ig_calli E Z (ig_runV (As := []) (rest := [.int r1]) F E Z hl G_L_95 hM (i := 0) (by decide) (ig_k_0 _ _ _ _ _ _) rfl rfl md_X5_roundAnew rfl ⟨rfl, rfl⟩ ⟨Nat.le_of_ble_eq_true rfl, Nat.le_of_ble_eq_true rfl⟩ (Nat.le_of_ble_eq_true rfl) dL_isSo_5 ⟨(by show _ ≤ 287; omega), (by show _ ≤ 1722; omega)⟩) (fun r4 u H locs hf Z => ?_)
  obtain ⟨a5, la6⟩ := u
  have Z : ig_Z D kk ad bs _ H locs a5 la6 b lb lo := Z
  refine lv_icmp_ne (tgt := 32) F.1 F.2.1 dL_isSo_8 (by decide) (fun c_7 => ?_) (fun c_7 => ?_)
  · have hf := hf.1 c_7
    exact wm_L_isSo_32 l hlt F E hr hk (wp_L_isSo_33 post) post (fun v0 v1 v2 v3 C S H locs ls hC hS hf Z hl => wm_L_isSo_33 l hlt F E hr hk post v0 v1 v2 v3 C S H locs ls (by omega) (by omega) hf Z hl) a5 la6 x1 _ _ _ _ _ (by omega) (by omega) hf Z (lv_sub hl [0, 1] rfl)
  · have hf := hf.2 c_7
    refine lv_aload_n F.1 F.2.1 dL_isSo_11 rfl (lv_at hl 0 rfl) ?_
    refine lv_iconst (v := 0) F.1 F.2.1 dL_isSo_12 (by decide) ?_
    have hM := k_X5_inRound l (D := D) (kk := kk) (ad := ad) (bs := bs) (a := a5) (la := la6) (b := b) (lb := lb) (lo := lo) 0 hlt hf
    refine ig_callXi E Z (ig_runVX (As := [.int 0]) (rest := []) F E Z hl G_L_73 hM (i := 0) (by decide) (ig_k_0 _ _ _ _ _ _) rfl rfl md_X5_inRound rfl ⟨rfl, rfl⟩ ⟨Nat.le_of_ble_eq_true rfl, Nat.le_of_ble_eq_true rfl⟩ (Nat.le_of_ble_eq_true rfl) dL_isSo_13 ⟨(by show _ ≤ 287; omega), (by show _ ≤ 1722; omega)⟩) (fun u q9 ce H locs hu Z hce hcv hcl => hu.elim) (fun r8 u H locs hf Z => ?_)
    obtain ⟨a9, la10⟩ := u
    have Z : ig_Z D kk ad bs _ H locs a9 la10 b lb lo := Z
    refine lv_if_ne (tgt := 32) F.1 F.2.1 dL_isSo_16 (by decide) (fun c_11 => ?_) (fun c_11 => ?_)
    · have hf := hf.1 c_11
      exact wm_L_isSo_32 l hlt F E hr hk (wp_L_isSo_33 post) post (fun v0 v1 v2 v3 C S H locs ls hC hS hf Z hl => wm_L_isSo_33 l hlt F E hr hk post v0 v1 v2 v3 C S H locs ls (by omega) (by omega) hf Z hl) a9 la10 x1 _ _ _ _ _ (by omega) (by omega) hf Z (lv_sub hl [0, 1] rfl)
    · have hf := hf.2 c_11
      refine lv_aload_n F.1 F.2.1 dL_isSo_19 rfl (lv_at hl 0 rfl) ?_
      have hM := k_X5_delay l (D := D) (kk := kk) (ad := ad) (bs := bs) (a := a9) (la := la10) (b := b) (lb := lb) (lo := lo) hf
      refine ig_calll E Z (ig_runV (As := []) (rest := []) F E Z hl G_L_118 hM (i := 0) (by decide) (ig_k_0 _ _ _ _ _ _) rfl rfl md_X5_delay rfl ⟨rfl, rfl⟩ ⟨Nat.le_of_ble_eq_true rfl, Nat.le_of_ble_eq_true rfl⟩ (Nat.le_of_ble_eq_true rfl) dL_isSo_20 ⟨(by show _ ≤ 287; omega), (by show _ ≤ 1722; omega)⟩) (fun r12 u H locs hf Z => ?_)
      have Z : ig_Z D kk ad bs _ H locs a9 la10 b lb lo := Z
      refine lv_lconst (v := 0) F.1 F.2.1 dL_isSo_23 (by decide) ?_
      refine W.lcmp F.1 F.2.1 dL_isSo_24 ?_
      refine lv_if_lt (tgt := 32) F.1 F.2.1 dL_isSo_25 (by decide) (fun c_13 => ?_) (fun c_13 => ?_)
      · have hf := hf.1 c_13
        exact wm_L_isSo_32 l hlt F E hr hk (wp_L_isSo_33 post) post (fun v0 v1 v2 v3 C S H locs ls hC hS hf Z hl => wm_L_isSo_33 l hlt F E hr hk post v0 v1 v2 v3 C S H locs ls (by omega) (by omega) hf Z hl) a9 la10 x1 _ _ _ _ _ (by omega) (by omega) hf Z (lv_sub hl [0, 1] rfl)
      · have hf := hf.2 c_13
        refine lv_iconst (v := 1) F.1 F.2.1 dL_isSo_28 (by decide) ?_
        refine lv_goto (tgt := 33) F.1 F.2.1 dL_isSo_29 (by decide) ?_
        exact wm_L_isSo_33 l hlt F E hr hk post a9 la10 x1 1 _ _ _ _ _ (by omega) (by omega) hf Z (lv_sub hl [0, 1] rfl)
end IGN
