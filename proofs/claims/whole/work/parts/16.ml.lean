theorem GL_78 : GoodIn ig_all (va_wsS RL 78 yL_phase (ig_wsW yL_phase cL_phase 6 (some .int) [(0, 12, 15, 13), (0, 12, 19, 15)])) := ig_LW mw_530 mw_531 mw_532 mw_533
theorem md_L_phase : ig_md yL_phase 5 := by decide +kernel
theorem GL_87 : GoodIn ig_all (va_wsS RL 87 yL_meet (ig_wsW yL_meet cL_meet 6 (some .int) [(0, 9, 12, 21), (0, 9, 16, 13), (0, 9, 20, 15)])) := ig_LW mw_542 mw_543 mw_532 mw_544
theorem md_L_meet : ig_md yL_meet 5 := by decide +kernel
theorem GL_91 : GoodIn ig_all (va_wsS RL 91 yL_stage (ig_wsW yL_stage cL_stage 4 (some .int) [(0, 9, 12, 13), (0, 9, 15, 15)])) := ig_LW mw_549 mw_550 mw_532 mw_551
theorem md_L_stage : ig_md yL_stage 3 := by decide +kernel
theorem GL_95 : GoodIn ig_all (va_wsS RL 95 yL_start (ig_wsW yL_start cL_start 3 (some .int) [(0, 5, 8, 21), (0, 5, 11, 15)])) := ig_LW mw_556 mw_557 mw_532 mw_558
theorem md_L_start : ig_md yL_start 2 := by decide +kernel
theorem GL_99 : GoodIn ig_all (va_wsS RL 99 yL_stop (ig_wsW yL_stop cL_stop 2 (some .int) [(0, 4, 7, 15)])) := ig_LW mw_563 mw_564 mw_532 mw_565
theorem md_L_stop : ig_md yL_stop 1 := by decide +kernel
theorem GL_103 : GoodIn ig_all (va_wsS RL 103 yL_press (ig_wsW yL_press cL_press 4 (some .int) [(0, 16, 19, 21)])) := ig_LW mw_570 mw_571 mw_532 mw_572
theorem md_L_press : ig_md yL_press 3 := by decide +kernel
theorem GL_106 : GoodIn ig_all (va_wsS RL 106 yL_arrive (ig_wsW yL_arrive cL_arrive 5 (some .int) [(0, 10, 13, 21), (0, 10, 17, 13), (0, 10, 21, 15)])) := ig_LW mw_577 mw_578 mw_532 mw_579
theorem md_L_arrive : ig_md yL_arrive 4 := by decide +kernel
theorem GL_110 : GoodIn ig_all (va_wsS RL 110 yL_ask (ig_wsW yL_ask cL_ask 3 (some .int) [(0, 5, 8, 21), (0, 5, 11, 15)])) := ig_LW mw_584 mw_585 mw_532 mw_586
theorem md_L_ask : ig_md yL_ask 2 := by decide +kernel
theorem GL_113 : GoodIn ig_all (va_wsS RL 113 yL_cancel (ig_wsW yL_cancel cL_cancel 3 (some .int) [(0, 8, 11, 15)])) := ig_LW mw_591 mw_592 mw_532 mw_593
theorem md_L_cancel : ig_md yL_cancel 2 := by decide +kernel
theorem GL_121 : GoodIn ig_all (va_wsS RL 121 yL_go (ig_wsW yL_go cL_go 4 (some .int) [(0, 9, 12, 13), (0, 9, 15, 15)])) := ig_LW mw_598 mw_599 mw_532 mw_600
theorem md_L_go : ig_md yL_go 3 := by decide +kernel
theorem GL_124 : GoodIn ig_all (va_wsS RL 124 yL_lamp (ig_wsW yL_lamp cL_lamp 5 (some .int) [(0, 10, 13, 21)])) := ig_LW mw_605 mw_606 mw_532 mw_607
theorem md_L_lamp : ig_md yL_lamp 4 := by decide +kernel
theorem GL_127 : GoodIn ig_all (va_wsS RL 127 yL_ofPhase (ig_wsW yL_ofPhase cL_ofPhase 5 (some .int) [(0, 10, 13, 21), (0, 10, 17, 13)])) := ig_LW mw_612 mw_613 mw_532 mw_614
theorem md_L_ofPhase : ig_md yL_ofPhase 4 := by decide +kernel
theorem GL_130 : GoodIn ig_all (va_wsS RL 130 yL_of (ig_wsW yL_of cL_of 4 (some .int) [(0, 9, 12, 13)])) := ig_LW mw_619 mw_620 mw_532 mw_621
theorem md_L_of : ig_md yL_of 3 := by decide +kernel
theorem GL_143 : GoodIn ig_all (va_wsS RL 143 yL_seen (ig_wsW yL_seen cL_seen 5 (some .int) [(0, 10, 13, 21), (0, 10, 17, 13)])) := ig_LW mw_642 mw_643 mw_532 mw_644
theorem md_L_seen : ig_md yL_seen 4 := by decide +kernel
theorem GL_146 : GoodIn ig_all (va_wsS RL 146 yL_change (ig_wsW yL_change cL_change 5 (some .int) [(0, 10, 13, 21)])) := ig_LW mw_649 mw_650 mw_532 mw_651
theorem md_L_change : ig_md yL_change 4 := by decide +kernel
theorem GL_157 : GoodIn ig_all (va_wsS RL 157 yL_inRound (ig_wsW yL_inRound cL_inRound 4 (some .int) [(0, 9, 12, 21)])) := ig_LW mw_672 mw_673 mw_532 mw_674
theorem md_L_inRound : ig_md yL_inRound 3 := by decide +kernel
theorem GL_117 : GoodIn ig_all (va_wsS RL 117 yL_breaks (ig_wsW yL_breaks cL_breaks 6 (some .int) [(0, 19, 22, 21), (0, 19, 26, 13)])) := ig_LW mw_679 mw_680 mw_532 mw_681
theorem md_L_breaks : ig_md yL_breaks 5 := by decide +kernel
section IGM
variable {p : Program} {e : Env} {s : State} {m : MethodId} {below : List Frame} {meth : Method} {c : Code} {b0 Ln : Nat} {xs : Nat → Int32}
variable {D : va_G} {kk : Nat → ClassId} {ad : Nat → Nat} {bs : Nat}
set_option maxHeartbeats 4000000 in
set_option maxRecDepth 100000 in
theorem wm_L_law_709 (l : Launch) (hlt : l.stackTraces = false) (Fs : CallFix p m c code 9 s #[Value.ref b0] ig_all RL) (Es : ig_E D kk ad bs s) (hr : meth.sig.returnType = ret) (hk : meth.locks = false) (hX : va_X b0 Ln xs s s.heap) (hbl : b0 < s.heap.size) (hbA : ¬ ig_A bs b0) (hbs : s.heap.size ≤ bs) (k_23 : ig_M → Int64 → ig_M → Int64 → Int64 → Int32 → Prop) (M1 M2 : Nat) (h_23 : ∀ (a : ig_M) (la : Int64) (b : ig_M) (lb : Int64) (lo : Int64) (x4 : Int32) (d0 : Drawn) (_ : s.drawn.sameBut d0 lw_cs) (C S : Nat) (H : Heap) (locs : List Loc) (ls : Array Slot) (_ : C + M1 ≤ 601024) (_ : S + M2 ≤ 7293034), k_23 a la b lb lo x4 → ig_Z D kk ad bs (s.setDrawn d0) H locs a la b lb lo → lv_has ls 9 [(0, .ref b0), (1, .ref (ad 0)), (2, .ref (ad 97)), (3, .ref (ad 115)), (4, .int x4)] → W p l e room_1 (s.setDrawn d0) m #[Value.ref b0] below meth c H locs C S (lw_Z below #[Value.ref b0] s) (F0 m 23 ls [])) :
    ∀ (a : ig_M) (la : Int64) (b : ig_M) (lb : Int64) (lo : Int64) (x4 : Int32) (t0 : Int64) (t1 : Int64) (d0 : Drawn) (_ : s.drawn.sameBut d0 lw_cs) (C S : Nat) (H : Heap) (locs : List Loc) (ls : Array Slot) (_ : C + M1 ≤ 601024) (_ : S + M2 ≤ 7293034), wp_L_law_709 xs Ln k_23 a la b lb lo x4 t0 t1 → ig_Z D kk ad bs (s.setDrawn d0) H locs a la b lb lo → lv_has ls 9 [(0, .ref b0), (1, .ref (ad 0)), (2, .ref (ad 97)), (3, .ref (ad 115)), (4, .int x4)] → W p l e room_1 (s.setDrawn d0) m #[Value.ref b0] below meth c H locs C S (lw_Z below #[Value.ref b0] s) (F0 m 709 ls [.long t0, .long t1]) := by
  intro a la b lb lo x4 t0 t1 d0 hd0 C S H locs ls hC hS hf Z hl
  have F := ig_Fd Fs d0
  have E := ig_Ed Es d0
  have hX := ig_hXd hX d0
  refine W.lcmp F.1 F.2.1 dL_law_709 ?_
  refine lv_if_eq (tgt := 715) F.1 F.2.1 dL_law_710 (by decide) (fun c_283 => ?_) (fun c_283 => ?_)
  · have hf := hf.1 c_283
    refine lv_goto (tgt := 1241) F.1 F.2.1 dL_law_715 (by decide) ?_
    refine lv_iinc (v := x4 + 5) (lv' := [(4, .int (x4 + 5)), (0, .ref b0), (1, .ref (ad 0)), (2, .ref (ad 97)), (3, .ref (ad 115))]) F.1 F.2.1 dL_law_1241 hl (k := 4) rfl (by rfl) (by decide) rfl (fun ls hl => ?_)
    refine lv_goto (tgt := 23) F.1 F.2.1 dL_law_1244 (by decide) ?_
    exact h_23 a la b lb lo (x4 + 5) _ hd0 _ _ _ _ _ (by omega) (by omega) hf Z (lv_sub hl [1, 2, 3, 4, 0] rfl)
  · have hf := hf.2 c_283
    refine lv_iconst (v := 0) F.1 F.2.1 dL_law_713 (by decide) ?_
    exact absurd hf (by decide)
set_option maxHeartbeats 4000000 in
set_option maxRecDepth 100000 in
theorem wm_L_law_675 (l : Launch) (hlt : l.stackTraces = false) (Fs : CallFix p m c code 9 s #[Value.ref b0] ig_all RL) (Es : ig_E D kk ad bs s) (hr : meth.sig.returnType = ret) (hk : meth.locks = false) (hX : va_X b0 Ln xs s s.heap) (hbl : b0 < s.heap.size) (hbA : ¬ ig_A bs b0) (hbs : s.heap.size ≤ bs) (k_23 : ig_M → Int64 → ig_M → Int64 → Int64 → Int32 → Prop) (M1 M2 : Nat) (h_23 : ∀ (a : ig_M) (la : Int64) (b : ig_M) (lb : Int64) (lo : Int64) (x4 : Int32) (d0 : Drawn) (_ : s.drawn.sameBut d0 lw_cs) (C S : Nat) (H : Heap) (locs : List Loc) (ls : Array Slot) (_ : C + M1 ≤ 601024) (_ : S + M2 ≤ 7293034), k_23 a la b lb lo x4 → ig_Z D kk ad bs (s.setDrawn d0) H locs a la b lb lo → lv_has ls 9 [(0, .ref b0), (1, .ref (ad 0)), (2, .ref (ad 97)), (3, .ref (ad 115)), (4, .int x4)] → W p l e room_1 (s.setDrawn d0) m #[Value.ref b0] below meth c H locs C S (lw_Z below #[Value.ref b0] s) (F0 m 23 ls [])) :
    ∀ (a : ig_M) (la : Int64) (b : ig_M) (lb : Int64) (lo : Int64) (x4 : Int32) (x5 : Int32) (t0 : Int32) (t1 : Int32) (t2 : Int32) (d0 : Drawn) (_ : s.drawn.sameBut d0 lw_cs) (C S : Nat) (H : Heap) (locs : List Loc) (ls : Array Slot) (_ : C + M1 ≤ 601024) (_ : S + M2 ≤ 7293034), wp_L_law_675 xs Ln k_23 a la b lb lo x4 x5 t0 t1 t2 → ig_Z D kk ad bs (s.setDrawn d0) H locs a la b lb lo → lv_has ls 9 [(0, .ref b0), (1, .ref (ad 0)), (2, .ref (ad 97)), (3, .ref (ad 115)), (4, .int x4), (5, .int x5)] → W p l e room_1 (s.setDrawn d0) m #[Value.ref b0] below meth c H locs C S (lw_Z below #[Value.ref b0] s) (F0 m 675 ls [.int t0, .int t1, .int t2, .ref (ad 97)]) := by
  intro a la b lb lo x4 x5 t0 t1 t2 d0 hd0 C S H locs ls hC hS hf Z hl
  have F := ig_Fd Fs d0
  have E := ig_Ed Es d0
  have hX := ig_hXd hX d0
  have hM := k_X6_breaks l (D := D) (kk := kk) (ad := ad) (bs := bs) (a := a) (la := la) (b := b) (lb := lb) (lo := lo) t2 t1 t0 hf
  refine ig_calli E Z (ig_runV (As := [.int t2, .int t1, .int t0]) (rest := []) F E Z hl G_L_120 hM (i := 97) (by decide) (ig_k_97 _ _ _ _ _ _) rfl rfl md_X6_breaks rfl ⟨rfl, rfl⟩ ⟨Nat.le_of_ble_eq_true rfl, Nat.le_of_ble_eq_true rfl⟩ (Nat.le_of_ble_eq_true rfl) dL_law_675 ⟨ig_roomC (by omega), ig_roomS (by omega)⟩) (fun r276 u H locs hf Z => ?_)
  obtain ⟨b277, lb278⟩ := u
  have Z : ig_Z D kk ad bs _ H locs a la b277 lb278 lo := Z
  refine lv_istore (lv' := [(6, .int r276), (0, .ref b0), (1, .ref (ad 0)), (2, .ref (ad 97)), (3, .ref (ad 115)), (4, .int x4), (5, .int x5)]) F.1 F.2.1 dL_law_678 hl (by decide) rfl (fun ls hl => ?_)
  refine lv_aload_n F.1 F.2.1 dL_law_680 rfl (lv_at hl 3 rfl) ?_
  have hM := k_X6_thrown l (D := D) (kk := kk) (ad := ad) (bs := bs) (a := a) (la := la) (b := b277) (lb := lb278) (lo := lo) hf
  refine ig_calli E Z (ig_runV (As := []) (rest := []) F E Z hl G_L_84 hM (i := 97) (by decide) (ig_k_97 _ _ _ _ _ _) rfl rfl md_X6_thrown rfl ⟨rfl, rfl⟩ ⟨Nat.le_of_ble_eq_true rfl, Nat.le_of_ble_eq_true rfl⟩ (Nat.le_of_ble_eq_true rfl) dL_law_681 ⟨ig_roomC (by omega), ig_roomS (by omega)⟩) (fun r279 u H locs hf Z => ?_)
  have Z : ig_Z D kk ad bs _ H locs a la b277 lb278 lo := Z
  refine lv_iload F.1 F.2.1 dL_law_684 (lv_at hl 6 rfl) ?_
  refine lv_icmp_eq (tgt := 691) F.1 F.2.1 dL_law_686 (by decide) (fun c_280 => ?_) (fun c_280 => ?_)
  · have hf := hf.1 c_280
    refine lv_iload F.1 F.2.1 dL_law_691 (lv_at hl 6 rfl) ?_
    refine lv_if_ne (tgt := 715) F.1 F.2.1 dL_law_693 (by decide) (fun c_281 => ?_) (fun c_281 => ?_)
    · have hf := hf.1 c_281
      refine lv_goto (tgt := 1241) F.1 F.2.1 dL_law_715 (by decide) ?_
      refine lv_iinc (v := x4 + 5) (lv' := [(4, .int (x4 + 5)), (6, .int r276), (0, .ref b0), (1, .ref (ad 0)), (2, .ref (ad 97)), (3, .ref (ad 115)), (5, .int x5)]) F.1 F.2.1 dL_law_1241 hl (k := 5) rfl (by rfl) (by decide) rfl (fun ls hl => ?_)
      refine lv_goto (tgt := 23) F.1 F.2.1 dL_law_1244 (by decide) ?_
      exact h_23 a la b277 lb278 lo (x4 + 5) _ hd0 _ _ _ _ _ (by omega) (by omega) hf Z (lv_sub hl [2, 3, 4, 5, 0] rfl)
    · have hf := hf.2 c_281
      refine lv_aload_n F.1 F.2.1 dL_law_696 rfl (lv_at hl 4 rfl) ?_
      refine lv_iconst (v := 0) F.1 F.2.1 dL_law_697 (by decide) ?_
      refine ig_lald F E Z dL_law_698 ?_
      refine lv_iload F.1 F.2.1 dL_law_699 (lv_at hl 0 rfl) ?_
      refine lv_if_eq (tgt := 708) F.1 F.2.1 dL_law_701 (by decide) (fun c_282 => ?_) (fun c_282 => ?_)
      · have hf := hf.1 c_282
        refine lv_lconst (v := 0) F.1 F.2.1 dL_law_708 (by decide) ?_
        exact wm_L_law_709 l hlt Fs Es hr hk hX hbl hbA hbs k_23 M1 M2 h_23 a la b277 lb278 lo x4 ((0 : Int64)) lo _ hd0 _ _ _ _ _ (by omega) (by omega) hf Z (lv_sub hl [1, 2, 3, 4, 5] rfl)
      · have hf := hf.2 c_282
        refine lv_lconst (v := 1) F.1 F.2.1 dL_law_704 (by decide) ?_
        refine lv_goto (tgt := 709) F.1 F.2.1 dL_law_705 (by decide) ?_
        exact wm_L_law_709 l hlt Fs Es hr hk hX hbl hbA hbs k_23 M1 M2 h_23 a la b277 lb278 lo x4 ((1 : Int64)) lo _ hd0 _ _ _ _ _ (by omega) (by omega) hf Z (lv_sub hl [1, 2, 3, 4, 5] rfl)
  · have hf := hf.2 c_280
    refine lv_iconst (v := 0) F.1 F.2.1 dL_law_689 (by decide) ?_
    exact absurd hf (by decide)
set_option maxHeartbeats 4000000 in
set_option maxRecDepth 100000 in
theorem wm_L_law_642 (l : Launch) (hlt : l.stackTraces = false) (Fs : CallFix p m c code 9 s #[Value.ref b0] ig_all RL) (Es : ig_E D kk ad bs s) (hr : meth.sig.returnType = ret) (hk : meth.locks = false) (hX : va_X b0 Ln xs s s.heap) (hbl : b0 < s.heap.size) (hbA : ¬ ig_A bs b0) (hbs : s.heap.size ≤ bs) (k_23 : ig_M → Int64 → ig_M → Int64 → Int64 → Int32 → Prop) (M1 M2 : Nat) (h_23 : ∀ (a : ig_M) (la : Int64) (b : ig_M) (lb : Int64) (lo : Int64) (x4 : Int32) (d0 : Drawn) (_ : s.drawn.sameBut d0 lw_cs) (C S : Nat) (H : Heap) (locs : List Loc) (ls : Array Slot) (_ : C + M1 ≤ 601024) (_ : S + M2 ≤ 7293034), k_23 a la b lb lo x4 → ig_Z D kk ad bs (s.setDrawn d0) H locs a la b lb lo → lv_has ls 9 [(0, .ref b0), (1, .ref (ad 0)), (2, .ref (ad 97)), (3, .ref (ad 115)), (4, .int x4)] → W p l e room_1 (s.setDrawn d0) m #[Value.ref b0] below meth c H locs C S (lw_Z below #[Value.ref b0] s) (F0 m 23 ls [])) :
    ∀ (a : ig_M) (la : Int64) (b : ig_M) (lb : Int64) (lo : Int64) (x4 : Int32) (t0 : Int32) (t1 : Int32) (t2 : Int32) (d0 : Drawn) (_ : s.drawn.sameBut d0 lw_cs) (C S : Nat) (H : Heap) (locs : List Loc) (ls : Array Slot) (_ : C + (M1 + 4) ≤ 601024) (_ : S + (M2 + 24) ≤ 7293034), wp_L_law_642 xs Ln k_23 a la b lb lo x4 t0 t1 t2 → ig_Z D kk ad bs (s.setDrawn d0) H locs a la b lb lo → lv_has ls 9 [(0, .ref b0), (1, .ref (ad 0)), (2, .ref (ad 97)), (3, .ref (ad 115)), (4, .int x4)] → W p l e room_1 (s.setDrawn d0) m #[Value.ref b0] below meth c H locs C S (lw_Z below #[Value.ref b0] s) (F0 m 642 ls [.int t0, .int t1, .int t2, .ref (ad 0)]) := by
  intro a la b lb lo x4 t0 t1 t2 d0 hd0 C S H locs ls hC hS hf Z hl
  have F := ig_Fd Fs d0
  have E := ig_Ed Es d0
  have hX := ig_hXd hX d0
  refine lv_aload_n F.1 F.2.1 dL_law_642 rfl (lv_at hl 3 rfl) ?_
  have hM := k_L_breaks l (D := D) (kk := kk) (ad := ad) (bs := bs) (a := a) (la := la) (b := b) (lb := lb) (lo := lo) t2 t1 t0 hlt hf
  refine ig_calli E Z (ig_runSW (As := [.ref (ad 0), .int t2, .int t1, .int t0, .ref (ad 115)]) (rest := []) F E Z hl GL_117 hM md_L_breaks rfl ⟨rfl, rfl⟩ ⟨Nat.le_of_ble_eq_true rfl, Nat.le_of_ble_eq_true rfl⟩ (Nat.le_of_ble_eq_true rfl) dL_law_643 ⟨ig_roomC (by omega), ig_roomS (by omega)⟩) (fun r268 u H locs hf Z => ?_)
  obtain ⟨a269, la270, lo271⟩ := u
  have Z : ig_Z D kk ad bs _ H locs a269 la270 b lb lo271 := Z
  refine lv_istore (lv' := [(5, .int r268), (0, .ref b0), (1, .ref (ad 0)), (2, .ref (ad 97)), (3, .ref (ad 115)), (4, .int x4)]) F.1 F.2.1 dL_law_646 hl (by decide) rfl (fun ls hl => ?_)
  refine lv_aload_n F.1 F.2.1 dL_law_648 rfl (lv_at hl 3 rfl) ?_
  refine lv_aload_n F.1 F.2.1 dL_law_649 rfl (lv_at hl 1 rfl) ?_
  refine lv_iload F.1 F.2.1 dL_law_650 (lv_at hl 5 rfl) ?_
  refine lv_iconst (v := 1) F.1 F.2.1 dL_law_652 (by decide) ?_
  refine lv_iadd F.1 F.2.1 dL_law_653 ?_
  have hv272 := hf.1
  have hf := hf.2
  refine va_sld F.1 F.2.1 hX hbl hbA Z.2 hv272 dL_law_654 ?_
  refine lv_aload_n F.1 F.2.1 dL_law_655 rfl (lv_at hl 1 rfl) ?_
  refine lv_iload F.1 F.2.1 dL_law_656 (lv_at hl 5 rfl) ?_
  refine lv_iconst (v := 2) F.1 F.2.1 dL_law_658 (by decide) ?_
  refine lv_iadd F.1 F.2.1 dL_law_659 ?_
  have hv273 := hf.1
  have hf := hf.2
  refine va_sld F.1 F.2.1 hX hbl hbA Z.2 hv273 dL_law_660 ?_
  refine lv_aload_n F.1 F.2.1 dL_law_661 rfl (lv_at hl 1 rfl) ?_
  refine lv_iload F.1 F.2.1 dL_law_662 (lv_at hl 5 rfl) ?_
  refine lv_iconst (v := 3) F.1 F.2.1 dL_law_664 (by decide) ?_
  refine lv_iadd F.1 F.2.1 dL_law_665 ?_
  have hv274 := hf.1
  have hf := hf.2
  refine va_sld F.1 F.2.1 hX hbl hbA Z.2 hv274 dL_law_666 ?_
  refine lv_if_eq (tgt := 674) F.1 F.2.1 dL_law_667 (by decide) (fun c_275 => ?_) (fun c_275 => ?_)
  · have hf := hf.1 c_275
    refine lv_iconst (v := 0) F.1 F.2.1 dL_law_674 (by decide) ?_
    exact wm_L_law_675 l hlt Fs Es hr hk hX hbl hbA hbs k_23 M1 M2 h_23 a269 la270 b lb lo271 x4 r268 0 (xs (x4 + 2).toNatClampNeg) (xs (x4 + 1).toNatClampNeg) _ hd0 _ _ _ _ _ (by omega) (by omega) hf Z (lv_sub hl [1, 2, 3, 4, 5, 0] rfl)
  · have hf := hf.2 c_275
    refine lv_iconst (v := 1) F.1 F.2.1 dL_law_670 (by decide) ?_
    refine lv_goto (tgt := 675) F.1 F.2.1 dL_law_671 (by decide) ?_
    exact wm_L_law_675 l hlt Fs Es hr hk hX hbl hbA hbs k_23 M1 M2 h_23 a269 la270 b lb lo271 x4 r268 1 (xs (x4 + 2).toNatClampNeg) (xs (x4 + 1).toNatClampNeg) _ hd0 _ _ _ _ _ (by omega) (by omega) hf Z (lv_sub hl [1, 2, 3, 4, 5, 0] rfl)
set_option maxHeartbeats 4000000 in
set_option maxRecDepth 100000 in
theorem wm_L_law_458 (l : Launch) (hlt : l.stackTraces = false) (Fs : CallFix p m c code 9 s #[Value.ref b0] ig_all RL) (Es : ig_E D kk ad bs s) (hr : meth.sig.returnType = ret) (hk : meth.locks = false) (hX : va_X b0 Ln xs s s.heap) (hbl : b0 < s.heap.size) (hbA : ¬ ig_A bs b0) (hbs : s.heap.size ≤ bs) (k_23 : ig_M → Int64 → ig_M → Int64 → Int64 → Int32 → Prop) (M1 M2 : Nat) (h_23 : ∀ (a : ig_M) (la : Int64) (b : ig_M) (lb : Int64) (lo : Int64) (x4 : Int32) (d0 : Drawn) (_ : s.drawn.sameBut d0 lw_cs) (C S : Nat) (H : Heap) (locs : List Loc) (ls : Array Slot) (_ : C + M1 ≤ 601024) (_ : S + M2 ≤ 7293034), k_23 a la b lb lo x4 → ig_Z D kk ad bs (s.setDrawn d0) H locs a la b lb lo → lv_has ls 9 [(0, .ref b0), (1, .ref (ad 0)), (2, .ref (ad 97)), (3, .ref (ad 115)), (4, .int x4)] → W p l e room_1 (s.setDrawn d0) m #[Value.ref b0] below meth c H locs C S (lw_Z below #[Value.ref b0] s) (F0 m 23 ls [])) :
    ∀ (a : ig_M) (la : Int64) (b : ig_M) (lb : Int64) (lo : Int64) (x4 : Int32) (t0 : Int64) (t1 : Int64) (d0 : Drawn) (_ : s.drawn.sameBut d0 lw_cs) (C S : Nat) (H : Heap) (locs : List Loc) (ls : Array Slot) (_ : C + M1 ≤ 601024) (_ : S + M2 ≤ 7293034), wp_L_law_458 xs Ln k_23 a la b lb lo x4 t0 t1 → ig_Z D kk ad bs (s.setDrawn d0) H locs a la b lb lo → lv_has ls 9 [(0, .ref b0), (1, .ref (ad 0)), (2, .ref (ad 97)), (3, .ref (ad 115)), (4, .int x4)] → W p l e room_1 (s.setDrawn d0) m #[Value.ref b0] below meth c H locs C S (lw_Z below #[Value.ref b0] s) (F0 m 458 ls [.long t0, .long t1]) := by
  intro a la b lb lo x4 t0 t1 d0 hd0 C S H locs ls hC hS hf Z hl
  have F := ig_Fd Fs d0
  have E := ig_Ed Es d0
  have hX := ig_hXd hX d0
  refine W.lcmp F.1 F.2.1 dL_law_458 ?_
  refine lv_if_eq (tgt := 464) F.1 F.2.1 dL_law_459 (by decide) (fun c_284 => ?_) (fun c_284 => ?_)
  · have hf := hf.1 c_284
    refine lv_goto (tgt := 1241) F.1 F.2.1 dL_law_464 (by decide) ?_
    refine lv_iinc (v := x4 + 5) (lv' := [(4, .int (x4 + 5)), (0, .ref b0), (1, .ref (ad 0)), (2, .ref (ad 97)), (3, .ref (ad 115))]) F.1 F.2.1 dL_law_1241 hl (k := 4) rfl (by rfl) (by decide) rfl (fun ls hl => ?_)
    refine lv_goto (tgt := 23) F.1 F.2.1 dL_law_1244 (by decide) ?_
    exact h_23 a la b lb lo (x4 + 5) _ hd0 _ _ _ _ _ (by omega) (by omega) hf Z (lv_sub hl [1, 2, 3, 4, 0] rfl)
  · have hf := hf.2 c_284
    refine lv_iconst (v := 0) F.1 F.2.1 dL_law_462 (by decide) ?_
    exact absurd hf (by decide)
set_option maxHeartbeats 4000000 in
set_option maxRecDepth 100000 in
theorem wm_L_law_23 (l : Launch) (hlt : l.stackTraces = false) (Fs : CallFix p m c code 9 s #[Value.ref b0] ig_all RL) (Es : ig_E D kk ad bs s) (hr : meth.sig.returnType = ret) (hk : meth.locks = false) (hX : va_X b0 Ln xs s s.heap) (hbl : b0 < s.heap.size) (hbA : ¬ ig_A bs b0) (hbs : s.heap.size ≤ bs) :
    ∀ n : Nat, ∀ (a : ig_M) (la : Int64) (b : ig_M) (lb : Int64) (lo : Int64) (x4 : Int32) (d0 : Drawn) (_ : s.drawn.sameBut d0 lw_cs) (C S : Nat) (H : Heap) (locs : List Loc) (ls : Array Slot) (_ : C + 4 * n ≤ 601024) (_ : S + 24 * n ≤ 7293034), wp_L_law_23 xs Ln n a la b lb lo x4 → ig_Z D kk ad bs (s.setDrawn d0) H locs a la b lb lo → lv_has ls 9 [(0, .ref b0), (1, .ref (ad 0)), (2, .ref (ad 97)), (3, .ref (ad 115)), (4, .int x4)] → W p l e room_1 (s.setDrawn d0) m #[Value.ref b0] below meth c H locs C S (lw_Z below #[Value.ref b0] s) (F0 m 23 ls []) := by
  intro n
  induction n with
  | zero => intro a la b lb lo x4 d0 hd0 C S H locs ls hC hS hf Z hl; exact False.elim hf
  | succ n ih =>
    intro a la b lb lo x4 d0 hd0 C S H locs ls hC hS hf Z hl
    have F := ig_Fd Fs d0
    have E := ig_Ed Es d0
    have hX := ig_hXd hX d0
    refine lv_iload F.1 F.2.1 dL_law_23 (lv_at hl 4 rfl) ?_
    refine lv_aload_n F.1 F.2.1 dL_law_25 rfl (lv_at hl 0 rfl) ?_
    refine va_slen F.1 F.2.1 hX hbl hbA Z.2 dL_law_26 ?_
    refine lv_iconst (v := 5) F.1 F.2.1 dL_law_27 (by decide) ?_
    refine lv_isub F.1 F.2.1 dL_law_28 ?_
    refine lv_icmp_gt (tgt := 1247) F.1 F.2.1 dL_law_29 (by decide) (fun c_1 => ?_) (fun c_1 => ?_)
    · have hf := hf.1 c_1
      refine lv_iconst (v := 1) F.1 F.2.1 dL_law_1247 (by decide) ?_
      refine va_forget (fun q hq => Nat.le_trans hbs (Z.2.2.2 q hq)) ?_
      exact W.widen (k := 601024) (n := 7293034) (by omega) (by omega) (lw_ret hd0 F.1 F.2.1 hr hk dL_law_1248)
    · have hf := hf.2 c_1
      refine lv_aload_n F.1 F.2.1 dL_law_32 rfl (lv_at hl 0 rfl) ?_
      refine lv_iload F.1 F.2.1 dL_law_33 (lv_at hl 4 rfl) ?_
      have hv2 := hf.1
      have hf := hf.2
      refine va_sld F.1 F.2.1 hX hbl hbA Z.2 hv2 dL_law_35 ?_
      refine lv_bipush (v := 31) F.1 F.2.1 dL_law_36 (by decide) ?_
      refine lv_iand F.1 F.2.1 dL_law_38 ?_
      by_cases c_3 : ((xs x4.toNatClampNeg) &&& 31) = 0
      · have hf := hf.1 c_3
        refine lv_tableIn (tgt := 136) F.1 F.2.1 dL_law_39 (by rw [c_3]; decide) (by rw [c_3]; decide) (by rw [c_3]; rfl) (by decide) ?_
        refine lv_aload_n F.1 F.2.1 dL_law_136 rfl (lv_at hl 1 rfl) ?_
        refine lv_aload_n F.1 F.2.1 dL_law_137 rfl (lv_at hl 0 rfl) ?_
        refine lv_iload F.1 F.2.1 dL_law_138 (lv_at hl 4 rfl) ?_
        refine lv_iconst (v := 1) F.1 F.2.1 dL_law_140 (by decide) ?_
        refine lv_iadd F.1 F.2.1 dL_law_141 ?_
        have hv4 := hf.1
        have hf := hf.2
        refine va_sld F.1 F.2.1 hX hbl hbA Z.2 hv4 dL_law_142 ?_
        refine lv_aload_n F.1 F.2.1 dL_law_143 rfl (lv_at hl 0 rfl) ?_
        refine lv_iload F.1 F.2.1 dL_law_144 (lv_at hl 4 rfl) ?_
        refine lv_iconst (v := 2) F.1 F.2.1 dL_law_146 (by decide) ?_
        refine lv_iadd F.1 F.2.1 dL_law_147 ?_
        have hv5 := hf.1
        have hf := hf.2
        refine va_sld F.1 F.2.1 hX hbl hbA Z.2 hv5 dL_law_148 ?_
        refine lv_aload_n F.1 F.2.1 dL_law_149 rfl (lv_at hl 0 rfl) ?_
        refine lv_iload F.1 F.2.1 dL_law_150 (lv_at hl 4 rfl) ?_
        refine lv_iconst (v := 3) F.1 F.2.1 dL_law_152 (by decide) ?_
        refine lv_iadd F.1 F.2.1 dL_law_153 ?_
        have hv6 := hf.1
        have hf := hf.2
        refine va_sld F.1 F.2.1 hX hbl hbA Z.2 hv6 dL_law_154 ?_
        refine lv_aload_n F.1 F.2.1 dL_law_155 rfl (lv_at hl 3 rfl) ?_
        have hM := k_L_phase l (D := D) (kk := kk) (ad := ad) (bs := bs) (a := a) (la := la) (b := b) (lb := lb) (lo := lo) (xs (x4 + 1).toNatClampNeg) (xs (x4 + 2).toNatClampNeg) (xs (x4 + 3).toNatClampNeg) hlt hf
        refine ig_calli E Z (ig_runSW (As := [.ref (ad 0), .int (xs (x4 + 1).toNatClampNeg), .int (xs (x4 + 2).toNatClampNeg), .int (xs (x4 + 3).toNatClampNeg), .ref (ad 115)]) (rest := []) F E Z hl GL_78 hM md_L_phase rfl ⟨rfl, rfl⟩ ⟨Nat.le_of_ble_eq_true rfl, Nat.le_of_ble_eq_true rfl⟩ (Nat.le_of_ble_eq_true rfl) dL_law_156 ⟨ig_roomC (by omega), ig_roomS (by omega)⟩) (fun r7 u H locs hf Z => ?_)
        obtain ⟨a8, la9, lo10⟩ := u
        have Z : ig_Z D kk ad bs _ H locs a8 la9 b lb lo10 := Z
        refine lv_istore (lv' := [(5, .int r7), (0, .ref b0), (1, .ref (ad 0)), (2, .ref (ad 97)), (3, .ref (ad 115)), (4, .int x4)]) F.1 F.2.1 dL_law_159 hl (by decide) rfl (fun ls hl => ?_)
        refine lv_aload_n F.1 F.2.1 dL_law_161 rfl (lv_at hl 3 rfl) ?_
        refine lv_aload_n F.1 F.2.1 dL_law_162 rfl (lv_at hl 1 rfl) ?_
        refine lv_iload F.1 F.2.1 dL_law_163 (lv_at hl 5 rfl) ?_
        refine lv_iconst (v := 1) F.1 F.2.1 dL_law_165 (by decide) ?_
        refine lv_iadd F.1 F.2.1 dL_law_166 ?_
        have hv11 := hf.1
        have hf := hf.2
        refine va_sld F.1 F.2.1 hX hbl hbA Z.2 hv11 dL_law_167 ?_
        refine lv_aload_n F.1 F.2.1 dL_law_168 rfl (lv_at hl 1 rfl) ?_
        refine lv_iload F.1 F.2.1 dL_law_169 (lv_at hl 5 rfl) ?_
        refine lv_iconst (v := 2) F.1 F.2.1 dL_law_171 (by decide) ?_
        refine lv_iadd F.1 F.2.1 dL_law_172 ?_
        have hv12 := hf.1
        have hf := hf.2
        refine va_sld F.1 F.2.1 hX hbl hbA Z.2 hv12 dL_law_173 ?_
        refine lv_aload_n F.1 F.2.1 dL_law_174 rfl (lv_at hl 1 rfl) ?_
        refine lv_iload F.1 F.2.1 dL_law_175 (lv_at hl 5 rfl) ?_
        refine lv_iconst (v := 3) F.1 F.2.1 dL_law_177 (by decide) ?_
        refine lv_iadd F.1 F.2.1 dL_law_178 ?_
        have hv13 := hf.1
        have hf := hf.2
        refine va_sld F.1 F.2.1 hX hbl hbA Z.2 hv13 dL_law_179 ?_
        have hM := k_X6_phase l (D := D) (kk := kk) (ad := ad) (bs := bs) (a := a8) (la := la9) (b := b) (lb := lb) (lo := lo10) (xs (x4 + 1).toNatClampNeg) (xs (x4 + 2).toNatClampNeg) (xs (x4 + 3).toNatClampNeg) hf
        refine ig_calli E Z (ig_runV (As := [.int (xs (x4 + 1).toNatClampNeg), .int (xs (x4 + 2).toNatClampNeg), .int (xs (x4 + 3).toNatClampNeg)]) (rest := []) F E Z hl G_L_83 hM (i := 97) (by decide) (ig_k_97 _ _ _ _ _ _) rfl rfl md_X6_phase rfl ⟨rfl, rfl⟩ ⟨Nat.le_of_ble_eq_true rfl, Nat.le_of_ble_eq_true rfl⟩ (Nat.le_of_ble_eq_true rfl) dL_law_180 ⟨ig_roomC (by omega), ig_roomS (by omega)⟩) (fun r14 u H locs hf Z => ?_)
        obtain ⟨b15, lb16⟩ := u
        have Z : ig_Z D kk ad bs _ H locs a8 la9 b15 lb16 lo10 := Z
        refine lv_istore (lv' := [(6, .int r14), (5, .int r7), (0, .ref b0), (1, .ref (ad 0)), (2, .ref (ad 97)), (3, .ref (ad 115)), (4, .int x4)]) F.1 F.2.1 dL_law_183 hl (by decide) rfl (fun ls hl => ?_)
        refine lv_aload_n F.1 F.2.1 dL_law_185 rfl (lv_at hl 4 rfl) ?_
        have hM := k_X6_thrown l (D := D) (kk := kk) (ad := ad) (bs := bs) (a := a8) (la := la9) (b := b15) (lb := lb16) (lo := lo10) hf
        refine ig_calli E Z (ig_runV (As := []) (rest := []) F E Z hl G_L_84 hM (i := 97) (by decide) (ig_k_97 _ _ _ _ _ _) rfl rfl md_X6_thrown rfl ⟨rfl, rfl⟩ ⟨Nat.le_of_ble_eq_true rfl, Nat.le_of_ble_eq_true rfl⟩ (Nat.le_of_ble_eq_true rfl) dL_law_186 ⟨ig_roomC (by omega), ig_roomS (by omega)⟩) (fun r17 u H locs hf Z => ?_)
        have Z : ig_Z D kk ad bs _ H locs a8 la9 b15 lb16 lo10 := Z
        refine lv_iload F.1 F.2.1 dL_law_189 (lv_at hl 1 rfl) ?_
        refine lv_icmp_eq (tgt := 196) F.1 F.2.1 dL_law_191 (by decide) (fun c_18 => ?_) (fun c_18 => ?_)
        · have hf := hf.1 c_18
          refine lv_iload F.1 F.2.1 dL_law_196 (lv_at hl 1 rfl) ?_
          refine lv_if_ne (tgt := 213) F.1 F.2.1 dL_law_198 (by decide) (fun c_19 => ?_) (fun c_19 => ?_)
          · have hf := hf.1 c_19
            refine lv_goto (tgt := 1241) F.1 F.2.1 dL_law_213 (by decide) ?_
            refine lv_iinc (v := x4 + 5) (lv' := [(4, .int (x4 + 5)), (6, .int r14), (5, .int r7), (0, .ref b0), (1, .ref (ad 0)), (2, .ref (ad 97)), (3, .ref (ad 115))]) F.1 F.2.1 dL_law_1241 hl (k := 6) rfl (by rfl) (by decide) rfl (fun ls hl => ?_)
            refine lv_goto (tgt := 23) F.1 F.2.1 dL_law_1244 (by decide) ?_
            exact ih a8 la9 b15 lb16 lo10 (x4 + 5) _ hd0 _ _ _ _ _ (by omega) (by omega) hf Z (lv_sub hl [3, 4, 5, 6, 0] rfl)
          · have hf := hf.2 c_19
            refine lv_aload_n F.1 F.2.1 dL_law_201 rfl (lv_at hl 5 rfl) ?_
            refine lv_iconst (v := 0) F.1 F.2.1 dL_law_202 (by decide) ?_
            refine ig_lald F E Z dL_law_203 ?_
            refine lv_iload F.1 F.2.1 dL_law_204 (lv_at hl 0 rfl) ?_
            refine lv_i2l F.1 F.2.1 dL_law_206 rfl ?_
            refine W.lcmp F.1 F.2.1 dL_law_207 ?_
            refine lv_if_eq (tgt := 213) F.1 F.2.1 dL_law_208 (by decide) (fun c_20 => ?_) (fun c_20 => ?_)
            · have hf := hf.1 c_20
              refine lv_goto (tgt := 1241) F.1 F.2.1 dL_law_213 (by decide) ?_
              refine lv_iinc (v := x4 + 5) (lv' := [(4, .int (x4 + 5)), (6, .int r14), (5, .int r7), (0, .ref b0), (1, .ref (ad 0)), (2, .ref (ad 97)), (3, .ref (ad 115))]) F.1 F.2.1 dL_law_1241 hl (k := 6) rfl (by rfl) (by decide) rfl (fun ls hl => ?_)
              refine lv_goto (tgt := 23) F.1 F.2.1 dL_law_1244 (by decide) ?_
              exact ih a8 la9 b15 lb16 lo10 (x4 + 5) _ hd0 _ _ _ _ _ (by omega) (by omega) hf Z (lv_sub hl [3, 4, 5, 6, 0] rfl)
            · have hf := hf.2 c_20
              refine lv_iconst (v := 0) F.1 F.2.1 dL_law_211 (by decide) ?_
              exact absurd hf (by decide)
        · have hf := hf.2 c_18
          refine lv_iconst (v := 0) F.1 F.2.1 dL_law_194 (by decide) ?_
          exact absurd hf (by decide)
      have hf := hf.2 c_3
      by_cases c_21 : ((xs x4.toNatClampNeg) &&& 31) = 1
      · have hf := hf.1 c_21
        refine lv_tableIn (tgt := 216) F.1 F.2.1 dL_law_39 (by rw [c_21]; decide) (by rw [c_21]; decide) (by rw [c_21]; rfl) (by decide) ?_
        refine lv_aload_n F.1 F.2.1 dL_law_216 rfl (lv_at hl 1 rfl) ?_
        refine lv_aload_n F.1 F.2.1 dL_law_217 rfl (lv_at hl 0 rfl) ?_
        refine lv_iload F.1 F.2.1 dL_law_218 (lv_at hl 4 rfl) ?_
        refine lv_iconst (v := 1) F.1 F.2.1 dL_law_220 (by decide) ?_
        refine lv_iadd F.1 F.2.1 dL_law_221 ?_
        have hv22 := hf.1
        have hf := hf.2
        refine va_sld F.1 F.2.1 hX hbl hbA Z.2 hv22 dL_law_222 ?_
        refine lv_aload_n F.1 F.2.1 dL_law_223 rfl (lv_at hl 0 rfl) ?_
        refine lv_iload F.1 F.2.1 dL_law_224 (lv_at hl 4 rfl) ?_
        refine lv_iconst (v := 2) F.1 F.2.1 dL_law_226 (by decide) ?_
        refine lv_iadd F.1 F.2.1 dL_law_227 ?_
        have hv23 := hf.1
        have hf := hf.2
        refine va_sld F.1 F.2.1 hX hbl hbA Z.2 hv23 dL_law_228 ?_
        refine lv_aload_n F.1 F.2.1 dL_law_229 rfl (lv_at hl 0 rfl) ?_
        refine lv_iload F.1 F.2.1 dL_law_230 (lv_at hl 4 rfl) ?_
        refine lv_iconst (v := 3) F.1 F.2.1 dL_law_232 (by decide) ?_
        refine lv_iadd F.1 F.2.1 dL_law_233 ?_
        have hv24 := hf.1
        have hf := hf.2
        refine va_sld F.1 F.2.1 hX hbl hbA Z.2 hv24 dL_law_234 ?_
        refine lv_aload_n F.1 F.2.1 dL_law_235 rfl (lv_at hl 0 rfl) ?_
        refine lv_iload F.1 F.2.1 dL_law_236 (lv_at hl 4 rfl) ?_
        refine lv_iconst (v := 4) F.1 F.2.1 dL_law_238 (by decide) ?_
        refine lv_iadd F.1 F.2.1 dL_law_239 ?_
        have hv25 := hf.1
        have hf := hf.2
        refine va_sld F.1 F.2.1 hX hbl hbA Z.2 hv25 dL_law_240 ?_
        have hM := k_L_meet l (D := D) (kk := kk) (ad := ad) (bs := bs) (a := a) (la := la) (b := b) (lb := lb) (lo := lo) (xs (x4 + 1).toNatClampNeg) (xs (x4 + 2).toNatClampNeg) (xs (x4 + 3).toNatClampNeg) (xs (x4 + 4).toNatClampNeg) hlt hf
        refine ig_calli E Z (ig_runSW (As := [.ref (ad 0), .int (xs (x4 + 1).toNatClampNeg), .int (xs (x4 + 2).toNatClampNeg), .int (xs (x4 + 3).toNatClampNeg), .int (xs (x4 + 4).toNatClampNeg)]) (rest := []) F E Z hl GL_87 hM md_L_meet rfl ⟨rfl, rfl⟩ ⟨Nat.le_of_ble_eq_true rfl, Nat.le_of_ble_eq_true rfl⟩ (Nat.le_of_ble_eq_true rfl) dL_law_241 ⟨ig_roomC (by omega), ig_roomS (by omega)⟩) (fun r26 u H locs hf Z => ?_)
        obtain ⟨a27, la28, lo29⟩ := u
        have Z : ig_Z D kk ad bs _ H locs a27 la28 b lb lo29 := Z
        refine lv_istore (lv' := [(5, .int r26), (0, .ref b0), (1, .ref (ad 0)), (2, .ref (ad 97)), (3, .ref (ad 115)), (4, .int x4)]) F.1 F.2.1 dL_law_244 hl (by decide) rfl (fun ls hl => ?_)
        refine lv_aload_n F.1 F.2.1 dL_law_246 rfl (lv_at hl 3 rfl) ?_
        refine lv_aload_n F.1 F.2.1 dL_law_247 rfl (lv_at hl 1 rfl) ?_
        refine lv_iload F.1 F.2.1 dL_law_248 (lv_at hl 5 rfl) ?_
        refine lv_iconst (v := 1) F.1 F.2.1 dL_law_250 (by decide) ?_
        refine lv_iadd F.1 F.2.1 dL_law_251 ?_
        have hv30 := hf.1
        have hf := hf.2
        refine va_sld F.1 F.2.1 hX hbl hbA Z.2 hv30 dL_law_252 ?_
        refine lv_aload_n F.1 F.2.1 dL_law_253 rfl (lv_at hl 1 rfl) ?_
        refine lv_iload F.1 F.2.1 dL_law_254 (lv_at hl 5 rfl) ?_
        refine lv_iconst (v := 2) F.1 F.2.1 dL_law_256 (by decide) ?_
        refine lv_iadd F.1 F.2.1 dL_law_257 ?_
        have hv31 := hf.1
        have hf := hf.2
        refine va_sld F.1 F.2.1 hX hbl hbA Z.2 hv31 dL_law_258 ?_
        refine lv_aload_n F.1 F.2.1 dL_law_259 rfl (lv_at hl 1 rfl) ?_
        refine lv_iload F.1 F.2.1 dL_law_260 (lv_at hl 5 rfl) ?_
        refine lv_iconst (v := 3) F.1 F.2.1 dL_law_262 (by decide) ?_
        refine lv_iadd F.1 F.2.1 dL_law_263 ?_
        have hv32 := hf.1
        have hf := hf.2
        refine va_sld F.1 F.2.1 hX hbl hbA Z.2 hv32 dL_law_264 ?_
        refine lv_aload_n F.1 F.2.1 dL_law_265 rfl (lv_at hl 1 rfl) ?_
        refine lv_iload F.1 F.2.1 dL_law_266 (lv_at hl 5 rfl) ?_
        refine lv_iconst (v := 4) F.1 F.2.1 dL_law_268 (by decide) ?_
        refine lv_iadd F.1 F.2.1 dL_law_269 ?_
        have hv33 := hf.1
        have hf := hf.2
        refine va_sld F.1 F.2.1 hX hbl hbA Z.2 hv33 dL_law_270 ?_
        have hM := k_X6_meet l (D := D) (kk := kk) (ad := ad) (bs := bs) (a := a27) (la := la28) (b := b) (lb := lb) (lo := lo29) (xs (x4 + 1).toNatClampNeg) (xs (x4 + 2).toNatClampNeg) (xs (x4 + 3).toNatClampNeg) (xs (x4 + 4).toNatClampNeg) hf
        refine ig_callv E Z (ig_runV (As := [.int (xs (x4 + 1).toNatClampNeg), .int (xs (x4 + 2).toNatClampNeg), .int (xs (x4 + 3).toNatClampNeg), .int (xs (x4 + 4).toNatClampNeg)]) (rest := []) F E Z hl G_L_90 hM (i := 97) (by decide) (ig_k_97 _ _ _ _ _ _) rfl rfl md_X6_meet rfl ⟨rfl, rfl⟩ ⟨Nat.le_of_ble_eq_true rfl, Nat.le_of_ble_eq_true rfl⟩ (Nat.le_of_ble_eq_true rfl) dL_law_271 ⟨ig_roomC (by omega), ig_roomS (by omega)⟩) (fun u H locs hf Z => ?_)
        obtain ⟨b34, lb35⟩ := u
        have Z : ig_Z D kk ad bs _ H locs a27 la28 b34 lb35 lo29 := Z
        refine lv_aload_n F.1 F.2.1 dL_law_274 rfl (lv_at hl 3 rfl) ?_
        have hM := k_X6_thrown l (D := D) (kk := kk) (ad := ad) (bs := bs) (a := a27) (la := la28) (b := b34) (lb := lb35) (lo := lo29) hf
        refine ig_calli E Z (ig_runV (As := []) (rest := []) F E Z hl G_L_84 hM (i := 97) (by decide) (ig_k_97 _ _ _ _ _ _) rfl rfl md_X6_thrown rfl ⟨rfl, rfl⟩ ⟨Nat.le_of_ble_eq_true rfl, Nat.le_of_ble_eq_true rfl⟩ (Nat.le_of_ble_eq_true rfl) dL_law_275 ⟨ig_roomC (by omega), ig_roomS (by omega)⟩) (fun r36 u H locs hf Z => ?_)
        have Z : ig_Z D kk ad bs _ H locs a27 la28 b34 lb35 lo29 := Z
        refine lv_iload F.1 F.2.1 dL_law_278 (lv_at hl 0 rfl) ?_
        refine lv_icmp_eq (tgt := 285) F.1 F.2.1 dL_law_280 (by decide) (fun c_37 => ?_) (fun c_37 => ?_)
        · have hf := hf.1 c_37
          refine lv_goto (tgt := 1241) F.1 F.2.1 dL_law_285 (by decide) ?_
          refine lv_iinc (v := x4 + 5) (lv' := [(4, .int (x4 + 5)), (5, .int r26), (0, .ref b0), (1, .ref (ad 0)), (2, .ref (ad 97)), (3, .ref (ad 115))]) F.1 F.2.1 dL_law_1241 hl (k := 5) rfl (by rfl) (by decide) rfl (fun ls hl => ?_)
          refine lv_goto (tgt := 23) F.1 F.2.1 dL_law_1244 (by decide) ?_
          exact ih a27 la28 b34 lb35 lo29 (x4 + 5) _ hd0 _ _ _ _ _ (by omega) (by omega) hf Z (lv_sub hl [2, 3, 4, 5, 0] rfl)
        · have hf := hf.2 c_37
          refine lv_iconst (v := 0) F.1 F.2.1 dL_law_283 (by decide) ?_
          exact absurd hf (by decide)
      have hf := hf.2 c_21
      by_cases c_38 : ((xs x4.toNatClampNeg) &&& 31) = 2
      · have hf := hf.1 c_38
        refine lv_tableIn (tgt := 288) F.1 F.2.1 dL_law_39 (by rw [c_38]; decide) (by rw [c_38]; decide) (by rw [c_38]; rfl) (by decide) ?_
        refine lv_aload_n F.1 F.2.1 dL_law_288 rfl (lv_at hl 1 rfl) ?_
        refine lv_aload_n F.1 F.2.1 dL_law_289 rfl (lv_at hl 0 rfl) ?_
        refine lv_iload F.1 F.2.1 dL_law_290 (lv_at hl 4 rfl) ?_
        refine lv_iconst (v := 1) F.1 F.2.1 dL_law_292 (by decide) ?_
        refine lv_iadd F.1 F.2.1 dL_law_293 ?_
        have hv39 := hf.1
        have hf := hf.2
        refine va_sld F.1 F.2.1 hX hbl hbA Z.2 hv39 dL_law_294 ?_
        refine lv_aload_n F.1 F.2.1 dL_law_295 rfl (lv_at hl 3 rfl) ?_
        have hM := k_L_stage l (D := D) (kk := kk) (ad := ad) (bs := bs) (a := a) (la := la) (b := b) (lb := lb) (lo := lo) (xs (x4 + 1).toNatClampNeg) hlt hf
        refine ig_calli E Z (ig_runSW (As := [.ref (ad 0), .int (xs (x4 + 1).toNatClampNeg), .ref (ad 115)]) (rest := []) F E Z hl GL_91 hM md_L_stage rfl ⟨rfl, rfl⟩ ⟨Nat.le_of_ble_eq_true rfl, Nat.le_of_ble_eq_true rfl⟩ (Nat.le_of_ble_eq_true rfl) dL_law_296 ⟨ig_roomC (by omega), ig_roomS (by omega)⟩) (fun r40 u H locs hf Z => ?_)
        obtain ⟨a41, la42, lo43⟩ := u
        have Z : ig_Z D kk ad bs _ H locs a41 la42 b lb lo43 := Z
        refine lv_istore (lv' := [(5, .int r40), (0, .ref b0), (1, .ref (ad 0)), (2, .ref (ad 97)), (3, .ref (ad 115)), (4, .int x4)]) F.1 F.2.1 dL_law_299 hl (by decide) rfl (fun ls hl => ?_)
        refine lv_aload_n F.1 F.2.1 dL_law_301 rfl (lv_at hl 3 rfl) ?_
        refine lv_aload_n F.1 F.2.1 dL_law_302 rfl (lv_at hl 1 rfl) ?_
        refine lv_iload F.1 F.2.1 dL_law_303 (lv_at hl 5 rfl) ?_
        refine lv_iconst (v := 1) F.1 F.2.1 dL_law_305 (by decide) ?_
        refine lv_iadd F.1 F.2.1 dL_law_306 ?_
        have hv44 := hf.1
        have hf := hf.2
        refine va_sld F.1 F.2.1 hX hbl hbA Z.2 hv44 dL_law_307 ?_
        have hM := k_X6_stage l (D := D) (kk := kk) (ad := ad) (bs := bs) (a := a41) (la := la42) (b := b) (lb := lb) (lo := lo43) (xs (x4 + 1).toNatClampNeg) hf
        refine ig_calli E Z (ig_runV (As := [.int (xs (x4 + 1).toNatClampNeg)]) (rest := []) F E Z hl G_L_94 hM (i := 97) (by decide) (ig_k_97 _ _ _ _ _ _) rfl rfl md_X6_stage rfl ⟨rfl, rfl⟩ ⟨Nat.le_of_ble_eq_true rfl, Nat.le_of_ble_eq_true rfl⟩ (Nat.le_of_ble_eq_true rfl) dL_law_308 ⟨ig_roomC (by omega), ig_roomS (by omega)⟩) (fun r45 u H locs hf Z => ?_)
        obtain ⟨b46, lb47⟩ := u
        have Z : ig_Z D kk ad bs _ H locs a41 la42 b46 lb47 lo43 := Z
        refine lv_istore (lv' := [(6, .int r45), (5, .int r40), (0, .ref b0), (1, .ref (ad 0)), (2, .ref (ad 97)), (3, .ref (ad 115)), (4, .int x4)]) F.1 F.2.1 dL_law_311 hl (by decide) rfl (fun ls hl => ?_)
        refine lv_aload_n F.1 F.2.1 dL_law_313 rfl (lv_at hl 4 rfl) ?_
        have hM := k_X6_thrown l (D := D) (kk := kk) (ad := ad) (bs := bs) (a := a41) (la := la42) (b := b46) (lb := lb47) (lo := lo43) hf
        refine ig_calli E Z (ig_runV (As := []) (rest := []) F E Z hl G_L_84 hM (i := 97) (by decide) (ig_k_97 _ _ _ _ _ _) rfl rfl md_X6_thrown rfl ⟨rfl, rfl⟩ ⟨Nat.le_of_ble_eq_true rfl, Nat.le_of_ble_eq_true rfl⟩ (Nat.le_of_ble_eq_true rfl) dL_law_314 ⟨ig_roomC (by omega), ig_roomS (by omega)⟩) (fun r48 u H locs hf Z => ?_)
        have Z : ig_Z D kk ad bs _ H locs a41 la42 b46 lb47 lo43 := Z
        refine lv_iload F.1 F.2.1 dL_law_317 (lv_at hl 1 rfl) ?_
        refine lv_icmp_eq (tgt := 324) F.1 F.2.1 dL_law_319 (by decide) (fun c_49 => ?_) (fun c_49 => ?_)
        · have hf := hf.1 c_49
          refine lv_iload F.1 F.2.1 dL_law_324 (lv_at hl 1 rfl) ?_
          refine lv_if_ne (tgt := 341) F.1 F.2.1 dL_law_326 (by decide) (fun c_50 => ?_) (fun c_50 => ?_)
          · have hf := hf.1 c_50
            refine lv_goto (tgt := 1241) F.1 F.2.1 dL_law_341 (by decide) ?_
            refine lv_iinc (v := x4 + 5) (lv' := [(4, .int (x4 + 5)), (6, .int r45), (5, .int r40), (0, .ref b0), (1, .ref (ad 0)), (2, .ref (ad 97)), (3, .ref (ad 115))]) F.1 F.2.1 dL_law_1241 hl (k := 6) rfl (by rfl) (by decide) rfl (fun ls hl => ?_)
            refine lv_goto (tgt := 23) F.1 F.2.1 dL_law_1244 (by decide) ?_
            exact ih a41 la42 b46 lb47 lo43 (x4 + 5) _ hd0 _ _ _ _ _ (by omega) (by omega) hf Z (lv_sub hl [3, 4, 5, 6, 0] rfl)
          · have hf := hf.2 c_50
            refine lv_aload_n F.1 F.2.1 dL_law_329 rfl (lv_at hl 5 rfl) ?_
            refine lv_iconst (v := 0) F.1 F.2.1 dL_law_330 (by decide) ?_
            refine ig_lald F E Z dL_law_331 ?_
            refine lv_iload F.1 F.2.1 dL_law_332 (lv_at hl 0 rfl) ?_
            refine lv_i2l F.1 F.2.1 dL_law_334 rfl ?_
            refine W.lcmp F.1 F.2.1 dL_law_335 ?_
            refine lv_if_eq (tgt := 341) F.1 F.2.1 dL_law_336 (by decide) (fun c_51 => ?_) (fun c_51 => ?_)
            · have hf := hf.1 c_51
              refine lv_goto (tgt := 1241) F.1 F.2.1 dL_law_341 (by decide) ?_
              refine lv_iinc (v := x4 + 5) (lv' := [(4, .int (x4 + 5)), (6, .int r45), (5, .int r40), (0, .ref b0), (1, .ref (ad 0)), (2, .ref (ad 97)), (3, .ref (ad 115))]) F.1 F.2.1 dL_law_1241 hl (k := 6) rfl (by rfl) (by decide) rfl (fun ls hl => ?_)
              refine lv_goto (tgt := 23) F.1 F.2.1 dL_law_1244 (by decide) ?_
              exact ih a41 la42 b46 lb47 lo43 (x4 + 5) _ hd0 _ _ _ _ _ (by omega) (by omega) hf Z (lv_sub hl [3, 4, 5, 6, 0] rfl)
            · have hf := hf.2 c_51
              refine lv_iconst (v := 0) F.1 F.2.1 dL_law_339 (by decide) ?_
              exact absurd hf (by decide)
        · have hf := hf.2 c_49
          refine lv_iconst (v := 0) F.1 F.2.1 dL_law_322 (by decide) ?_
          exact absurd hf (by decide)
      have hf := hf.2 c_38
      by_cases c_52 : ((xs x4.toNatClampNeg) &&& 31) = 3
      · have hf := hf.1 c_52
        refine lv_tableIn (tgt := 344) F.1 F.2.1 dL_law_39 (by rw [c_52]; decide) (by rw [c_52]; decide) (by rw [c_52]; rfl) (by decide) ?_
        refine lv_aload_n F.1 F.2.1 dL_law_344 rfl (lv_at hl 1 rfl) ?_
        refine lv_aload_n F.1 F.2.1 dL_law_345 rfl (lv_at hl 0 rfl) ?_
        refine lv_iload F.1 F.2.1 dL_law_346 (lv_at hl 4 rfl) ?_
        refine lv_iconst (v := 1) F.1 F.2.1 dL_law_348 (by decide) ?_
        refine lv_iadd F.1 F.2.1 dL_law_349 ?_
        have hv53 := hf.1
        have hf := hf.2
        refine va_sld F.1 F.2.1 hX hbl hbA Z.2 hv53 dL_law_350 ?_
        have hM := k_L_start l (D := D) (kk := kk) (ad := ad) (bs := bs) (a := a) (la := la) (b := b) (lb := lb) (lo := lo) (xs (x4 + 1).toNatClampNeg) hlt hf
        refine ig_calli E Z (ig_runSW (As := [.ref (ad 0), .int (xs (x4 + 1).toNatClampNeg)]) (rest := []) F E Z hl GL_95 hM md_L_start rfl ⟨rfl, rfl⟩ ⟨Nat.le_of_ble_eq_true rfl, Nat.le_of_ble_eq_true rfl⟩ (Nat.le_of_ble_eq_true rfl) dL_law_351 ⟨ig_roomC (by omega), ig_roomS (by omega)⟩) (fun r54 u H locs hf Z => ?_)
        obtain ⟨a55, la56, lo57⟩ := u
        have Z : ig_Z D kk ad bs _ H locs a55 la56 b lb lo57 := Z
        refine lv_istore (lv' := [(5, .int r54), (0, .ref b0), (1, .ref (ad 0)), (2, .ref (ad 97)), (3, .ref (ad 115)), (4, .int x4)]) F.1 F.2.1 dL_law_354 hl (by decide) rfl (fun ls hl => ?_)
        refine lv_aload_n F.1 F.2.1 dL_law_356 rfl (lv_at hl 3 rfl) ?_
        refine lv_aload_n F.1 F.2.1 dL_law_357 rfl (lv_at hl 1 rfl) ?_
        refine lv_iload F.1 F.2.1 dL_law_358 (lv_at hl 5 rfl) ?_
        refine lv_iconst (v := 1) F.1 F.2.1 dL_law_360 (by decide) ?_
        refine lv_iadd F.1 F.2.1 dL_law_361 ?_
        have hv58 := hf.1
        have hf := hf.2
        refine va_sld F.1 F.2.1 hX hbl hbA Z.2 hv58 dL_law_362 ?_
        have hM := k_X6_start l (D := D) (kk := kk) (ad := ad) (bs := bs) (a := a55) (la := la56) (b := b) (lb := lb) (lo := lo57) (xs (x4 + 1).toNatClampNeg) hf
        refine ig_callv E Z (ig_runV (As := [.int (xs (x4 + 1).toNatClampNeg)]) (rest := []) F E Z hl G_L_98 hM (i := 97) (by decide) (ig_k_97 _ _ _ _ _ _) rfl rfl md_X6_start rfl ⟨rfl, rfl⟩ ⟨Nat.le_of_ble_eq_true rfl, Nat.le_of_ble_eq_true rfl⟩ (Nat.le_of_ble_eq_true rfl) dL_law_363 ⟨ig_roomC (by omega), ig_roomS (by omega)⟩) (fun u H locs hf Z => ?_)
        obtain ⟨b59, lb60⟩ := u
        have Z : ig_Z D kk ad bs _ H locs a55 la56 b59 lb60 lo57 := Z
        refine lv_aload_n F.1 F.2.1 dL_law_366 rfl (lv_at hl 3 rfl) ?_
        have hM := k_X6_thrown l (D := D) (kk := kk) (ad := ad) (bs := bs) (a := a55) (la := la56) (b := b59) (lb := lb60) (lo := lo57) hf
        refine ig_calli E Z (ig_runV (As := []) (rest := []) F E Z hl G_L_84 hM (i := 97) (by decide) (ig_k_97 _ _ _ _ _ _) rfl rfl md_X6_thrown rfl ⟨rfl, rfl⟩ ⟨Nat.le_of_ble_eq_true rfl, Nat.le_of_ble_eq_true rfl⟩ (Nat.le_of_ble_eq_true rfl) dL_law_367 ⟨ig_roomC (by omega), ig_roomS (by omega)⟩) (fun r61 u H locs hf Z => ?_)
        have Z : ig_Z D kk ad bs _ H locs a55 la56 b59 lb60 lo57 := Z
        refine lv_iload F.1 F.2.1 dL_law_370 (lv_at hl 0 rfl) ?_
        refine lv_icmp_eq (tgt := 377) F.1 F.2.1 dL_law_372 (by decide) (fun c_62 => ?_) (fun c_62 => ?_)
        · have hf := hf.1 c_62
          refine lv_goto (tgt := 1241) F.1 F.2.1 dL_law_377 (by decide) ?_
          refine lv_iinc (v := x4 + 5) (lv' := [(4, .int (x4 + 5)), (5, .int r54), (0, .ref b0), (1, .ref (ad 0)), (2, .ref (ad 97)), (3, .ref (ad 115))]) F.1 F.2.1 dL_law_1241 hl (k := 5) rfl (by rfl) (by decide) rfl (fun ls hl => ?_)
          refine lv_goto (tgt := 23) F.1 F.2.1 dL_law_1244 (by decide) ?_
          exact ih a55 la56 b59 lb60 lo57 (x4 + 5) _ hd0 _ _ _ _ _ (by omega) (by omega) hf Z (lv_sub hl [2, 3, 4, 5, 0] rfl)
        · have hf := hf.2 c_62
          refine lv_iconst (v := 0) F.1 F.2.1 dL_law_375 (by decide) ?_
          exact absurd hf (by decide)
      have hf := hf.2 c_52
      by_cases c_63 : ((xs x4.toNatClampNeg) &&& 31) = 4
      · have hf := hf.1 c_63
        refine lv_tableIn (tgt := 380) F.1 F.2.1 dL_law_39 (by rw [c_63]; decide) (by rw [c_63]; decide) (by rw [c_63]; rfl) (by decide) ?_
        refine lv_aload_n F.1 F.2.1 dL_law_380 rfl (lv_at hl 1 rfl) ?_
        have hM := k_L_stop l (D := D) (kk := kk) (ad := ad) (bs := bs) (a := a) (la := la) (b := b) (lb := lb) (lo := lo) hlt hf
        refine ig_calli E Z (ig_runSW (As := [.ref (ad 0)]) (rest := []) F E Z hl GL_99 hM md_L_stop rfl ⟨rfl, rfl⟩ ⟨Nat.le_of_ble_eq_true rfl, Nat.le_of_ble_eq_true rfl⟩ (Nat.le_of_ble_eq_true rfl) dL_law_381 ⟨ig_roomC (by omega), ig_roomS (by omega)⟩) (fun r64 u H locs hf Z => ?_)
        obtain ⟨a65, la66, lo67⟩ := u
        have Z : ig_Z D kk ad bs _ H locs a65 la66 b lb lo67 := Z
        refine lv_istore (lv' := [(5, .int r64), (0, .ref b0), (1, .ref (ad 0)), (2, .ref (ad 97)), (3, .ref (ad 115)), (4, .int x4)]) F.1 F.2.1 dL_law_384 hl (by decide) rfl (fun ls hl => ?_)
        refine lv_aload_n F.1 F.2.1 dL_law_386 rfl (lv_at hl 3 rfl) ?_
        have hM := k_X6_stop l (D := D) (kk := kk) (ad := ad) (bs := bs) (a := a65) (la := la66) (b := b) (lb := lb) (lo := lo67) hf
        refine ig_callv E Z (ig_runV (As := []) (rest := []) F E Z hl G_L_102 hM (i := 97) (by decide) (ig_k_97 _ _ _ _ _ _) rfl rfl md_X6_stop rfl ⟨rfl, rfl⟩ ⟨Nat.le_of_ble_eq_true rfl, Nat.le_of_ble_eq_true rfl⟩ (Nat.le_of_ble_eq_true rfl) dL_law_387 ⟨ig_roomC (by omega), ig_roomS (by omega)⟩) (fun u H locs hf Z => ?_)
        obtain ⟨b68, lb69⟩ := u
        have Z : ig_Z D kk ad bs _ H locs a65 la66 b68 lb69 lo67 := Z
        refine lv_aload_n F.1 F.2.1 dL_law_390 rfl (lv_at hl 3 rfl) ?_
        have hM := k_X6_thrown l (D := D) (kk := kk) (ad := ad) (bs := bs) (a := a65) (la := la66) (b := b68) (lb := lb69) (lo := lo67) hf
        refine ig_calli E Z (ig_runV (As := []) (rest := []) F E Z hl G_L_84 hM (i := 97) (by decide) (ig_k_97 _ _ _ _ _ _) rfl rfl md_X6_thrown rfl ⟨rfl, rfl⟩ ⟨Nat.le_of_ble_eq_true rfl, Nat.le_of_ble_eq_true rfl⟩ (Nat.le_of_ble_eq_true rfl) dL_law_391 ⟨ig_roomC (by omega), ig_roomS (by omega)⟩) (fun r70 u H locs hf Z => ?_)
        have Z : ig_Z D kk ad bs _ H locs a65 la66 b68 lb69 lo67 := Z
        refine lv_iload F.1 F.2.1 dL_law_394 (lv_at hl 0 rfl) ?_
        refine lv_icmp_eq (tgt := 401) F.1 F.2.1 dL_law_396 (by decide) (fun c_71 => ?_) (fun c_71 => ?_)
        · have hf := hf.1 c_71
          refine lv_goto (tgt := 1241) F.1 F.2.1 dL_law_401 (by decide) ?_
          refine lv_iinc (v := x4 + 5) (lv' := [(4, .int (x4 + 5)), (5, .int r64), (0, .ref b0), (1, .ref (ad 0)), (2, .ref (ad 97)), (3, .ref (ad 115))]) F.1 F.2.1 dL_law_1241 hl (k := 5) rfl (by rfl) (by decide) rfl (fun ls hl => ?_)
          refine lv_goto (tgt := 23) F.1 F.2.1 dL_law_1244 (by decide) ?_
          exact ih a65 la66 b68 lb69 lo67 (x4 + 5) _ hd0 _ _ _ _ _ (by omega) (by omega) hf Z (lv_sub hl [2, 3, 4, 5, 0] rfl)
        · have hf := hf.2 c_71
          refine lv_iconst (v := 0) F.1 F.2.1 dL_law_399 (by decide) ?_
          exact absurd hf (by decide)
      have hf := hf.2 c_63
      by_cases c_72 : ((xs x4.toNatClampNeg) &&& 31) = 5
      · have hf := hf.1 c_72
        refine lv_tableIn (tgt := 404) F.1 F.2.1 dL_law_39 (by rw [c_72]; decide) (by rw [c_72]; decide) (by rw [c_72]; rfl) (by decide) ?_
        refine lv_aload_n F.1 F.2.1 dL_law_404 rfl (lv_at hl 1 rfl) ?_
        refine lv_aload_n F.1 F.2.1 dL_law_405 rfl (lv_at hl 0 rfl) ?_
        refine lv_iload F.1 F.2.1 dL_law_406 (lv_at hl 4 rfl) ?_
        refine lv_iconst (v := 1) F.1 F.2.1 dL_law_408 (by decide) ?_
        refine lv_iadd F.1 F.2.1 dL_law_409 ?_
        have hv73 := hf.1
        have hf := hf.2
        refine va_sld F.1 F.2.1 hX hbl hbA Z.2 hv73 dL_law_410 ?_
        refine lv_aload_n F.1 F.2.1 dL_law_411 rfl (lv_at hl 3 rfl) ?_
        have hM := k_L_press l (D := D) (kk := kk) (ad := ad) (bs := bs) (a := a) (la := la) (b := b) (lb := lb) (lo := lo) (xs (x4 + 1).toNatClampNeg) hlt hf
        refine ig_calli E Z (ig_runSW (As := [.ref (ad 0), .int (xs (x4 + 1).toNatClampNeg), .ref (ad 115)]) (rest := []) F E Z hl GL_103 hM md_L_press rfl ⟨rfl, rfl⟩ ⟨Nat.le_of_ble_eq_true rfl, Nat.le_of_ble_eq_true rfl⟩ (Nat.le_of_ble_eq_true rfl) dL_law_412 ⟨ig_roomC (by omega), ig_roomS (by omega)⟩) (fun r74 u H locs hf Z => ?_)
        obtain ⟨a75, la76, lo77⟩ := u
        have Z : ig_Z D kk ad bs _ H locs a75 la76 b lb lo77 := Z
        refine lv_istore (lv' := [(5, .int r74), (0, .ref b0), (1, .ref (ad 0)), (2, .ref (ad 97)), (3, .ref (ad 115)), (4, .int x4)]) F.1 F.2.1 dL_law_415 hl (by decide) rfl (fun ls hl => ?_)
        refine lv_aload_n F.1 F.2.1 dL_law_417 rfl (lv_at hl 3 rfl) ?_
        refine lv_aload_n F.1 F.2.1 dL_law_418 rfl (lv_at hl 1 rfl) ?_
        refine lv_iload F.1 F.2.1 dL_law_419 (lv_at hl 5 rfl) ?_
        refine lv_iconst (v := 1) F.1 F.2.1 dL_law_421 (by decide) ?_
        refine lv_iadd F.1 F.2.1 dL_law_422 ?_
        have hv78 := hf.1
        have hf := hf.2
        refine va_sld F.1 F.2.1 hX hbl hbA Z.2 hv78 dL_law_423 ?_
        have hM := k_X6_press l (D := D) (kk := kk) (ad := ad) (bs := bs) (a := a75) (la := la76) (b := b) (lb := lb) (lo := lo77) (xs (x4 + 1).toNatClampNeg) hf
        refine ig_calli E Z (ig_runV (As := [.int (xs (x4 + 1).toNatClampNeg)]) (rest := []) F E Z hl G_L_105 hM (i := 97) (by decide) (ig_k_97 _ _ _ _ _ _) rfl rfl md_X6_press rfl ⟨rfl, rfl⟩ ⟨Nat.le_of_ble_eq_true rfl, Nat.le_of_ble_eq_true rfl⟩ (Nat.le_of_ble_eq_true rfl) dL_law_424 ⟨ig_roomC (by omega), ig_roomS (by omega)⟩) (fun r79 u H locs hf Z => ?_)
        obtain ⟨b80, lb81⟩ := u
        have Z : ig_Z D kk ad bs _ H locs a75 la76 b80 lb81 lo77 := Z
        refine lv_istore (lv' := [(6, .int r79), (5, .int r74), (0, .ref b0), (1, .ref (ad 0)), (2, .ref (ad 97)), (3, .ref (ad 115)), (4, .int x4)]) F.1 F.2.1 dL_law_427 hl (by decide) rfl (fun ls hl => ?_)
        refine lv_aload_n F.1 F.2.1 dL_law_429 rfl (lv_at hl 4 rfl) ?_
        have hM := k_X6_thrown l (D := D) (kk := kk) (ad := ad) (bs := bs) (a := a75) (la := la76) (b := b80) (lb := lb81) (lo := lo77) hf
        refine ig_calli E Z (ig_runV (As := []) (rest := []) F E Z hl G_L_84 hM (i := 97) (by decide) (ig_k_97 _ _ _ _ _ _) rfl rfl md_X6_thrown rfl ⟨rfl, rfl⟩ ⟨Nat.le_of_ble_eq_true rfl, Nat.le_of_ble_eq_true rfl⟩ (Nat.le_of_ble_eq_true rfl) dL_law_430 ⟨ig_roomC (by omega), ig_roomS (by omega)⟩) (fun r82 u H locs hf Z => ?_)
        have Z : ig_Z D kk ad bs _ H locs a75 la76 b80 lb81 lo77 := Z
        refine lv_iload F.1 F.2.1 dL_law_433 (lv_at hl 1 rfl) ?_
        refine lv_icmp_eq (tgt := 440) F.1 F.2.1 dL_law_435 (by decide) (fun c_83 => ?_) (fun c_83 => ?_)
        · have hf := hf.1 c_83
          refine lv_iload F.1 F.2.1 dL_law_440 (lv_at hl 1 rfl) ?_
          refine lv_if_ne (tgt := 464) F.1 F.2.1 dL_law_442 (by decide) (fun c_84 => ?_) (fun c_84 => ?_)
          · have hf := hf.1 c_84
            refine lv_goto (tgt := 1241) F.1 F.2.1 dL_law_464 (by decide) ?_
            refine lv_iinc (v := x4 + 5) (lv' := [(4, .int (x4 + 5)), (6, .int r79), (5, .int r74), (0, .ref b0), (1, .ref (ad 0)), (2, .ref (ad 97)), (3, .ref (ad 115))]) F.1 F.2.1 dL_law_1241 hl (k := 6) rfl (by rfl) (by decide) rfl (fun ls hl => ?_)
            refine lv_goto (tgt := 23) F.1 F.2.1 dL_law_1244 (by decide) ?_
            exact ih a75 la76 b80 lb81 lo77 (x4 + 5) _ hd0 _ _ _ _ _ (by omega) (by omega) hf Z (lv_sub hl [3, 4, 5, 6, 0] rfl)
          · have hf := hf.2 c_84
            refine lv_aload_n F.1 F.2.1 dL_law_445 rfl (lv_at hl 5 rfl) ?_
            refine lv_iconst (v := 0) F.1 F.2.1 dL_law_446 (by decide) ?_
            refine ig_lald F E Z dL_law_447 ?_
            refine lv_iload F.1 F.2.1 dL_law_448 (lv_at hl 0 rfl) ?_
            refine lv_if_eq (tgt := 457) F.1 F.2.1 dL_law_450 (by decide) (fun c_85 => ?_) (fun c_85 => ?_)
            · have hf := hf.1 c_85
              refine lv_lconst (v := 0) F.1 F.2.1 dL_law_457 (by decide) ?_
              exact wm_L_law_458 l hlt Fs Es hr hk hX hbl hbA hbs (fun (z0 : ig_M) (z1 : Int64) (z2 : ig_M) (z3 : Int64) (z4 : Int64) (z5 : Int32) => wp_L_law_23 xs Ln n z0 z1 z2 z3 z4 z5) (4 * n) (24 * n) ih a75 la76 b80 lb81 lo77 x4 ((0 : Int64)) lo77 _ hd0 _ _ _ _ _ (by omega) (by omega) hf Z (lv_sub hl [2, 3, 4, 5, 6] rfl)
            · have hf := hf.2 c_85
              refine lv_lconst (v := 1) F.1 F.2.1 dL_law_453 (by decide) ?_
              refine lv_goto (tgt := 458) F.1 F.2.1 dL_law_454 (by decide) ?_
              exact wm_L_law_458 l hlt Fs Es hr hk hX hbl hbA hbs (fun (z0 : ig_M) (z1 : Int64) (z2 : ig_M) (z3 : Int64) (z4 : Int64) (z5 : Int32) => wp_L_law_23 xs Ln n z0 z1 z2 z3 z4 z5) (4 * n) (24 * n) ih a75 la76 b80 lb81 lo77 x4 ((1 : Int64)) lo77 _ hd0 _ _ _ _ _ (by omega) (by omega) hf Z (lv_sub hl [2, 3, 4, 5, 6] rfl)
        · have hf := hf.2 c_83
          refine lv_iconst (v := 0) F.1 F.2.1 dL_law_438 (by decide) ?_
          exact absurd hf (by decide)
      have hf := hf.2 c_72
      by_cases c_86 : ((xs x4.toNatClampNeg) &&& 31) = 6
      · have hf := hf.1 c_86
        refine lv_tableIn (tgt := 467) F.1 F.2.1 dL_law_39 (by rw [c_86]; decide) (by rw [c_86]; decide) (by rw [c_86]; rfl) (by decide) ?_
        refine lv_aload_n F.1 F.2.1 dL_law_467 rfl (lv_at hl 1 rfl) ?_
        refine lv_aload_n F.1 F.2.1 dL_law_468 rfl (lv_at hl 0 rfl) ?_
        refine lv_iload F.1 F.2.1 dL_law_469 (lv_at hl 4 rfl) ?_
        refine lv_iconst (v := 1) F.1 F.2.1 dL_law_471 (by decide) ?_
        refine lv_iadd F.1 F.2.1 dL_law_472 ?_
        have hv87 := hf.1
        have hf := hf.2
        refine va_sld F.1 F.2.1 hX hbl hbA Z.2 hv87 dL_law_473 ?_
        refine lv_aload_n F.1 F.2.1 dL_law_474 rfl (lv_at hl 0 rfl) ?_
        refine lv_iload F.1 F.2.1 dL_law_475 (lv_at hl 4 rfl) ?_
        refine lv_iconst (v := 2) F.1 F.2.1 dL_law_477 (by decide) ?_
        refine lv_iadd F.1 F.2.1 dL_law_478 ?_
        have hv88 := hf.1
        have hf := hf.2
        refine va_sld F.1 F.2.1 hX hbl hbA Z.2 hv88 dL_law_479 ?_
        refine lv_aload_n F.1 F.2.1 dL_law_480 rfl (lv_at hl 3 rfl) ?_
        have hM := k_L_arrive l (D := D) (kk := kk) (ad := ad) (bs := bs) (a := a) (la := la) (b := b) (lb := lb) (lo := lo) (xs (x4 + 1).toNatClampNeg) (xs (x4 + 2).toNatClampNeg) hlt hf
        refine ig_calli E Z (ig_runSW (As := [.ref (ad 0), .int (xs (x4 + 1).toNatClampNeg), .int (xs (x4 + 2).toNatClampNeg), .ref (ad 115)]) (rest := []) F E Z hl GL_106 hM md_L_arrive rfl ⟨rfl, rfl⟩ ⟨Nat.le_of_ble_eq_true rfl, Nat.le_of_ble_eq_true rfl⟩ (Nat.le_of_ble_eq_true rfl) dL_law_481 ⟨ig_roomC (by omega), ig_roomS (by omega)⟩) (fun r89 u H locs hf Z => ?_)
        obtain ⟨a90, la91, lo92⟩ := u
        have Z : ig_Z D kk ad bs _ H locs a90 la91 b lb lo92 := Z
        refine lv_istore (lv' := [(5, .int r89), (0, .ref b0), (1, .ref (ad 0)), (2, .ref (ad 97)), (3, .ref (ad 115)), (4, .int x4)]) F.1 F.2.1 dL_law_484 hl (by decide) rfl (fun ls hl => ?_)
        refine lv_aload_n F.1 F.2.1 dL_law_486 rfl (lv_at hl 3 rfl) ?_
        refine lv_aload_n F.1 F.2.1 dL_law_487 rfl (lv_at hl 1 rfl) ?_
        refine lv_iload F.1 F.2.1 dL_law_488 (lv_at hl 5 rfl) ?_
        refine lv_iconst (v := 1) F.1 F.2.1 dL_law_490 (by decide) ?_
        refine lv_iadd F.1 F.2.1 dL_law_491 ?_
        have hv93 := hf.1
        have hf := hf.2
        refine va_sld F.1 F.2.1 hX hbl hbA Z.2 hv93 dL_law_492 ?_
        refine lv_aload_n F.1 F.2.1 dL_law_493 rfl (lv_at hl 1 rfl) ?_
        refine lv_iload F.1 F.2.1 dL_law_494 (lv_at hl 5 rfl) ?_
        refine lv_iconst (v := 2) F.1 F.2.1 dL_law_496 (by decide) ?_
        refine lv_iadd F.1 F.2.1 dL_law_497 ?_
        have hv94 := hf.1
        have hf := hf.2
        refine va_sld F.1 F.2.1 hX hbl hbA Z.2 hv94 dL_law_498 ?_
        have hM := k_X6_arrive l (D := D) (kk := kk) (ad := ad) (bs := bs) (a := a90) (la := la91) (b := b) (lb := lb) (lo := lo92) (xs (x4 + 1).toNatClampNeg) (xs (x4 + 2).toNatClampNeg) hf
        refine ig_calli E Z (ig_runV (As := [.int (xs (x4 + 1).toNatClampNeg), .int (xs (x4 + 2).toNatClampNeg)]) (rest := []) F E Z hl G_L_109 hM (i := 97) (by decide) (ig_k_97 _ _ _ _ _ _) rfl rfl md_X6_arrive rfl ⟨rfl, rfl⟩ ⟨Nat.le_of_ble_eq_true rfl, Nat.le_of_ble_eq_true rfl⟩ (Nat.le_of_ble_eq_true rfl) dL_law_499 ⟨ig_roomC (by omega), ig_roomS (by omega)⟩) (fun r95 u H locs hf Z => ?_)
        obtain ⟨b96, lb97⟩ := u
        have Z : ig_Z D kk ad bs _ H locs a90 la91 b96 lb97 lo92 := Z
        refine lv_istore (lv' := [(6, .int r95), (5, .int r89), (0, .ref b0), (1, .ref (ad 0)), (2, .ref (ad 97)), (3, .ref (ad 115)), (4, .int x4)]) F.1 F.2.1 dL_law_502 hl (by decide) rfl (fun ls hl => ?_)
        refine lv_aload_n F.1 F.2.1 dL_law_504 rfl (lv_at hl 4 rfl) ?_
        have hM := k_X6_thrown l (D := D) (kk := kk) (ad := ad) (bs := bs) (a := a90) (la := la91) (b := b96) (lb := lb97) (lo := lo92) hf
        refine ig_calli E Z (ig_runV (As := []) (rest := []) F E Z hl G_L_84 hM (i := 97) (by decide) (ig_k_97 _ _ _ _ _ _) rfl rfl md_X6_thrown rfl ⟨rfl, rfl⟩ ⟨Nat.le_of_ble_eq_true rfl, Nat.le_of_ble_eq_true rfl⟩ (Nat.le_of_ble_eq_true rfl) dL_law_505 ⟨ig_roomC (by omega), ig_roomS (by omega)⟩) (fun r98 u H locs hf Z => ?_)
        have Z : ig_Z D kk ad bs _ H locs a90 la91 b96 lb97 lo92 := Z
        refine lv_iload F.1 F.2.1 dL_law_508 (lv_at hl 1 rfl) ?_
        refine lv_icmp_eq (tgt := 515) F.1 F.2.1 dL_law_510 (by decide) (fun c_99 => ?_) (fun c_99 => ?_)
        · have hf := hf.1 c_99
          refine lv_iload F.1 F.2.1 dL_law_515 (lv_at hl 1 rfl) ?_
          refine lv_if_ne (tgt := 532) F.1 F.2.1 dL_law_517 (by decide) (fun c_100 => ?_) (fun c_100 => ?_)
          · have hf := hf.1 c_100
            refine lv_goto (tgt := 1241) F.1 F.2.1 dL_law_532 (by decide) ?_
            refine lv_iinc (v := x4 + 5) (lv' := [(4, .int (x4 + 5)), (6, .int r95), (5, .int r89), (0, .ref b0), (1, .ref (ad 0)), (2, .ref (ad 97)), (3, .ref (ad 115))]) F.1 F.2.1 dL_law_1241 hl (k := 6) rfl (by rfl) (by decide) rfl (fun ls hl => ?_)
            refine lv_goto (tgt := 23) F.1 F.2.1 dL_law_1244 (by decide) ?_
            exact ih a90 la91 b96 lb97 lo92 (x4 + 5) _ hd0 _ _ _ _ _ (by omega) (by omega) hf Z (lv_sub hl [3, 4, 5, 6, 0] rfl)
          · have hf := hf.2 c_100
            refine lv_aload_n F.1 F.2.1 dL_law_520 rfl (lv_at hl 5 rfl) ?_
            refine lv_iconst (v := 0) F.1 F.2.1 dL_law_521 (by decide) ?_
            refine ig_lald F E Z dL_law_522 ?_
            refine lv_iload F.1 F.2.1 dL_law_523 (lv_at hl 0 rfl) ?_
            refine lv_i2l F.1 F.2.1 dL_law_525 rfl ?_
            refine W.lcmp F.1 F.2.1 dL_law_526 ?_
            refine lv_if_eq (tgt := 532) F.1 F.2.1 dL_law_527 (by decide) (fun c_101 => ?_) (fun c_101 => ?_)
            · have hf := hf.1 c_101
              refine lv_goto (tgt := 1241) F.1 F.2.1 dL_law_532 (by decide) ?_
              refine lv_iinc (v := x4 + 5) (lv' := [(4, .int (x4 + 5)), (6, .int r95), (5, .int r89), (0, .ref b0), (1, .ref (ad 0)), (2, .ref (ad 97)), (3, .ref (ad 115))]) F.1 F.2.1 dL_law_1241 hl (k := 6) rfl (by rfl) (by decide) rfl (fun ls hl => ?_)
              refine lv_goto (tgt := 23) F.1 F.2.1 dL_law_1244 (by decide) ?_
              exact ih a90 la91 b96 lb97 lo92 (x4 + 5) _ hd0 _ _ _ _ _ (by omega) (by omega) hf Z (lv_sub hl [3, 4, 5, 6, 0] rfl)
            · have hf := hf.2 c_101
              refine lv_iconst (v := 0) F.1 F.2.1 dL_law_530 (by decide) ?_
              exact absurd hf (by decide)
        · have hf := hf.2 c_99
          refine lv_iconst (v := 0) F.1 F.2.1 dL_law_513 (by decide) ?_
          exact absurd hf (by decide)
      have hf := hf.2 c_86
      by_cases c_102 : ((xs x4.toNatClampNeg) &&& 31) = 7
      · have hf := hf.1 c_102
        refine lv_tableIn (tgt := 535) F.1 F.2.1 dL_law_39 (by rw [c_102]; decide) (by rw [c_102]; decide) (by rw [c_102]; rfl) (by decide) ?_
        refine lv_aload_n F.1 F.2.1 dL_law_535 rfl (lv_at hl 1 rfl) ?_
        refine lv_aload_n F.1 F.2.1 dL_law_536 rfl (lv_at hl 0 rfl) ?_
        refine lv_iload F.1 F.2.1 dL_law_537 (lv_at hl 4 rfl) ?_
        refine lv_iconst (v := 1) F.1 F.2.1 dL_law_539 (by decide) ?_
        refine lv_iadd F.1 F.2.1 dL_law_540 ?_
        have hv103 := hf.1
        have hf := hf.2
        refine va_sld F.1 F.2.1 hX hbl hbA Z.2 hv103 dL_law_541 ?_
        have hM := k_L_ask l (D := D) (kk := kk) (ad := ad) (bs := bs) (a := a) (la := la) (b := b) (lb := lb) (lo := lo) (xs (x4 + 1).toNatClampNeg) hlt hf
        refine ig_calli E Z (ig_runSW (As := [.ref (ad 0), .int (xs (x4 + 1).toNatClampNeg)]) (rest := []) F E Z hl GL_110 hM md_L_ask rfl ⟨rfl, rfl⟩ ⟨Nat.le_of_ble_eq_true rfl, Nat.le_of_ble_eq_true rfl⟩ (Nat.le_of_ble_eq_true rfl) dL_law_542 ⟨ig_roomC (by omega), ig_roomS (by omega)⟩) (fun r104 u H locs hf Z => ?_)
        obtain ⟨a105, la106, lo107⟩ := u
        have Z : ig_Z D kk ad bs _ H locs a105 la106 b lb lo107 := Z
        refine lv_istore (lv' := [(5, .int r104), (0, .ref b0), (1, .ref (ad 0)), (2, .ref (ad 97)), (3, .ref (ad 115)), (4, .int x4)]) F.1 F.2.1 dL_law_545 hl (by decide) rfl (fun ls hl => ?_)
        refine lv_aload_n F.1 F.2.1 dL_law_547 rfl (lv_at hl 3 rfl) ?_
        refine lv_aload_n F.1 F.2.1 dL_law_548 rfl (lv_at hl 1 rfl) ?_
        refine lv_iload F.1 F.2.1 dL_law_549 (lv_at hl 5 rfl) ?_
        refine lv_iconst (v := 1) F.1 F.2.1 dL_law_551 (by decide) ?_
        refine lv_iadd F.1 F.2.1 dL_law_552 ?_
        have hv108 := hf.1
        have hf := hf.2
        refine va_sld F.1 F.2.1 hX hbl hbA Z.2 hv108 dL_law_553 ?_
        have hM := k_X6_ask l (D := D) (kk := kk) (ad := ad) (bs := bs) (a := a105) (la := la106) (b := b) (lb := lb) (lo := lo107) (xs (x4 + 1).toNatClampNeg) hf
        refine ig_callv E Z (ig_runV (As := [.int (xs (x4 + 1).toNatClampNeg)]) (rest := []) F E Z hl G_L_112 hM (i := 97) (by decide) (ig_k_97 _ _ _ _ _ _) rfl rfl md_X6_ask rfl ⟨rfl, rfl⟩ ⟨Nat.le_of_ble_eq_true rfl, Nat.le_of_ble_eq_true rfl⟩ (Nat.le_of_ble_eq_true rfl) dL_law_554 ⟨ig_roomC (by omega), ig_roomS (by omega)⟩) (fun u H locs hf Z => ?_)
        obtain ⟨b109, lb110⟩ := u
        have Z : ig_Z D kk ad bs _ H locs a105 la106 b109 lb110 lo107 := Z
        refine lv_aload_n F.1 F.2.1 dL_law_557 rfl (lv_at hl 3 rfl) ?_
        have hM := k_X6_thrown l (D := D) (kk := kk) (ad := ad) (bs := bs) (a := a105) (la := la106) (b := b109) (lb := lb110) (lo := lo107) hf
        refine ig_calli E Z (ig_runV (As := []) (rest := []) F E Z hl G_L_84 hM (i := 97) (by decide) (ig_k_97 _ _ _ _ _ _) rfl rfl md_X6_thrown rfl ⟨rfl, rfl⟩ ⟨Nat.le_of_ble_eq_true rfl, Nat.le_of_ble_eq_true rfl⟩ (Nat.le_of_ble_eq_true rfl) dL_law_558 ⟨ig_roomC (by omega), ig_roomS (by omega)⟩) (fun r111 u H locs hf Z => ?_)
        have Z : ig_Z D kk ad bs _ H locs a105 la106 b109 lb110 lo107 := Z
        refine lv_iload F.1 F.2.1 dL_law_561 (lv_at hl 0 rfl) ?_
        refine lv_icmp_eq (tgt := 568) F.1 F.2.1 dL_law_563 (by decide) (fun c_112 => ?_) (fun c_112 => ?_)
        · have hf := hf.1 c_112
          refine lv_goto (tgt := 1241) F.1 F.2.1 dL_law_568 (by decide) ?_
          refine lv_iinc (v := x4 + 5) (lv' := [(4, .int (x4 + 5)), (5, .int r104), (0, .ref b0), (1, .ref (ad 0)), (2, .ref (ad 97)), (3, .ref (ad 115))]) F.1 F.2.1 dL_law_1241 hl (k := 5) rfl (by rfl) (by decide) rfl (fun ls hl => ?_)
          refine lv_goto (tgt := 23) F.1 F.2.1 dL_law_1244 (by decide) ?_
          exact ih a105 la106 b109 lb110 lo107 (x4 + 5) _ hd0 _ _ _ _ _ (by omega) (by omega) hf Z (lv_sub hl [2, 3, 4, 5, 0] rfl)
        · have hf := hf.2 c_112
          refine lv_iconst (v := 0) F.1 F.2.1 dL_law_566 (by decide) ?_
          exact absurd hf (by decide)
      have hf := hf.2 c_102
      by_cases c_113 : ((xs x4.toNatClampNeg) &&& 31) = 8
      · have hf := hf.1 c_113
        refine lv_tableIn (tgt := 571) F.1 F.2.1 dL_law_39 (by rw [c_113]; decide) (by rw [c_113]; decide) (by rw [c_113]; rfl) (by decide) ?_
        refine lv_aload_n F.1 F.2.1 dL_law_571 rfl (lv_at hl 1 rfl) ?_
        refine lv_aload_n F.1 F.2.1 dL_law_572 rfl (lv_at hl 3 rfl) ?_
        have hM := k_L_cancel l (D := D) (kk := kk) (ad := ad) (bs := bs) (a := a) (la := la) (b := b) (lb := lb) (lo := lo) hlt hf
        refine ig_calli E Z (ig_runSW (As := [.ref (ad 0), .ref (ad 115)]) (rest := []) F E Z hl GL_113 hM md_L_cancel rfl ⟨rfl, rfl⟩ ⟨Nat.le_of_ble_eq_true rfl, Nat.le_of_ble_eq_true rfl⟩ (Nat.le_of_ble_eq_true rfl) dL_law_573 ⟨ig_roomC (by omega), ig_roomS (by omega)⟩) (fun r114 u H locs hf Z => ?_)
        obtain ⟨a115, la116, lo117⟩ := u
        have Z : ig_Z D kk ad bs _ H locs a115 la116 b lb lo117 := Z
        refine lv_istore (lv' := [(5, .int r114), (0, .ref b0), (1, .ref (ad 0)), (2, .ref (ad 97)), (3, .ref (ad 115)), (4, .int x4)]) F.1 F.2.1 dL_law_576 hl (by decide) rfl (fun ls hl => ?_)
        refine lv_aload_n F.1 F.2.1 dL_law_578 rfl (lv_at hl 3 rfl) ?_
        have hM := k_X6_cancel l (D := D) (kk := kk) (ad := ad) (bs := bs) (a := a115) (la := la116) (b := b) (lb := lb) (lo := lo117) hf
        refine ig_calli E Z (ig_runV (As := []) (rest := []) F E Z hl G_L_116 hM (i := 97) (by decide) (ig_k_97 _ _ _ _ _ _) rfl rfl md_X6_cancel rfl ⟨rfl, rfl⟩ ⟨Nat.le_of_ble_eq_true rfl, Nat.le_of_ble_eq_true rfl⟩ (Nat.le_of_ble_eq_true rfl) dL_law_579 ⟨ig_roomC (by omega), ig_roomS (by omega)⟩) (fun r118 u H locs hf Z => ?_)
        obtain ⟨b119, lb120⟩ := u
        have Z : ig_Z D kk ad bs _ H locs a115 la116 b119 lb120 lo117 := Z
        refine lv_istore (lv' := [(6, .int r118), (5, .int r114), (0, .ref b0), (1, .ref (ad 0)), (2, .ref (ad 97)), (3, .ref (ad 115)), (4, .int x4)]) F.1 F.2.1 dL_law_582 hl (by decide) rfl (fun ls hl => ?_)
        refine lv_aload_n F.1 F.2.1 dL_law_584 rfl (lv_at hl 4 rfl) ?_
        have hM := k_X6_thrown l (D := D) (kk := kk) (ad := ad) (bs := bs) (a := a115) (la := la116) (b := b119) (lb := lb120) (lo := lo117) hf
        refine ig_calli E Z (ig_runV (As := []) (rest := []) F E Z hl G_L_84 hM (i := 97) (by decide) (ig_k_97 _ _ _ _ _ _) rfl rfl md_X6_thrown rfl ⟨rfl, rfl⟩ ⟨Nat.le_of_ble_eq_true rfl, Nat.le_of_ble_eq_true rfl⟩ (Nat.le_of_ble_eq_true rfl) dL_law_585 ⟨ig_roomC (by omega), ig_roomS (by omega)⟩) (fun r121 u H locs hf Z => ?_)
        have Z : ig_Z D kk ad bs _ H locs a115 la116 b119 lb120 lo117 := Z
        refine lv_iload F.1 F.2.1 dL_law_588 (lv_at hl 1 rfl) ?_
        refine lv_icmp_eq (tgt := 595) F.1 F.2.1 dL_law_590 (by decide) (fun c_122 => ?_) (fun c_122 => ?_)
        · have hf := hf.1 c_122
          refine lv_iload F.1 F.2.1 dL_law_595 (lv_at hl 1 rfl) ?_
          refine lv_if_ne (tgt := 612) F.1 F.2.1 dL_law_597 (by decide) (fun c_123 => ?_) (fun c_123 => ?_)
          · have hf := hf.1 c_123
            refine lv_goto (tgt := 1241) F.1 F.2.1 dL_law_612 (by decide) ?_
            refine lv_iinc (v := x4 + 5) (lv' := [(4, .int (x4 + 5)), (6, .int r118), (5, .int r114), (0, .ref b0), (1, .ref (ad 0)), (2, .ref (ad 97)), (3, .ref (ad 115))]) F.1 F.2.1 dL_law_1241 hl (k := 6) rfl (by rfl) (by decide) rfl (fun ls hl => ?_)
            refine lv_goto (tgt := 23) F.1 F.2.1 dL_law_1244 (by decide) ?_
            exact ih a115 la116 b119 lb120 lo117 (x4 + 5) _ hd0 _ _ _ _ _ (by omega) (by omega) hf Z (lv_sub hl [3, 4, 5, 6, 0] rfl)
          · have hf := hf.2 c_123
            refine lv_aload_n F.1 F.2.1 dL_law_600 rfl (lv_at hl 5 rfl) ?_
            refine lv_iconst (v := 0) F.1 F.2.1 dL_law_601 (by decide) ?_
            refine ig_lald F E Z dL_law_602 ?_
            refine lv_iload F.1 F.2.1 dL_law_603 (lv_at hl 0 rfl) ?_
            refine lv_i2l F.1 F.2.1 dL_law_605 rfl ?_
            refine W.lcmp F.1 F.2.1 dL_law_606 ?_
            refine lv_if_eq (tgt := 612) F.1 F.2.1 dL_law_607 (by decide) (fun c_124 => ?_) (fun c_124 => ?_)
            · have hf := hf.1 c_124
              refine lv_goto (tgt := 1241) F.1 F.2.1 dL_law_612 (by decide) ?_
              refine lv_iinc (v := x4 + 5) (lv' := [(4, .int (x4 + 5)), (6, .int r118), (5, .int r114), (0, .ref b0), (1, .ref (ad 0)), (2, .ref (ad 97)), (3, .ref (ad 115))]) F.1 F.2.1 dL_law_1241 hl (k := 6) rfl (by rfl) (by decide) rfl (fun ls hl => ?_)
              refine lv_goto (tgt := 23) F.1 F.2.1 dL_law_1244 (by decide) ?_
              exact ih a115 la116 b119 lb120 lo117 (x4 + 5) _ hd0 _ _ _ _ _ (by omega) (by omega) hf Z (lv_sub hl [3, 4, 5, 6, 0] rfl)
            · have hf := hf.2 c_124
              refine lv_iconst (v := 0) F.1 F.2.1 dL_law_610 (by decide) ?_
              exact absurd hf (by decide)
        · have hf := hf.2 c_122
          refine lv_iconst (v := 0) F.1 F.2.1 dL_law_593 (by decide) ?_
          exact absurd hf (by decide)
      have hf := hf.2 c_113
      by_cases c_125 : ((xs x4.toNatClampNeg) &&& 31) = 9
      · have hf := hf.1 c_125
        refine lv_tableIn (tgt := 615) F.1 F.2.1 dL_law_39 (by rw [c_125]; decide) (by rw [c_125]; decide) (by rw [c_125]; rfl) (by decide) ?_
        refine lv_aload_n F.1 F.2.1 dL_law_615 rfl (lv_at hl 1 rfl) ?_
        refine lv_aload_n F.1 F.2.1 dL_law_616 rfl (lv_at hl 0 rfl) ?_
        refine lv_iload F.1 F.2.1 dL_law_617 (lv_at hl 4 rfl) ?_
        refine lv_iconst (v := 1) F.1 F.2.1 dL_law_619 (by decide) ?_
        refine lv_iadd F.1 F.2.1 dL_law_620 ?_
        have hv126 := hf.1
        have hf := hf.2
        refine va_sld F.1 F.2.1 hX hbl hbA Z.2 hv126 dL_law_621 ?_
        refine lv_aload_n F.1 F.2.1 dL_law_622 rfl (lv_at hl 0 rfl) ?_
        refine lv_iload F.1 F.2.1 dL_law_623 (lv_at hl 4 rfl) ?_
        refine lv_iconst (v := 2) F.1 F.2.1 dL_law_625 (by decide) ?_
        refine lv_iadd F.1 F.2.1 dL_law_626 ?_
        have hv127 := hf.1
        have hf := hf.2
        refine va_sld F.1 F.2.1 hX hbl hbA Z.2 hv127 dL_law_627 ?_
        refine lv_aload_n F.1 F.2.1 dL_law_628 rfl (lv_at hl 0 rfl) ?_
        refine lv_iload F.1 F.2.1 dL_law_629 (lv_at hl 4 rfl) ?_
        refine lv_iconst (v := 3) F.1 F.2.1 dL_law_631 (by decide) ?_
        refine lv_iadd F.1 F.2.1 dL_law_632 ?_
        have hv128 := hf.1
        have hf := hf.2
        refine va_sld F.1 F.2.1 hX hbl hbA Z.2 hv128 dL_law_633 ?_
        refine lv_if_eq (tgt := 641) F.1 F.2.1 dL_law_634 (by decide) (fun c_129 => ?_) (fun c_129 => ?_)
        · have hf := hf.1 c_129
          refine lv_iconst (v := 0) F.1 F.2.1 dL_law_641 (by decide) ?_
          exact wm_L_law_642 l hlt Fs Es hr hk hX hbl hbA hbs (fun (z0 : ig_M) (z1 : Int64) (z2 : ig_M) (z3 : Int64) (z4 : Int64) (z5 : Int32) => wp_L_law_23 xs Ln n z0 z1 z2 z3 z4 z5) (4 * n) (24 * n) ih a la b lb lo x4 0 (xs (x4 + 2).toNatClampNeg) (xs (x4 + 1).toNatClampNeg) _ hd0 _ _ _ _ _ (by omega) (by omega) hf Z (lv_sub hl [0, 1, 2, 3, 4] rfl)
        · have hf := hf.2 c_129
          refine lv_iconst (v := 1) F.1 F.2.1 dL_law_637 (by decide) ?_
          refine lv_goto (tgt := 642) F.1 F.2.1 dL_law_638 (by decide) ?_
          exact wm_L_law_642 l hlt Fs Es hr hk hX hbl hbA hbs (fun (z0 : ig_M) (z1 : Int64) (z2 : ig_M) (z3 : Int64) (z4 : Int64) (z5 : Int32) => wp_L_law_23 xs Ln n z0 z1 z2 z3 z4 z5) (4 * n) (24 * n) ih a la b lb lo x4 1 (xs (x4 + 2).toNatClampNeg) (xs (x4 + 1).toNatClampNeg) _ hd0 _ _ _ _ _ (by omega) (by omega) hf Z (lv_sub hl [0, 1, 2, 3, 4] rfl)
      have hf := hf.2 c_125
      by_cases c_130 : ((xs x4.toNatClampNeg) &&& 31) = 10
      · have hf := hf.1 c_130
        refine lv_tableIn (tgt := 718) F.1 F.2.1 dL_law_39 (by rw [c_130]; decide) (by rw [c_130]; decide) (by rw [c_130]; rfl) (by decide) ?_
        refine lv_aload_n F.1 F.2.1 dL_law_718 rfl (lv_at hl 1 rfl) ?_
        refine lv_aload_n F.1 F.2.1 dL_law_719 rfl (lv_at hl 0 rfl) ?_
        refine lv_iload F.1 F.2.1 dL_law_720 (lv_at hl 4 rfl) ?_
        refine lv_iconst (v := 1) F.1 F.2.1 dL_law_722 (by decide) ?_
        refine lv_iadd F.1 F.2.1 dL_law_723 ?_
        have hv131 := hf.1
        have hf := hf.2
        refine va_sld F.1 F.2.1 hX hbl hbA Z.2 hv131 dL_law_724 ?_
        refine lv_aload_n F.1 F.2.1 dL_law_725 rfl (lv_at hl 3 rfl) ?_
        have hM := k_L_go l (D := D) (kk := kk) (ad := ad) (bs := bs) (a := a) (la := la) (b := b) (lb := lb) (lo := lo) (xs (x4 + 1).toNatClampNeg) hlt hf
        refine ig_calli E Z (ig_runSW (As := [.ref (ad 0), .int (xs (x4 + 1).toNatClampNeg), .ref (ad 115)]) (rest := []) F E Z hl GL_121 hM md_L_go rfl ⟨rfl, rfl⟩ ⟨Nat.le_of_ble_eq_true rfl, Nat.le_of_ble_eq_true rfl⟩ (Nat.le_of_ble_eq_true rfl) dL_law_726 ⟨ig_roomC (by omega), ig_roomS (by omega)⟩) (fun r132 u H locs hf Z => ?_)
        obtain ⟨a133, la134, lo135⟩ := u
        have Z : ig_Z D kk ad bs _ H locs a133 la134 b lb lo135 := Z
        refine lv_istore (lv' := [(5, .int r132), (0, .ref b0), (1, .ref (ad 0)), (2, .ref (ad 97)), (3, .ref (ad 115)), (4, .int x4)]) F.1 F.2.1 dL_law_729 hl (by decide) rfl (fun ls hl => ?_)
        refine lv_aload_n F.1 F.2.1 dL_law_731 rfl (lv_at hl 3 rfl) ?_
        refine lv_aload_n F.1 F.2.1 dL_law_732 rfl (lv_at hl 1 rfl) ?_
        refine lv_iload F.1 F.2.1 dL_law_733 (lv_at hl 5 rfl) ?_
        refine lv_iconst (v := 1) F.1 F.2.1 dL_law_735 (by decide) ?_
        refine lv_iadd F.1 F.2.1 dL_law_736 ?_
        have hv136 := hf.1
        have hf := hf.2
        refine va_sld F.1 F.2.1 hX hbl hbA Z.2 hv136 dL_law_737 ?_
        have hM := k_X6_go l (D := D) (kk := kk) (ad := ad) (bs := bs) (a := a133) (la := la134) (b := b) (lb := lb) (lo := lo135) (xs (x4 + 1).toNatClampNeg) hf
        refine ig_calli E Z (ig_runV (As := [.int (xs (x4 + 1).toNatClampNeg)]) (rest := []) F E Z hl G_L_123 hM (i := 97) (by decide) (ig_k_97 _ _ _ _ _ _) rfl rfl md_X6_go rfl ⟨rfl, rfl⟩ ⟨Nat.le_of_ble_eq_true rfl, Nat.le_of_ble_eq_true rfl⟩ (Nat.le_of_ble_eq_true rfl) dL_law_738 ⟨ig_roomC (by omega), ig_roomS (by omega)⟩) (fun r137 u H locs hf Z => ?_)
        obtain ⟨b138, lb139⟩ := u
        have Z : ig_Z D kk ad bs _ H locs a133 la134 b138 lb139 lo135 := Z
        refine lv_istore (lv' := [(6, .int r137), (5, .int r132), (0, .ref b0), (1, .ref (ad 0)), (2, .ref (ad 97)), (3, .ref (ad 115)), (4, .int x4)]) F.1 F.2.1 dL_law_741 hl (by decide) rfl (fun ls hl => ?_)
        refine lv_aload_n F.1 F.2.1 dL_law_743 rfl (lv_at hl 4 rfl) ?_
        have hM := k_X6_thrown l (D := D) (kk := kk) (ad := ad) (bs := bs) (a := a133) (la := la134) (b := b138) (lb := lb139) (lo := lo135) hf
        refine ig_calli E Z (ig_runV (As := []) (rest := []) F E Z hl G_L_84 hM (i := 97) (by decide) (ig_k_97 _ _ _ _ _ _) rfl rfl md_X6_thrown rfl ⟨rfl, rfl⟩ ⟨Nat.le_of_ble_eq_true rfl, Nat.le_of_ble_eq_true rfl⟩ (Nat.le_of_ble_eq_true rfl) dL_law_744 ⟨ig_roomC (by omega), ig_roomS (by omega)⟩) (fun r140 u H locs hf Z => ?_)
        have Z : ig_Z D kk ad bs _ H locs a133 la134 b138 lb139 lo135 := Z
        refine lv_iload F.1 F.2.1 dL_law_747 (lv_at hl 1 rfl) ?_
        refine lv_icmp_eq (tgt := 754) F.1 F.2.1 dL_law_749 (by decide) (fun c_141 => ?_) (fun c_141 => ?_)
        · have hf := hf.1 c_141
          refine lv_iload F.1 F.2.1 dL_law_754 (lv_at hl 1 rfl) ?_
          refine lv_if_ne (tgt := 771) F.1 F.2.1 dL_law_756 (by decide) (fun c_142 => ?_) (fun c_142 => ?_)
          · have hf := hf.1 c_142
            refine lv_goto (tgt := 1241) F.1 F.2.1 dL_law_771 (by decide) ?_
            refine lv_iinc (v := x4 + 5) (lv' := [(4, .int (x4 + 5)), (6, .int r137), (5, .int r132), (0, .ref b0), (1, .ref (ad 0)), (2, .ref (ad 97)), (3, .ref (ad 115))]) F.1 F.2.1 dL_law_1241 hl (k := 6) rfl (by rfl) (by decide) rfl (fun ls hl => ?_)
            refine lv_goto (tgt := 23) F.1 F.2.1 dL_law_1244 (by decide) ?_
            exact ih a133 la134 b138 lb139 lo135 (x4 + 5) _ hd0 _ _ _ _ _ (by omega) (by omega) hf Z (lv_sub hl [3, 4, 5, 6, 0] rfl)
          · have hf := hf.2 c_142
            refine lv_aload_n F.1 F.2.1 dL_law_759 rfl (lv_at hl 5 rfl) ?_
            refine lv_iconst (v := 0) F.1 F.2.1 dL_law_760 (by decide) ?_
            refine ig_lald F E Z dL_law_761 ?_
            refine lv_iload F.1 F.2.1 dL_law_762 (lv_at hl 0 rfl) ?_
            refine lv_i2l F.1 F.2.1 dL_law_764 rfl ?_
            refine W.lcmp F.1 F.2.1 dL_law_765 ?_
            refine lv_if_eq (tgt := 771) F.1 F.2.1 dL_law_766 (by decide) (fun c_143 => ?_) (fun c_143 => ?_)
            · have hf := hf.1 c_143
              refine lv_goto (tgt := 1241) F.1 F.2.1 dL_law_771 (by decide) ?_
              refine lv_iinc (v := x4 + 5) (lv' := [(4, .int (x4 + 5)), (6, .int r137), (5, .int r132), (0, .ref b0), (1, .ref (ad 0)), (2, .ref (ad 97)), (3, .ref (ad 115))]) F.1 F.2.1 dL_law_1241 hl (k := 6) rfl (by rfl) (by decide) rfl (fun ls hl => ?_)
              refine lv_goto (tgt := 23) F.1 F.2.1 dL_law_1244 (by decide) ?_
              exact ih a133 la134 b138 lb139 lo135 (x4 + 5) _ hd0 _ _ _ _ _ (by omega) (by omega) hf Z (lv_sub hl [3, 4, 5, 6, 0] rfl)
            · have hf := hf.2 c_143
              refine lv_iconst (v := 0) F.1 F.2.1 dL_law_769 (by decide) ?_
              exact absurd hf (by decide)
        · have hf := hf.2 c_141
          refine lv_iconst (v := 0) F.1 F.2.1 dL_law_752 (by decide) ?_
          exact absurd hf (by decide)
      have hf := hf.2 c_130
      by_cases c_144 : ((xs x4.toNatClampNeg) &&& 31) = 11
      · have hf := hf.1 c_144
        refine lv_tableIn (tgt := 774) F.1 F.2.1 dL_law_39 (by rw [c_144]; decide) (by rw [c_144]; decide) (by rw [c_144]; rfl) (by decide) ?_
        refine lv_aload_n F.1 F.2.1 dL_law_774 rfl (lv_at hl 1 rfl) ?_
        refine lv_aload_n F.1 F.2.1 dL_law_775 rfl (lv_at hl 0 rfl) ?_
        refine lv_iload F.1 F.2.1 dL_law_776 (lv_at hl 4 rfl) ?_
        refine lv_iconst (v := 1) F.1 F.2.1 dL_law_778 (by decide) ?_
        refine lv_iadd F.1 F.2.1 dL_law_779 ?_
        have hv145 := hf.1
        have hf := hf.2
        refine va_sld F.1 F.2.1 hX hbl hbA Z.2 hv145 dL_law_780 ?_
        refine lv_aload_n F.1 F.2.1 dL_law_781 rfl (lv_at hl 0 rfl) ?_
        refine lv_iload F.1 F.2.1 dL_law_782 (lv_at hl 4 rfl) ?_
        refine lv_iconst (v := 2) F.1 F.2.1 dL_law_784 (by decide) ?_
        refine lv_iadd F.1 F.2.1 dL_law_785 ?_
        have hv146 := hf.1
        have hf := hf.2
        refine va_sld F.1 F.2.1 hX hbl hbA Z.2 hv146 dL_law_786 ?_
        refine lv_aload_n F.1 F.2.1 dL_law_787 rfl (lv_at hl 3 rfl) ?_
        have hM := k_L_lamp l (D := D) (kk := kk) (ad := ad) (bs := bs) (a := a) (la := la) (b := b) (lb := lb) (lo := lo) (xs (x4 + 1).toNatClampNeg) (xs (x4 + 2).toNatClampNeg) hlt hf
        refine ig_calli E Z (ig_runSW (As := [.ref (ad 0), .int (xs (x4 + 1).toNatClampNeg), .int (xs (x4 + 2).toNatClampNeg), .ref (ad 115)]) (rest := []) F E Z hl GL_124 hM md_L_lamp rfl ⟨rfl, rfl⟩ ⟨Nat.le_of_ble_eq_true rfl, Nat.le_of_ble_eq_true rfl⟩ (Nat.le_of_ble_eq_true rfl) dL_law_788 ⟨ig_roomC (by omega), ig_roomS (by omega)⟩) (fun r147 u H locs hf Z => ?_)
        obtain ⟨a148, la149, lo150⟩ := u
        have Z : ig_Z D kk ad bs _ H locs a148 la149 b lb lo150 := Z
        refine lv_istore (lv' := [(5, .int r147), (0, .ref b0), (1, .ref (ad 0)), (2, .ref (ad 97)), (3, .ref (ad 115)), (4, .int x4)]) F.1 F.2.1 dL_law_791 hl (by decide) rfl (fun ls hl => ?_)
        refine lv_aload_n F.1 F.2.1 dL_law_793 rfl (lv_at hl 3 rfl) ?_
        refine lv_aload_n F.1 F.2.1 dL_law_794 rfl (lv_at hl 1 rfl) ?_
        refine lv_iload F.1 F.2.1 dL_law_795 (lv_at hl 5 rfl) ?_
        refine lv_iconst (v := 1) F.1 F.2.1 dL_law_797 (by decide) ?_
        refine lv_iadd F.1 F.2.1 dL_law_798 ?_
        have hv151 := hf.1
        have hf := hf.2
        refine va_sld F.1 F.2.1 hX hbl hbA Z.2 hv151 dL_law_799 ?_
        refine lv_aload_n F.1 F.2.1 dL_law_800 rfl (lv_at hl 1 rfl) ?_
        refine lv_iload F.1 F.2.1 dL_law_801 (lv_at hl 5 rfl) ?_
        refine lv_iconst (v := 2) F.1 F.2.1 dL_law_803 (by decide) ?_
        refine lv_iadd F.1 F.2.1 dL_law_804 ?_
        have hv152 := hf.1
        have hf := hf.2
        refine va_sld F.1 F.2.1 hX hbl hbA Z.2 hv152 dL_law_805 ?_
        have hM := k_X6_lamp l (D := D) (kk := kk) (ad := ad) (bs := bs) (a := a148) (la := la149) (b := b) (lb := lb) (lo := lo150) (xs (x4 + 1).toNatClampNeg) (xs (x4 + 2).toNatClampNeg) hf
        refine ig_calli E Z (ig_runV (As := [.int (xs (x4 + 1).toNatClampNeg), .int (xs (x4 + 2).toNatClampNeg)]) (rest := []) F E Z hl G_L_126 hM (i := 97) (by decide) (ig_k_97 _ _ _ _ _ _) rfl rfl md_X6_lamp rfl ⟨rfl, rfl⟩ ⟨Nat.le_of_ble_eq_true rfl, Nat.le_of_ble_eq_true rfl⟩ (Nat.le_of_ble_eq_true rfl) dL_law_806 ⟨ig_roomC (by omega), ig_roomS (by omega)⟩) (fun r153 u H locs hf Z => ?_)
        obtain ⟨b154, lb155⟩ := u
        have Z : ig_Z D kk ad bs _ H locs a148 la149 b154 lb155 lo150 := Z
        refine lv_istore (lv' := [(6, .int r153), (5, .int r147), (0, .ref b0), (1, .ref (ad 0)), (2, .ref (ad 97)), (3, .ref (ad 115)), (4, .int x4)]) F.1 F.2.1 dL_law_809 hl (by decide) rfl (fun ls hl => ?_)
        refine lv_aload_n F.1 F.2.1 dL_law_811 rfl (lv_at hl 4 rfl) ?_
        have hM := k_X6_thrown l (D := D) (kk := kk) (ad := ad) (bs := bs) (a := a148) (la := la149) (b := b154) (lb := lb155) (lo := lo150) hf
        refine ig_calli E Z (ig_runV (As := []) (rest := []) F E Z hl G_L_84 hM (i := 97) (by decide) (ig_k_97 _ _ _ _ _ _) rfl rfl md_X6_thrown rfl ⟨rfl, rfl⟩ ⟨Nat.le_of_ble_eq_true rfl, Nat.le_of_ble_eq_true rfl⟩ (Nat.le_of_ble_eq_true rfl) dL_law_812 ⟨ig_roomC (by omega), ig_roomS (by omega)⟩) (fun r156 u H locs hf Z => ?_)
        have Z : ig_Z D kk ad bs _ H locs a148 la149 b154 lb155 lo150 := Z
        refine lv_iload F.1 F.2.1 dL_law_815 (lv_at hl 1 rfl) ?_
        refine lv_icmp_eq (tgt := 822) F.1 F.2.1 dL_law_817 (by decide) (fun c_157 => ?_) (fun c_157 => ?_)
        · have hf := hf.1 c_157
          refine lv_iload F.1 F.2.1 dL_law_822 (lv_at hl 1 rfl) ?_
          refine lv_if_ne (tgt := 839) F.1 F.2.1 dL_law_824 (by decide) (fun c_158 => ?_) (fun c_158 => ?_)
          · have hf := hf.1 c_158
            refine lv_goto (tgt := 1241) F.1 F.2.1 dL_law_839 (by decide) ?_
            refine lv_iinc (v := x4 + 5) (lv' := [(4, .int (x4 + 5)), (6, .int r153), (5, .int r147), (0, .ref b0), (1, .ref (ad 0)), (2, .ref (ad 97)), (3, .ref (ad 115))]) F.1 F.2.1 dL_law_1241 hl (k := 6) rfl (by rfl) (by decide) rfl (fun ls hl => ?_)
            refine lv_goto (tgt := 23) F.1 F.2.1 dL_law_1244 (by decide) ?_
            exact ih a148 la149 b154 lb155 lo150 (x4 + 5) _ hd0 _ _ _ _ _ (by omega) (by omega) hf Z (lv_sub hl [3, 4, 5, 6, 0] rfl)
          · have hf := hf.2 c_158
            refine lv_aload_n F.1 F.2.1 dL_law_827 rfl (lv_at hl 5 rfl) ?_
            refine lv_iconst (v := 0) F.1 F.2.1 dL_law_828 (by decide) ?_
            refine ig_lald F E Z dL_law_829 ?_
            refine lv_iload F.1 F.2.1 dL_law_830 (lv_at hl 0 rfl) ?_
            refine lv_i2l F.1 F.2.1 dL_law_832 rfl ?_
            refine W.lcmp F.1 F.2.1 dL_law_833 ?_
            refine lv_if_eq (tgt := 839) F.1 F.2.1 dL_law_834 (by decide) (fun c_159 => ?_) (fun c_159 => ?_)
            · have hf := hf.1 c_159
              refine lv_goto (tgt := 1241) F.1 F.2.1 dL_law_839 (by decide) ?_
              refine lv_iinc (v := x4 + 5) (lv' := [(4, .int (x4 + 5)), (6, .int r153), (5, .int r147), (0, .ref b0), (1, .ref (ad 0)), (2, .ref (ad 97)), (3, .ref (ad 115))]) F.1 F.2.1 dL_law_1241 hl (k := 6) rfl (by rfl) (by decide) rfl (fun ls hl => ?_)
              refine lv_goto (tgt := 23) F.1 F.2.1 dL_law_1244 (by decide) ?_
              exact ih a148 la149 b154 lb155 lo150 (x4 + 5) _ hd0 _ _ _ _ _ (by omega) (by omega) hf Z (lv_sub hl [3, 4, 5, 6, 0] rfl)
            · have hf := hf.2 c_159
              refine lv_iconst (v := 0) F.1 F.2.1 dL_law_837 (by decide) ?_
              exact absurd hf (by decide)
        · have hf := hf.2 c_157
          refine lv_iconst (v := 0) F.1 F.2.1 dL_law_820 (by decide) ?_
          exact absurd hf (by decide)
      have hf := hf.2 c_144
      by_cases c_160 : ((xs x4.toNatClampNeg) &&& 31) = 12
      · have hf := hf.1 c_160
        refine lv_tableIn (tgt := 842) F.1 F.2.1 dL_law_39 (by rw [c_160]; decide) (by rw [c_160]; decide) (by rw [c_160]; rfl) (by decide) ?_
        refine lv_aload_n F.1 F.2.1 dL_law_842 rfl (lv_at hl 1 rfl) ?_
        refine lv_aload_n F.1 F.2.1 dL_law_843 rfl (lv_at hl 0 rfl) ?_
        refine lv_iload F.1 F.2.1 dL_law_844 (lv_at hl 4 rfl) ?_
        refine lv_iconst (v := 1) F.1 F.2.1 dL_law_846 (by decide) ?_
        refine lv_iadd F.1 F.2.1 dL_law_847 ?_
        have hv161 := hf.1
        have hf := hf.2
        refine va_sld F.1 F.2.1 hX hbl hbA Z.2 hv161 dL_law_848 ?_
        refine lv_aload_n F.1 F.2.1 dL_law_849 rfl (lv_at hl 0 rfl) ?_
        refine lv_iload F.1 F.2.1 dL_law_850 (lv_at hl 4 rfl) ?_
        refine lv_iconst (v := 2) F.1 F.2.1 dL_law_852 (by decide) ?_
        refine lv_iadd F.1 F.2.1 dL_law_853 ?_
        have hv162 := hf.1
        have hf := hf.2
        refine va_sld F.1 F.2.1 hX hbl hbA Z.2 hv162 dL_law_854 ?_
        refine lv_aload_n F.1 F.2.1 dL_law_855 rfl (lv_at hl 3 rfl) ?_
        have hM := k_L_ofPhase l (D := D) (kk := kk) (ad := ad) (bs := bs) (a := a) (la := la) (b := b) (lb := lb) (lo := lo) (xs (x4 + 1).toNatClampNeg) (xs (x4 + 2).toNatClampNeg) hlt hf
        refine ig_calli E Z (ig_runSW (As := [.ref (ad 0), .int (xs (x4 + 1).toNatClampNeg), .int (xs (x4 + 2).toNatClampNeg), .ref (ad 115)]) (rest := []) F E Z hl GL_127 hM md_L_ofPhase rfl ⟨rfl, rfl⟩ ⟨Nat.le_of_ble_eq_true rfl, Nat.le_of_ble_eq_true rfl⟩ (Nat.le_of_ble_eq_true rfl) dL_law_856 ⟨ig_roomC (by omega), ig_roomS (by omega)⟩) (fun r163 u H locs hf Z => ?_)
        obtain ⟨a164, la165, lo166⟩ := u
        have Z : ig_Z D kk ad bs _ H locs a164 la165 b lb lo166 := Z
        refine lv_istore (lv' := [(5, .int r163), (0, .ref b0), (1, .ref (ad 0)), (2, .ref (ad 97)), (3, .ref (ad 115)), (4, .int x4)]) F.1 F.2.1 dL_law_859 hl (by decide) rfl (fun ls hl => ?_)
        refine lv_aload_n F.1 F.2.1 dL_law_861 rfl (lv_at hl 3 rfl) ?_
        refine lv_aload_n F.1 F.2.1 dL_law_862 rfl (lv_at hl 1 rfl) ?_
        refine lv_iload F.1 F.2.1 dL_law_863 (lv_at hl 5 rfl) ?_
        refine lv_iconst (v := 1) F.1 F.2.1 dL_law_865 (by decide) ?_
        refine lv_iadd F.1 F.2.1 dL_law_866 ?_
        have hv167 := hf.1
        have hf := hf.2
        refine va_sld F.1 F.2.1 hX hbl hbA Z.2 hv167 dL_law_867 ?_
        refine lv_aload_n F.1 F.2.1 dL_law_868 rfl (lv_at hl 1 rfl) ?_
        refine lv_iload F.1 F.2.1 dL_law_869 (lv_at hl 5 rfl) ?_
        refine lv_iconst (v := 2) F.1 F.2.1 dL_law_871 (by decide) ?_
        refine lv_iadd F.1 F.2.1 dL_law_872 ?_
        have hv168 := hf.1
        have hf := hf.2
        refine va_sld F.1 F.2.1 hX hbl hbA Z.2 hv168 dL_law_873 ?_
        have hM := k_X6_ofPhase l (D := D) (kk := kk) (ad := ad) (bs := bs) (a := a164) (la := la165) (b := b) (lb := lb) (lo := lo166) (xs (x4 + 1).toNatClampNeg) (xs (x4 + 2).toNatClampNeg) hf
        refine ig_calli E Z (ig_runV (As := [.int (xs (x4 + 1).toNatClampNeg), .int (xs (x4 + 2).toNatClampNeg)]) (rest := []) F E Z hl G_L_129 hM (i := 97) (by decide) (ig_k_97 _ _ _ _ _ _) rfl rfl md_X6_ofPhase rfl ⟨rfl, rfl⟩ ⟨Nat.le_of_ble_eq_true rfl, Nat.le_of_ble_eq_true rfl⟩ (Nat.le_of_ble_eq_true rfl) dL_law_874 ⟨ig_roomC (by omega), ig_roomS (by omega)⟩) (fun r169 u H locs hf Z => ?_)
        obtain ⟨b170, lb171⟩ := u
        have Z : ig_Z D kk ad bs _ H locs a164 la165 b170 lb171 lo166 := Z
        refine lv_istore (lv' := [(6, .int r169), (5, .int r163), (0, .ref b0), (1, .ref (ad 0)), (2, .ref (ad 97)), (3, .ref (ad 115)), (4, .int x4)]) F.1 F.2.1 dL_law_877 hl (by decide) rfl (fun ls hl => ?_)
        refine lv_aload_n F.1 F.2.1 dL_law_879 rfl (lv_at hl 4 rfl) ?_
        have hM := k_X6_thrown l (D := D) (kk := kk) (ad := ad) (bs := bs) (a := a164) (la := la165) (b := b170) (lb := lb171) (lo := lo166) hf
        refine ig_calli E Z (ig_runV (As := []) (rest := []) F E Z hl G_L_84 hM (i := 97) (by decide) (ig_k_97 _ _ _ _ _ _) rfl rfl md_X6_thrown rfl ⟨rfl, rfl⟩ ⟨Nat.le_of_ble_eq_true rfl, Nat.le_of_ble_eq_true rfl⟩ (Nat.le_of_ble_eq_true rfl) dL_law_880 ⟨ig_roomC (by omega), ig_roomS (by omega)⟩) (fun r172 u H locs hf Z => ?_)
        have Z : ig_Z D kk ad bs _ H locs a164 la165 b170 lb171 lo166 := Z
        refine lv_iload F.1 F.2.1 dL_law_883 (lv_at hl 1 rfl) ?_
        refine lv_icmp_eq (tgt := 890) F.1 F.2.1 dL_law_885 (by decide) (fun c_173 => ?_) (fun c_173 => ?_)
        · have hf := hf.1 c_173
          refine lv_iload F.1 F.2.1 dL_law_890 (lv_at hl 1 rfl) ?_
          refine lv_if_ne (tgt := 907) F.1 F.2.1 dL_law_892 (by decide) (fun c_174 => ?_) (fun c_174 => ?_)
          · have hf := hf.1 c_174
            refine lv_goto (tgt := 1241) F.1 F.2.1 dL_law_907 (by decide) ?_
            refine lv_iinc (v := x4 + 5) (lv' := [(4, .int (x4 + 5)), (6, .int r169), (5, .int r163), (0, .ref b0), (1, .ref (ad 0)), (2, .ref (ad 97)), (3, .ref (ad 115))]) F.1 F.2.1 dL_law_1241 hl (k := 6) rfl (by rfl) (by decide) rfl (fun ls hl => ?_)
            refine lv_goto (tgt := 23) F.1 F.2.1 dL_law_1244 (by decide) ?_
            exact ih a164 la165 b170 lb171 lo166 (x4 + 5) _ hd0 _ _ _ _ _ (by omega) (by omega) hf Z (lv_sub hl [3, 4, 5, 6, 0] rfl)
          · have hf := hf.2 c_174
            refine lv_aload_n F.1 F.2.1 dL_law_895 rfl (lv_at hl 5 rfl) ?_
            refine lv_iconst (v := 0) F.1 F.2.1 dL_law_896 (by decide) ?_
            refine ig_lald F E Z dL_law_897 ?_
            refine lv_iload F.1 F.2.1 dL_law_898 (lv_at hl 0 rfl) ?_
            refine lv_i2l F.1 F.2.1 dL_law_900 rfl ?_
            refine W.lcmp F.1 F.2.1 dL_law_901 ?_
            refine lv_if_eq (tgt := 907) F.1 F.2.1 dL_law_902 (by decide) (fun c_175 => ?_) (fun c_175 => ?_)
            · have hf := hf.1 c_175
              refine lv_goto (tgt := 1241) F.1 F.2.1 dL_law_907 (by decide) ?_
              refine lv_iinc (v := x4 + 5) (lv' := [(4, .int (x4 + 5)), (6, .int r169), (5, .int r163), (0, .ref b0), (1, .ref (ad 0)), (2, .ref (ad 97)), (3, .ref (ad 115))]) F.1 F.2.1 dL_law_1241 hl (k := 6) rfl (by rfl) (by decide) rfl (fun ls hl => ?_)
              refine lv_goto (tgt := 23) F.1 F.2.1 dL_law_1244 (by decide) ?_
              exact ih a164 la165 b170 lb171 lo166 (x4 + 5) _ hd0 _ _ _ _ _ (by omega) (by omega) hf Z (lv_sub hl [3, 4, 5, 6, 0] rfl)
            · have hf := hf.2 c_175
              refine lv_iconst (v := 0) F.1 F.2.1 dL_law_905 (by decide) ?_
              exact absurd hf (by decide)
        · have hf := hf.2 c_173
          refine lv_iconst (v := 0) F.1 F.2.1 dL_law_888 (by decide) ?_
          exact absurd hf (by decide)
      have hf := hf.2 c_160
      by_cases c_176 : ((xs x4.toNatClampNeg) &&& 31) = 13
      · have hf := hf.1 c_176
        refine lv_tableIn (tgt := 910) F.1 F.2.1 dL_law_39 (by rw [c_176]; decide) (by rw [c_176]; decide) (by rw [c_176]; rfl) (by decide) ?_
        refine lv_aload_n F.1 F.2.1 dL_law_910 rfl (lv_at hl 1 rfl) ?_
        refine lv_aload_n F.1 F.2.1 dL_law_911 rfl (lv_at hl 0 rfl) ?_
        refine lv_iload F.1 F.2.1 dL_law_912 (lv_at hl 4 rfl) ?_
        refine lv_iconst (v := 1) F.1 F.2.1 dL_law_914 (by decide) ?_
        refine lv_iadd F.1 F.2.1 dL_law_915 ?_
        have hv177 := hf.1
        have hf := hf.2
        refine va_sld F.1 F.2.1 hX hbl hbA Z.2 hv177 dL_law_916 ?_
        refine lv_aload_n F.1 F.2.1 dL_law_917 rfl (lv_at hl 3 rfl) ?_
        have hM := k_L_of l (D := D) (kk := kk) (ad := ad) (bs := bs) (a := a) (la := la) (b := b) (lb := lb) (lo := lo) (xs (x4 + 1).toNatClampNeg) hlt hf
        refine ig_calli E Z (ig_runSW (As := [.ref (ad 0), .int (xs (x4 + 1).toNatClampNeg), .ref (ad 115)]) (rest := []) F E Z hl GL_130 hM md_L_of rfl ⟨rfl, rfl⟩ ⟨Nat.le_of_ble_eq_true rfl, Nat.le_of_ble_eq_true rfl⟩ (Nat.le_of_ble_eq_true rfl) dL_law_918 ⟨ig_roomC (by omega), ig_roomS (by omega)⟩) (fun r178 u H locs hf Z => ?_)
        obtain ⟨a179, la180, lo181⟩ := u
        have Z : ig_Z D kk ad bs _ H locs a179 la180 b lb lo181 := Z
        refine lv_istore (lv' := [(5, .int r178), (0, .ref b0), (1, .ref (ad 0)), (2, .ref (ad 97)), (3, .ref (ad 115)), (4, .int x4)]) F.1 F.2.1 dL_law_921 hl (by decide) rfl (fun ls hl => ?_)
        refine lv_aload_n F.1 F.2.1 dL_law_923 rfl (lv_at hl 3 rfl) ?_
        refine lv_aload_n F.1 F.2.1 dL_law_924 rfl (lv_at hl 1 rfl) ?_
        refine lv_iload F.1 F.2.1 dL_law_925 (lv_at hl 5 rfl) ?_
        refine lv_iconst (v := 1) F.1 F.2.1 dL_law_927 (by decide) ?_
        refine lv_iadd F.1 F.2.1 dL_law_928 ?_
        have hv182 := hf.1
        have hf := hf.2
        refine va_sld F.1 F.2.1 hX hbl hbA Z.2 hv182 dL_law_929 ?_
        have hM := k_X6_of l (D := D) (kk := kk) (ad := ad) (bs := bs) (a := a179) (la := la180) (b := b) (lb := lb) (lo := lo181) (xs (x4 + 1).toNatClampNeg) hf
        refine ig_calli E Z (ig_runV (As := [.int (xs (x4 + 1).toNatClampNeg)]) (rest := []) F E Z hl G_L_132 hM (i := 97) (by decide) (ig_k_97 _ _ _ _ _ _) rfl rfl md_X6_of rfl ⟨rfl, rfl⟩ ⟨Nat.le_of_ble_eq_true rfl, Nat.le_of_ble_eq_true rfl⟩ (Nat.le_of_ble_eq_true rfl) dL_law_930 ⟨ig_roomC (by omega), ig_roomS (by omega)⟩) (fun r183 u H locs hf Z => ?_)
        obtain ⟨b184, lb185⟩ := u
        have Z : ig_Z D kk ad bs _ H locs a179 la180 b184 lb185 lo181 := Z
        refine lv_istore (lv' := [(6, .int r183), (5, .int r178), (0, .ref b0), (1, .ref (ad 0)), (2, .ref (ad 97)), (3, .ref (ad 115)), (4, .int x4)]) F.1 F.2.1 dL_law_933 hl (by decide) rfl (fun ls hl => ?_)
        refine lv_aload_n F.1 F.2.1 dL_law_935 rfl (lv_at hl 4 rfl) ?_
        have hM := k_X6_thrown l (D := D) (kk := kk) (ad := ad) (bs := bs) (a := a179) (la := la180) (b := b184) (lb := lb185) (lo := lo181) hf
        refine ig_calli E Z (ig_runV (As := []) (rest := []) F E Z hl G_L_84 hM (i := 97) (by decide) (ig_k_97 _ _ _ _ _ _) rfl rfl md_X6_thrown rfl ⟨rfl, rfl⟩ ⟨Nat.le_of_ble_eq_true rfl, Nat.le_of_ble_eq_true rfl⟩ (Nat.le_of_ble_eq_true rfl) dL_law_936 ⟨ig_roomC (by omega), ig_roomS (by omega)⟩) (fun r186 u H locs hf Z => ?_)
        have Z : ig_Z D kk ad bs _ H locs a179 la180 b184 lb185 lo181 := Z
        refine lv_iload F.1 F.2.1 dL_law_939 (lv_at hl 1 rfl) ?_
        refine lv_icmp_eq (tgt := 946) F.1 F.2.1 dL_law_941 (by decide) (fun c_187 => ?_) (fun c_187 => ?_)
        · have hf := hf.1 c_187
          refine lv_iload F.1 F.2.1 dL_law_946 (lv_at hl 1 rfl) ?_
          refine lv_if_ne (tgt := 963) F.1 F.2.1 dL_law_948 (by decide) (fun c_188 => ?_) (fun c_188 => ?_)
          · have hf := hf.1 c_188
            refine lv_goto (tgt := 1241) F.1 F.2.1 dL_law_963 (by decide) ?_
            refine lv_iinc (v := x4 + 5) (lv' := [(4, .int (x4 + 5)), (6, .int r183), (5, .int r178), (0, .ref b0), (1, .ref (ad 0)), (2, .ref (ad 97)), (3, .ref (ad 115))]) F.1 F.2.1 dL_law_1241 hl (k := 6) rfl (by rfl) (by decide) rfl (fun ls hl => ?_)
            refine lv_goto (tgt := 23) F.1 F.2.1 dL_law_1244 (by decide) ?_
            exact ih a179 la180 b184 lb185 lo181 (x4 + 5) _ hd0 _ _ _ _ _ (by omega) (by omega) hf Z (lv_sub hl [3, 4, 5, 6, 0] rfl)
          · have hf := hf.2 c_188
            refine lv_aload_n F.1 F.2.1 dL_law_951 rfl (lv_at hl 5 rfl) ?_
            refine lv_iconst (v := 0) F.1 F.2.1 dL_law_952 (by decide) ?_
            refine ig_lald F E Z dL_law_953 ?_
            refine lv_iload F.1 F.2.1 dL_law_954 (lv_at hl 0 rfl) ?_
            refine lv_i2l F.1 F.2.1 dL_law_956 rfl ?_
            refine W.lcmp F.1 F.2.1 dL_law_957 ?_
            refine lv_if_eq (tgt := 963) F.1 F.2.1 dL_law_958 (by decide) (fun c_189 => ?_) (fun c_189 => ?_)
            · have hf := hf.1 c_189
              refine lv_goto (tgt := 1241) F.1 F.2.1 dL_law_963 (by decide) ?_
              refine lv_iinc (v := x4 + 5) (lv' := [(4, .int (x4 + 5)), (6, .int r183), (5, .int r178), (0, .ref b0), (1, .ref (ad 0)), (2, .ref (ad 97)), (3, .ref (ad 115))]) F.1 F.2.1 dL_law_1241 hl (k := 6) rfl (by rfl) (by decide) rfl (fun ls hl => ?_)
              refine lv_goto (tgt := 23) F.1 F.2.1 dL_law_1244 (by decide) ?_
              exact ih a179 la180 b184 lb185 lo181 (x4 + 5) _ hd0 _ _ _ _ _ (by omega) (by omega) hf Z (lv_sub hl [3, 4, 5, 6, 0] rfl)
            · have hf := hf.2 c_189
              refine lv_iconst (v := 0) F.1 F.2.1 dL_law_961 (by decide) ?_
              exact absurd hf (by decide)
        · have hf := hf.2 c_187
          refine lv_iconst (v := 0) F.1 F.2.1 dL_law_944 (by decide) ?_
          exact absurd hf (by decide)
      have hf := hf.2 c_176
      by_cases c_190 : ((xs x4.toNatClampNeg) &&& 31) = 14
      · have hf := hf.1 c_190
        refine lv_tableIn (tgt := 966) F.1 F.2.1 dL_law_39 (by rw [c_190]; decide) (by rw [c_190]; decide) (by rw [c_190]; rfl) (by decide) ?_
        refine lv_aload_n F.1 F.2.1 dL_law_966 rfl (lv_at hl 1 rfl) ?_
        have hM := k_X5_delay l (D := D) (kk := kk) (ad := ad) (bs := bs) (a := a) (la := la) (b := b) (lb := lb) (lo := lo) hf
        refine ig_calll E Z (ig_runV (As := []) (rest := []) F E Z hl G_L_133 hM (i := 0) (by decide) (ig_k_0 _ _ _ _ _ _) rfl rfl md_X5_delay rfl ⟨rfl, rfl⟩ ⟨Nat.le_of_ble_eq_true rfl, Nat.le_of_ble_eq_true rfl⟩ (Nat.le_of_ble_eq_true rfl) dL_law_967 ⟨ig_roomC (by omega), ig_roomS (by omega)⟩) (fun r191 u H locs hf Z => ?_)
        have Z : ig_Z D kk ad bs _ H locs a la b lb lo := Z
        refine lv_aload_n F.1 F.2.1 dL_law_970 rfl (lv_at hl 2 rfl) ?_
        have hM := k_X6_delay l (D := D) (kk := kk) (ad := ad) (bs := bs) (a := a) (la := la) (b := b) (lb := lb) (lo := lo) hf
        refine ig_calll E Z (ig_runV (As := []) (rest := [.long r191]) F E Z hl G_L_137 hM (i := 97) (by decide) (ig_k_97 _ _ _ _ _ _) rfl rfl md_X6_delay rfl ⟨rfl, rfl⟩ ⟨Nat.le_of_ble_eq_true rfl, Nat.le_of_ble_eq_true rfl⟩ (Nat.le_of_ble_eq_true rfl) dL_law_971 ⟨ig_roomC (by omega), ig_roomS (by omega)⟩) (fun r192 u H locs hf Z => ?_)
        obtain ⟨b193, lb194⟩ := u
        have Z : ig_Z D kk ad bs _ H locs a la b193 lb194 lo := Z
        refine W.lcmp F.1 F.2.1 dL_law_974 ?_
        refine lv_if_eq (tgt := 1241) F.1 F.2.1 dL_law_975 (by decide) (fun c_195 => ?_) (fun c_195 => ?_)
        · have hf := hf.1 c_195
          refine lv_iinc (v := x4 + 5) (lv' := [(4, .int (x4 + 5)), (0, .ref b0), (1, .ref (ad 0)), (2, .ref (ad 97)), (3, .ref (ad 115))]) F.1 F.2.1 dL_law_1241 hl (k := 4) rfl (by rfl) (by decide) rfl (fun ls hl => ?_)
          refine lv_goto (tgt := 23) F.1 F.2.1 dL_law_1244 (by decide) ?_
          exact ih a la b193 lb194 lo (x4 + 5) _ hd0 _ _ _ _ _ (by omega) (by omega) hf Z (lv_sub hl [1, 2, 3, 4, 0] rfl)
        · have hf := hf.2 c_195
          refine lv_iconst (v := 0) F.1 F.2.1 dL_law_978 (by decide) ?_
          exact absurd hf (by decide)
      have hf := hf.2 c_190
      by_cases c_196 : ((xs x4.toNatClampNeg) &&& 31) = 15
      · have hf := hf.1 c_196
        refine lv_tableIn (tgt := 980) F.1 F.2.1 dL_law_39 (by rw [c_196]; decide) (by rw [c_196]; decide) (by rw [c_196]; rfl) (by decide) ?_
        refine lv_aload_n F.1 F.2.1 dL_law_980 rfl (lv_at hl 1 rfl) ?_
        have hM := k_X5_delayEach l (D := D) (kk := kk) (ad := ad) (bs := bs) (a := a) (la := la) (b := b) (lb := lb) (lo := lo) hf
        refine ig_callfD hd0 Z (ig_runVD (As := []) (rest := []) F E Z hl G_L_138 hM (i := 0) (by decide) (ig_k_0 _ _ _ _ _ _) rfl rfl md_X5_delayEach rfl ⟨rfl, rfl⟩ ⟨Nat.le_of_ble_eq_true rfl, Nat.le_of_ble_eq_true rfl⟩ (Nat.le_of_ble_eq_true rfl) dL_law_981 ⟨ig_roomC (by omega), ig_roomS (by omega)⟩) (fun r197 u H locs hf Z d197 hd197 => ?_)
        have F := ig_Fd Fs d197
        have E := ig_Ed Es d197
        have Z := ig_Zd Z d197
        have Z : ig_Z D kk ad bs _ H locs a la b lb lo := Z
        refine lv_f2d_any hd197 lw_bits F.1 F.2.1 dL_law_984 (fun r198 d198 hal198 hd198 => ?_)
        have hf := hf r198 hal198
        have F := ig_Fd Fs d198
        have E := ig_Ed Es d198
        have Z := ig_Zd Z d198
        refine lv_dstore (lv' := [(5, .double r198), (0, .ref b0), (1, .ref (ad 0)), (2, .ref (ad 97)), (3, .ref (ad 115)), (4, .int x4)]) F.1 F.2.1 dL_law_985 hl (by decide) rfl (fun ls hl => ?_)
        refine lv_aload_n F.1 F.2.1 dL_law_987 rfl (lv_at hl 3 rfl) ?_
        have hM := k_X6_delayEach l (D := D) (kk := kk) (ad := ad) (bs := bs) (a := a) (la := la) (b := b) (lb := lb) (lo := lo) hf
        refine ig_callfD hd198 Z (ig_runVD (As := []) (rest := []) F E Z hl G_L_142 hM (i := 97) (by decide) (ig_k_97 _ _ _ _ _ _) rfl rfl md_X6_delayEach rfl ⟨rfl, rfl⟩ ⟨Nat.le_of_ble_eq_true rfl, Nat.le_of_ble_eq_true rfl⟩ (Nat.le_of_ble_eq_true rfl) dL_law_988 ⟨ig_roomC (by omega), ig_roomS (by omega)⟩) (fun r199 u H locs hf Z d199 hd199 => ?_)
        obtain ⟨b200, lb201⟩ := u
        have F := ig_Fd Fs d199
        have E := ig_Ed Es d199
        have Z := ig_Zd Z d199
        have Z : ig_Z D kk ad bs _ H locs a la b200 lb201 lo := Z
        refine lv_f2d_any hd199 lw_bits F.1 F.2.1 dL_law_991 (fun r202 d202 hal202 hd202 => ?_)
        have hf := hf r202 hal202
        have F := ig_Fd Fs d202
        have E := ig_Ed Es d202
        have Z := ig_Zd Z d202
        refine lv_dstore (lv' := [(7, .double r202), (5, .double r198), (0, .ref b0), (1, .ref (ad 0)), (2, .ref (ad 97)), (3, .ref (ad 115)), (4, .int x4)]) F.1 F.2.1 dL_law_992 hl (by decide) rfl (fun ls hl => ?_)
        refine lv_dload F.1 F.2.1 dL_law_994 (lv_at hl 1 rfl) ?_
        refine lv_dload F.1 F.2.1 dL_law_996 (lv_at hl 0 rfl) ?_
        refine lv_dcmp F.1 F.2.1 dL_law_998 ?_
        refine lv_if_eq (tgt := 1020) F.1 F.2.1 dL_law_999 (by decide) (fun c_203 => ?_) (fun c_203 => ?_)
        · have hf := hf.1 c_203
          refine lv_goto (tgt := 1241) F.1 F.2.1 dL_law_1020 (by decide) ?_
          refine lv_iinc (v := x4 + 5) (lv' := [(4, .int (x4 + 5)), (7, .double r202), (5, .double r198), (0, .ref b0), (1, .ref (ad 0)), (2, .ref (ad 97)), (3, .ref (ad 115))]) F.1 F.2.1 dL_law_1241 hl (k := 6) rfl (by rfl) (by decide) rfl (fun ls hl => ?_)
          refine lv_goto (tgt := 23) F.1 F.2.1 dL_law_1244 (by decide) ?_
          exact ih a la b200 lb201 lo (x4 + 5) _ hd202 _ _ _ _ _ (by omega) (by omega) hf Z (lv_sub hl [3, 4, 5, 6, 0] rfl)
        · have hf := hf.2 c_203
          refine lv_dload F.1 F.2.1 dL_law_1002 (lv_at hl 1 rfl) ?_
          refine lv_dload F.1 F.2.1 dL_law_1004 (lv_at hl 1 rfl) ?_
          refine lv_dcmp F.1 F.2.1 dL_law_1006 ?_
          refine lv_if_eq (tgt := 1018) F.1 F.2.1 dL_law_1007 (by decide) (fun c_204 => ?_) (fun c_204 => ?_)
          · have hf := hf.1 c_204
            refine lv_iconst (v := 0) F.1 F.2.1 dL_law_1018 (by decide) ?_
            exact absurd hf (by decide)
          · have hf := hf.2 c_204
            refine lv_dload F.1 F.2.1 dL_law_1010 (lv_at hl 0 rfl) ?_
            refine lv_dload F.1 F.2.1 dL_law_1012 (lv_at hl 0 rfl) ?_
            refine lv_dcmp F.1 F.2.1 dL_law_1014 ?_
            refine lv_if_ne (tgt := 1020) F.1 F.2.1 dL_law_1015 (by decide) (fun c_205 => ?_) (fun c_205 => ?_)
            · have hf := hf.1 c_205
              refine lv_goto (tgt := 1241) F.1 F.2.1 dL_law_1020 (by decide) ?_
              refine lv_iinc (v := x4 + 5) (lv' := [(4, .int (x4 + 5)), (7, .double r202), (5, .double r198), (0, .ref b0), (1, .ref (ad 0)), (2, .ref (ad 97)), (3, .ref (ad 115))]) F.1 F.2.1 dL_law_1241 hl (k := 6) rfl (by rfl) (by decide) rfl (fun ls hl => ?_)
              refine lv_goto (tgt := 23) F.1 F.2.1 dL_law_1244 (by decide) ?_
              exact ih a la b200 lb201 lo (x4 + 5) _ hd202 _ _ _ _ _ (by omega) (by omega) hf Z (lv_sub hl [3, 4, 5, 6, 0] rfl)
            · have hf := hf.2 c_205
              refine lv_iconst (v := 0) F.1 F.2.1 dL_law_1018 (by decide) ?_
              exact absurd hf (by decide)
      have hf := hf.2 c_196
      by_cases c_206 : ((xs x4.toNatClampNeg) &&& 31) = 16
      · have hf := hf.1 c_206
        refine lv_tableIn (tgt := 1023) F.1 F.2.1 dL_law_39 (by rw [c_206]; decide) (by rw [c_206]; decide) (by rw [c_206]; rfl) (by decide) ?_
        refine lv_aload_n F.1 F.2.1 dL_law_1023 rfl (lv_at hl 1 rfl) ?_
        refine lv_aload_n F.1 F.2.1 dL_law_1024 rfl (lv_at hl 0 rfl) ?_
        refine lv_iload F.1 F.2.1 dL_law_1025 (lv_at hl 4 rfl) ?_
        refine lv_iconst (v := 1) F.1 F.2.1 dL_law_1027 (by decide) ?_
        refine lv_iadd F.1 F.2.1 dL_law_1028 ?_
        have hv207 := hf.1
        have hf := hf.2
        refine va_sld F.1 F.2.1 hX hbl hbA Z.2 hv207 dL_law_1029 ?_
        refine lv_aload_n F.1 F.2.1 dL_law_1030 rfl (lv_at hl 0 rfl) ?_
        refine lv_iload F.1 F.2.1 dL_law_1031 (lv_at hl 4 rfl) ?_
        refine lv_iconst (v := 2) F.1 F.2.1 dL_law_1033 (by decide) ?_
        refine lv_iadd F.1 F.2.1 dL_law_1034 ?_
        have hv208 := hf.1
        have hf := hf.2
        refine va_sld F.1 F.2.1 hX hbl hbA Z.2 hv208 dL_law_1035 ?_
        refine lv_aload_n F.1 F.2.1 dL_law_1036 rfl (lv_at hl 3 rfl) ?_
        have hM := k_L_seen l (D := D) (kk := kk) (ad := ad) (bs := bs) (a := a) (la := la) (b := b) (lb := lb) (lo := lo) (xs (x4 + 1).toNatClampNeg) (xs (x4 + 2).toNatClampNeg) hlt hf
        refine ig_calli E Z (ig_runSW (As := [.ref (ad 0), .int (xs (x4 + 1).toNatClampNeg), .int (xs (x4 + 2).toNatClampNeg), .ref (ad 115)]) (rest := []) F E Z hl GL_143 hM md_L_seen rfl ⟨rfl, rfl⟩ ⟨Nat.le_of_ble_eq_true rfl, Nat.le_of_ble_eq_true rfl⟩ (Nat.le_of_ble_eq_true rfl) dL_law_1037 ⟨ig_roomC (by omega), ig_roomS (by omega)⟩) (fun r209 u H locs hf Z => ?_)
        obtain ⟨a210, la211, lo212⟩ := u
        have Z : ig_Z D kk ad bs _ H locs a210 la211 b lb lo212 := Z
        refine lv_istore (lv' := [(5, .int r209), (0, .ref b0), (1, .ref (ad 0)), (2, .ref (ad 97)), (3, .ref (ad 115)), (4, .int x4)]) F.1 F.2.1 dL_law_1040 hl (by decide) rfl (fun ls hl => ?_)
        refine lv_aload_n F.1 F.2.1 dL_law_1042 rfl (lv_at hl 3 rfl) ?_
        refine lv_aload_n F.1 F.2.1 dL_law_1043 rfl (lv_at hl 1 rfl) ?_
        refine lv_iload F.1 F.2.1 dL_law_1044 (lv_at hl 5 rfl) ?_
        refine lv_iconst (v := 1) F.1 F.2.1 dL_law_1046 (by decide) ?_
        refine lv_iadd F.1 F.2.1 dL_law_1047 ?_
        have hv213 := hf.1
        have hf := hf.2
        refine va_sld F.1 F.2.1 hX hbl hbA Z.2 hv213 dL_law_1048 ?_
        refine lv_aload_n F.1 F.2.1 dL_law_1049 rfl (lv_at hl 1 rfl) ?_
        refine lv_iload F.1 F.2.1 dL_law_1050 (lv_at hl 5 rfl) ?_
        refine lv_iconst (v := 2) F.1 F.2.1 dL_law_1052 (by decide) ?_
        refine lv_iadd F.1 F.2.1 dL_law_1053 ?_
        have hv214 := hf.1
        have hf := hf.2
        refine va_sld F.1 F.2.1 hX hbl hbA Z.2 hv214 dL_law_1054 ?_
        have hM := k_X6_seen l (D := D) (kk := kk) (ad := ad) (bs := bs) (a := a210) (la := la211) (b := b) (lb := lb) (lo := lo212) (xs (x4 + 1).toNatClampNeg) (xs (x4 + 2).toNatClampNeg) hf
        refine ig_calli E Z (ig_runV (As := [.int (xs (x4 + 1).toNatClampNeg), .int (xs (x4 + 2).toNatClampNeg)]) (rest := []) F E Z hl G_L_145 hM (i := 97) (by decide) (ig_k_97 _ _ _ _ _ _) rfl rfl md_X6_seen rfl ⟨rfl, rfl⟩ ⟨Nat.le_of_ble_eq_true rfl, Nat.le_of_ble_eq_true rfl⟩ (Nat.le_of_ble_eq_true rfl) dL_law_1055 ⟨ig_roomC (by omega), ig_roomS (by omega)⟩) (fun r215 u H locs hf Z => ?_)
        obtain ⟨b216, lb217⟩ := u
        have Z : ig_Z D kk ad bs _ H locs a210 la211 b216 lb217 lo212 := Z
        refine lv_istore (lv' := [(6, .int r215), (5, .int r209), (0, .ref b0), (1, .ref (ad 0)), (2, .ref (ad 97)), (3, .ref (ad 115)), (4, .int x4)]) F.1 F.2.1 dL_law_1058 hl (by decide) rfl (fun ls hl => ?_)
        refine lv_aload_n F.1 F.2.1 dL_law_1060 rfl (lv_at hl 4 rfl) ?_
        have hM := k_X6_thrown l (D := D) (kk := kk) (ad := ad) (bs := bs) (a := a210) (la := la211) (b := b216) (lb := lb217) (lo := lo212) hf
        refine ig_calli E Z (ig_runV (As := []) (rest := []) F E Z hl G_L_84 hM (i := 97) (by decide) (ig_k_97 _ _ _ _ _ _) rfl rfl md_X6_thrown rfl ⟨rfl, rfl⟩ ⟨Nat.le_of_ble_eq_true rfl, Nat.le_of_ble_eq_true rfl⟩ (Nat.le_of_ble_eq_true rfl) dL_law_1061 ⟨ig_roomC (by omega), ig_roomS (by omega)⟩) (fun r218 u H locs hf Z => ?_)
        have Z : ig_Z D kk ad bs _ H locs a210 la211 b216 lb217 lo212 := Z
        refine lv_iload F.1 F.2.1 dL_law_1064 (lv_at hl 1 rfl) ?_
        refine lv_icmp_eq (tgt := 1071) F.1 F.2.1 dL_law_1066 (by decide) (fun c_219 => ?_) (fun c_219 => ?_)
        · have hf := hf.1 c_219
          refine lv_iload F.1 F.2.1 dL_law_1071 (lv_at hl 1 rfl) ?_
          refine lv_if_ne (tgt := 1088) F.1 F.2.1 dL_law_1073 (by decide) (fun c_220 => ?_) (fun c_220 => ?_)
          · have hf := hf.1 c_220
            refine lv_goto (tgt := 1241) F.1 F.2.1 dL_law_1088 (by decide) ?_
            refine lv_iinc (v := x4 + 5) (lv' := [(4, .int (x4 + 5)), (6, .int r215), (5, .int r209), (0, .ref b0), (1, .ref (ad 0)), (2, .ref (ad 97)), (3, .ref (ad 115))]) F.1 F.2.1 dL_law_1241 hl (k := 6) rfl (by rfl) (by decide) rfl (fun ls hl => ?_)
            refine lv_goto (tgt := 23) F.1 F.2.1 dL_law_1244 (by decide) ?_
            exact ih a210 la211 b216 lb217 lo212 (x4 + 5) _ hd0 _ _ _ _ _ (by omega) (by omega) hf Z (lv_sub hl [3, 4, 5, 6, 0] rfl)
          · have hf := hf.2 c_220
            refine lv_aload_n F.1 F.2.1 dL_law_1076 rfl (lv_at hl 5 rfl) ?_
            refine lv_iconst (v := 0) F.1 F.2.1 dL_law_1077 (by decide) ?_
            refine ig_lald F E Z dL_law_1078 ?_
            refine lv_iload F.1 F.2.1 dL_law_1079 (lv_at hl 0 rfl) ?_
            refine lv_i2l F.1 F.2.1 dL_law_1081 rfl ?_
            refine W.lcmp F.1 F.2.1 dL_law_1082 ?_
            refine lv_if_eq (tgt := 1088) F.1 F.2.1 dL_law_1083 (by decide) (fun c_221 => ?_) (fun c_221 => ?_)
            · have hf := hf.1 c_221
              refine lv_goto (tgt := 1241) F.1 F.2.1 dL_law_1088 (by decide) ?_
              refine lv_iinc (v := x4 + 5) (lv' := [(4, .int (x4 + 5)), (6, .int r215), (5, .int r209), (0, .ref b0), (1, .ref (ad 0)), (2, .ref (ad 97)), (3, .ref (ad 115))]) F.1 F.2.1 dL_law_1241 hl (k := 6) rfl (by rfl) (by decide) rfl (fun ls hl => ?_)
              refine lv_goto (tgt := 23) F.1 F.2.1 dL_law_1244 (by decide) ?_
              exact ih a210 la211 b216 lb217 lo212 (x4 + 5) _ hd0 _ _ _ _ _ (by omega) (by omega) hf Z (lv_sub hl [3, 4, 5, 6, 0] rfl)
            · have hf := hf.2 c_221
              refine lv_iconst (v := 0) F.1 F.2.1 dL_law_1086 (by decide) ?_
              exact absurd hf (by decide)
        · have hf := hf.2 c_219
          refine lv_iconst (v := 0) F.1 F.2.1 dL_law_1069 (by decide) ?_
          exact absurd hf (by decide)
      have hf := hf.2 c_206
      by_cases c_222 : ((xs x4.toNatClampNeg) &&& 31) = 17
      · have hf := hf.1 c_222
        refine lv_tableIn (tgt := 1091) F.1 F.2.1 dL_law_39 (by rw [c_222]; decide) (by rw [c_222]; decide) (by rw [c_222]; rfl) (by decide) ?_
        refine lv_aload_n F.1 F.2.1 dL_law_1091 rfl (lv_at hl 1 rfl) ?_
        refine lv_aload_n F.1 F.2.1 dL_law_1092 rfl (lv_at hl 0 rfl) ?_
        refine lv_iload F.1 F.2.1 dL_law_1093 (lv_at hl 4 rfl) ?_
        refine lv_iconst (v := 1) F.1 F.2.1 dL_law_1095 (by decide) ?_
        refine lv_iadd F.1 F.2.1 dL_law_1096 ?_
        have hv223 := hf.1
        have hf := hf.2
        refine va_sld F.1 F.2.1 hX hbl hbA Z.2 hv223 dL_law_1097 ?_
        refine lv_aload_n F.1 F.2.1 dL_law_1098 rfl (lv_at hl 0 rfl) ?_
        refine lv_iload F.1 F.2.1 dL_law_1099 (lv_at hl 4 rfl) ?_
        refine lv_iconst (v := 2) F.1 F.2.1 dL_law_1101 (by decide) ?_
        refine lv_iadd F.1 F.2.1 dL_law_1102 ?_
        have hv224 := hf.1
        have hf := hf.2
        refine va_sld F.1 F.2.1 hX hbl hbA Z.2 hv224 dL_law_1103 ?_
        refine lv_aload_n F.1 F.2.1 dL_law_1104 rfl (lv_at hl 3 rfl) ?_
        have hM := k_L_change l (D := D) (kk := kk) (ad := ad) (bs := bs) (a := a) (la := la) (b := b) (lb := lb) (lo := lo) (xs (x4 + 1).toNatClampNeg) (xs (x4 + 2).toNatClampNeg) hlt hf
        refine ig_calli E Z (ig_runSW (As := [.ref (ad 0), .int (xs (x4 + 1).toNatClampNeg), .int (xs (x4 + 2).toNatClampNeg), .ref (ad 115)]) (rest := []) F E Z hl GL_146 hM md_L_change rfl ⟨rfl, rfl⟩ ⟨Nat.le_of_ble_eq_true rfl, Nat.le_of_ble_eq_true rfl⟩ (Nat.le_of_ble_eq_true rfl) dL_law_1105 ⟨ig_roomC (by omega), ig_roomS (by omega)⟩) (fun r225 u H locs hf Z => ?_)
        obtain ⟨a226, la227, lo228⟩ := u
        have Z : ig_Z D kk ad bs _ H locs a226 la227 b lb lo228 := Z
        refine lv_istore (lv' := [(5, .int r225), (0, .ref b0), (1, .ref (ad 0)), (2, .ref (ad 97)), (3, .ref (ad 115)), (4, .int x4)]) F.1 F.2.1 dL_law_1108 hl (by decide) rfl (fun ls hl => ?_)
        refine lv_aload_n F.1 F.2.1 dL_law_1110 rfl (lv_at hl 3 rfl) ?_
        refine lv_aload_n F.1 F.2.1 dL_law_1111 rfl (lv_at hl 1 rfl) ?_
        refine lv_iload F.1 F.2.1 dL_law_1112 (lv_at hl 5 rfl) ?_
        refine lv_iconst (v := 1) F.1 F.2.1 dL_law_1114 (by decide) ?_
        refine lv_iadd F.1 F.2.1 dL_law_1115 ?_
        have hv229 := hf.1
        have hf := hf.2
        refine va_sld F.1 F.2.1 hX hbl hbA Z.2 hv229 dL_law_1116 ?_
        refine lv_aload_n F.1 F.2.1 dL_law_1117 rfl (lv_at hl 1 rfl) ?_
        refine lv_iload F.1 F.2.1 dL_law_1118 (lv_at hl 5 rfl) ?_
        refine lv_iconst (v := 2) F.1 F.2.1 dL_law_1120 (by decide) ?_
        refine lv_iadd F.1 F.2.1 dL_law_1121 ?_
        have hv230 := hf.1
        have hf := hf.2
        refine va_sld F.1 F.2.1 hX hbl hbA Z.2 hv230 dL_law_1122 ?_
        have hM := k_X6_change l (D := D) (kk := kk) (ad := ad) (bs := bs) (a := a226) (la := la227) (b := b) (lb := lb) (lo := lo228) (xs (x4 + 1).toNatClampNeg) (xs (x4 + 2).toNatClampNeg) hf
        refine ig_calli E Z (ig_runV (As := [.int (xs (x4 + 1).toNatClampNeg), .int (xs (x4 + 2).toNatClampNeg)]) (rest := []) F E Z hl G_L_148 hM (i := 97) (by decide) (ig_k_97 _ _ _ _ _ _) rfl rfl md_X6_change rfl ⟨rfl, rfl⟩ ⟨Nat.le_of_ble_eq_true rfl, Nat.le_of_ble_eq_true rfl⟩ (Nat.le_of_ble_eq_true rfl) dL_law_1123 ⟨ig_roomC (by omega), ig_roomS (by omega)⟩) (fun r231 u H locs hf Z => ?_)
        obtain ⟨b232, lb233⟩ := u
        have Z : ig_Z D kk ad bs _ H locs a226 la227 b232 lb233 lo228 := Z
        refine lv_istore (lv' := [(6, .int r231), (5, .int r225), (0, .ref b0), (1, .ref (ad 0)), (2, .ref (ad 97)), (3, .ref (ad 115)), (4, .int x4)]) F.1 F.2.1 dL_law_1126 hl (by decide) rfl (fun ls hl => ?_)
        refine lv_aload_n F.1 F.2.1 dL_law_1128 rfl (lv_at hl 4 rfl) ?_
        have hM := k_X6_thrown l (D := D) (kk := kk) (ad := ad) (bs := bs) (a := a226) (la := la227) (b := b232) (lb := lb233) (lo := lo228) hf
        refine ig_calli E Z (ig_runV (As := []) (rest := []) F E Z hl G_L_84 hM (i := 97) (by decide) (ig_k_97 _ _ _ _ _ _) rfl rfl md_X6_thrown rfl ⟨rfl, rfl⟩ ⟨Nat.le_of_ble_eq_true rfl, Nat.le_of_ble_eq_true rfl⟩ (Nat.le_of_ble_eq_true rfl) dL_law_1129 ⟨ig_roomC (by omega), ig_roomS (by omega)⟩) (fun r234 u H locs hf Z => ?_)
        have Z : ig_Z D kk ad bs _ H locs a226 la227 b232 lb233 lo228 := Z
        refine lv_iload F.1 F.2.1 dL_law_1132 (lv_at hl 1 rfl) ?_
        refine lv_icmp_eq (tgt := 1139) F.1 F.2.1 dL_law_1134 (by decide) (fun c_235 => ?_) (fun c_235 => ?_)
        · have hf := hf.1 c_235
          refine lv_iload F.1 F.2.1 dL_law_1139 (lv_at hl 1 rfl) ?_
          refine lv_if_ne (tgt := 1156) F.1 F.2.1 dL_law_1141 (by decide) (fun c_236 => ?_) (fun c_236 => ?_)
          · have hf := hf.1 c_236
            refine lv_goto (tgt := 1241) F.1 F.2.1 dL_law_1156 (by decide) ?_
            refine lv_iinc (v := x4 + 5) (lv' := [(4, .int (x4 + 5)), (6, .int r231), (5, .int r225), (0, .ref b0), (1, .ref (ad 0)), (2, .ref (ad 97)), (3, .ref (ad 115))]) F.1 F.2.1 dL_law_1241 hl (k := 6) rfl (by rfl) (by decide) rfl (fun ls hl => ?_)
            refine lv_goto (tgt := 23) F.1 F.2.1 dL_law_1244 (by decide) ?_
            exact ih a226 la227 b232 lb233 lo228 (x4 + 5) _ hd0 _ _ _ _ _ (by omega) (by omega) hf Z (lv_sub hl [3, 4, 5, 6, 0] rfl)
          · have hf := hf.2 c_236
            refine lv_aload_n F.1 F.2.1 dL_law_1144 rfl (lv_at hl 5 rfl) ?_
            refine lv_iconst (v := 0) F.1 F.2.1 dL_law_1145 (by decide) ?_
            refine ig_lald F E Z dL_law_1146 ?_
            refine lv_iload F.1 F.2.1 dL_law_1147 (lv_at hl 0 rfl) ?_
            refine lv_i2l F.1 F.2.1 dL_law_1149 rfl ?_
            refine W.lcmp F.1 F.2.1 dL_law_1150 ?_
            refine lv_if_eq (tgt := 1156) F.1 F.2.1 dL_law_1151 (by decide) (fun c_237 => ?_) (fun c_237 => ?_)
            · have hf := hf.1 c_237
              refine lv_goto (tgt := 1241) F.1 F.2.1 dL_law_1156 (by decide) ?_
              refine lv_iinc (v := x4 + 5) (lv' := [(4, .int (x4 + 5)), (6, .int r231), (5, .int r225), (0, .ref b0), (1, .ref (ad 0)), (2, .ref (ad 97)), (3, .ref (ad 115))]) F.1 F.2.1 dL_law_1241 hl (k := 6) rfl (by rfl) (by decide) rfl (fun ls hl => ?_)
              refine lv_goto (tgt := 23) F.1 F.2.1 dL_law_1244 (by decide) ?_
              exact ih a226 la227 b232 lb233 lo228 (x4 + 5) _ hd0 _ _ _ _ _ (by omega) (by omega) hf Z (lv_sub hl [3, 4, 5, 6, 0] rfl)
            · have hf := hf.2 c_237
              refine lv_iconst (v := 0) F.1 F.2.1 dL_law_1154 (by decide) ?_
              exact absurd hf (by decide)
        · have hf := hf.2 c_235
          refine lv_iconst (v := 0) F.1 F.2.1 dL_law_1137 (by decide) ?_
          exact absurd hf (by decide)
      have hf := hf.2 c_222
      by_cases c_238 : ((xs x4.toNatClampNeg) &&& 31) = 18
      · have hf := hf.1 c_238
        refine lv_tableIn (tgt := 1159) F.1 F.2.1 dL_law_39 (by rw [c_238]; decide) (by rw [c_238]; decide) (by rw [c_238]; rfl) (by decide) ?_
        refine lv_aload_n F.1 F.2.1 dL_law_1159 rfl (lv_at hl 1 rfl) ?_
        have hM := k_X5_round l (D := D) (kk := kk) (ad := ad) (bs := bs) (a := a) (la := la) (b := b) (lb := lb) (lo := lo) hf
        refine ig_calli E Z (ig_runV (As := []) (rest := []) F E Z hl G_L_149 hM (i := 0) (by decide) (ig_k_0 _ _ _ _ _ _) rfl rfl md_X5_round rfl ⟨rfl, rfl⟩ ⟨Nat.le_of_ble_eq_true rfl, Nat.le_of_ble_eq_true rfl⟩ (Nat.le_of_ble_eq_true rfl) dL_law_1160 ⟨ig_roomC (by omega), ig_roomS (by omega)⟩) (fun r239 u H locs hf Z => ?_)
        obtain ⟨a240, la241⟩ := u
        have Z : ig_Z D kk ad bs _ H locs a240 la241 b lb lo := Z
        refine lv_aload_n F.1 F.2.1 dL_law_1163 rfl (lv_at hl 2 rfl) ?_
        have hM := k_X6_round l (D := D) (kk := kk) (ad := ad) (bs := bs) (a := a240) (la := la241) (b := b) (lb := lb) (lo := lo) hf
        refine ig_calli E Z (ig_runV (As := []) (rest := [.int r239]) F E Z hl G_L_152 hM (i := 97) (by decide) (ig_k_97 _ _ _ _ _ _) rfl rfl md_X6_round rfl ⟨rfl, rfl⟩ ⟨Nat.le_of_ble_eq_true rfl, Nat.le_of_ble_eq_true rfl⟩ (Nat.le_of_ble_eq_true rfl) dL_law_1164 ⟨ig_roomC (by omega), ig_roomS (by omega)⟩) (fun r242 u H locs hf Z => ?_)
        obtain ⟨b243, lb244⟩ := u
        have Z : ig_Z D kk ad bs _ H locs a240 la241 b243 lb244 lo := Z
        refine lv_icmp_eq (tgt := 1241) F.1 F.2.1 dL_law_1167 (by decide) (fun c_245 => ?_) (fun c_245 => ?_)
        · have hf := hf.1 c_245
          refine lv_iinc (v := x4 + 5) (lv' := [(4, .int (x4 + 5)), (0, .ref b0), (1, .ref (ad 0)), (2, .ref (ad 97)), (3, .ref (ad 115))]) F.1 F.2.1 dL_law_1241 hl (k := 4) rfl (by rfl) (by decide) rfl (fun ls hl => ?_)
          refine lv_goto (tgt := 23) F.1 F.2.1 dL_law_1244 (by decide) ?_
          exact ih a240 la241 b243 lb244 lo (x4 + 5) _ hd0 _ _ _ _ _ (by omega) (by omega) hf Z (lv_sub hl [1, 2, 3, 4, 0] rfl)
        · have hf := hf.2 c_245
          refine lv_iconst (v := 0) F.1 F.2.1 dL_law_1170 (by decide) ?_
          exact absurd hf (by decide)
      have hf := hf.2 c_238
      by_cases c_246 : ((xs x4.toNatClampNeg) &&& 31) = 19
      · have hf := hf.1 c_246
        refine lv_tableIn (tgt := 1172) F.1 F.2.1 dL_law_39 (by rw [c_246]; decide) (by rw [c_246]; decide) (by rw [c_246]; rfl) (by decide) ?_
        refine lv_aload_n F.1 F.2.1 dL_law_1172 rfl (lv_at hl 1 rfl) ?_
        have hM := k_X5_roundAnew l (D := D) (kk := kk) (ad := ad) (bs := bs) (a := a) (la := la) (b := b) (lb := lb) (lo := lo) hf
        refine ig_calli E Z (ig_runV (As := []) (rest := []) F E Z hl G_L_153 hM (i := 0) (by decide) (ig_k_0 _ _ _ _ _ _) rfl rfl md_X5_roundAnew rfl ⟨rfl, rfl⟩ ⟨Nat.le_of_ble_eq_true rfl, Nat.le_of_ble_eq_true rfl⟩ (Nat.le_of_ble_eq_true rfl) dL_law_1173 ⟨ig_roomC (by omega), ig_roomS (by omega)⟩) (fun r247 u H locs hf Z => ?_)
        obtain ⟨a248, la249⟩ := u
        have Z : ig_Z D kk ad bs _ H locs a248 la249 b lb lo := Z
        refine lv_aload_n F.1 F.2.1 dL_law_1176 rfl (lv_at hl 2 rfl) ?_
        have hM := k_X6_roundAnew l (D := D) (kk := kk) (ad := ad) (bs := bs) (a := a248) (la := la249) (b := b) (lb := lb) (lo := lo) hf
        refine ig_calli E Z (ig_runV (As := []) (rest := [.int r247]) F E Z hl G_L_156 hM (i := 97) (by decide) (ig_k_97 _ _ _ _ _ _) rfl rfl md_X6_roundAnew rfl ⟨rfl, rfl⟩ ⟨Nat.le_of_ble_eq_true rfl, Nat.le_of_ble_eq_true rfl⟩ (Nat.le_of_ble_eq_true rfl) dL_law_1177 ⟨ig_roomC (by omega), ig_roomS (by omega)⟩) (fun r250 u H locs hf Z => ?_)
        obtain ⟨b251, lb252⟩ := u
        have Z : ig_Z D kk ad bs _ H locs a248 la249 b251 lb252 lo := Z
        refine lv_icmp_eq (tgt := 1241) F.1 F.2.1 dL_law_1180 (by decide) (fun c_253 => ?_) (fun c_253 => ?_)
        · have hf := hf.1 c_253
          refine lv_iinc (v := x4 + 5) (lv' := [(4, .int (x4 + 5)), (0, .ref b0), (1, .ref (ad 0)), (2, .ref (ad 97)), (3, .ref (ad 115))]) F.1 F.2.1 dL_law_1241 hl (k := 4) rfl (by rfl) (by decide) rfl (fun ls hl => ?_)
          refine lv_goto (tgt := 23) F.1 F.2.1 dL_law_1244 (by decide) ?_
          exact ih a248 la249 b251 lb252 lo (x4 + 5) _ hd0 _ _ _ _ _ (by omega) (by omega) hf Z (lv_sub hl [1, 2, 3, 4, 0] rfl)
        · have hf := hf.2 c_253
          refine lv_iconst (v := 0) F.1 F.2.1 dL_law_1183 (by decide) ?_
          exact absurd hf (by decide)
      have hf := hf.2 c_246
      by_cases c_254 : ((xs x4.toNatClampNeg) &&& 31) = 20
      · have hf := hf.1 c_254
        refine lv_tableIn (tgt := 1185) F.1 F.2.1 dL_law_39 (by rw [c_254]; decide) (by rw [c_254]; decide) (by rw [c_254]; rfl) (by decide) ?_
        refine lv_aload_n F.1 F.2.1 dL_law_1185 rfl (lv_at hl 1 rfl) ?_
        refine lv_aload_n F.1 F.2.1 dL_law_1186 rfl (lv_at hl 0 rfl) ?_
        refine lv_iload F.1 F.2.1 dL_law_1187 (lv_at hl 4 rfl) ?_
        refine lv_iconst (v := 1) F.1 F.2.1 dL_law_1189 (by decide) ?_
        refine lv_iadd F.1 F.2.1 dL_law_1190 ?_
        have hv255 := hf.1
        have hf := hf.2
        refine va_sld F.1 F.2.1 hX hbl hbA Z.2 hv255 dL_law_1191 ?_
        refine lv_aload_n F.1 F.2.1 dL_law_1192 rfl (lv_at hl 3 rfl) ?_
        have hM := k_L_inRound l (D := D) (kk := kk) (ad := ad) (bs := bs) (a := a) (la := la) (b := b) (lb := lb) (lo := lo) (xs (x4 + 1).toNatClampNeg) hlt hf
        refine ig_calli E Z (ig_runSW (As := [.ref (ad 0), .int (xs (x4 + 1).toNatClampNeg), .ref (ad 115)]) (rest := []) F E Z hl GL_157 hM md_L_inRound rfl ⟨rfl, rfl⟩ ⟨Nat.le_of_ble_eq_true rfl, Nat.le_of_ble_eq_true rfl⟩ (Nat.le_of_ble_eq_true rfl) dL_law_1193 ⟨ig_roomC (by omega), ig_roomS (by omega)⟩) (fun r256 u H locs hf Z => ?_)
        obtain ⟨a257, la258, lo259⟩ := u
        have Z : ig_Z D kk ad bs _ H locs a257 la258 b lb lo259 := Z
        refine lv_istore (lv' := [(5, .int r256), (0, .ref b0), (1, .ref (ad 0)), (2, .ref (ad 97)), (3, .ref (ad 115)), (4, .int x4)]) F.1 F.2.1 dL_law_1196 hl (by decide) rfl (fun ls hl => ?_)
        refine lv_aload_n F.1 F.2.1 dL_law_1198 rfl (lv_at hl 3 rfl) ?_
        refine lv_aload_n F.1 F.2.1 dL_law_1199 rfl (lv_at hl 1 rfl) ?_
        refine lv_iload F.1 F.2.1 dL_law_1200 (lv_at hl 5 rfl) ?_
        refine lv_iconst (v := 1) F.1 F.2.1 dL_law_1202 (by decide) ?_
        refine lv_iadd F.1 F.2.1 dL_law_1203 ?_
        have hv260 := hf.1
        have hf := hf.2
        refine va_sld F.1 F.2.1 hX hbl hbA Z.2 hv260 dL_law_1204 ?_
        have hM := k_X6_inRound l (D := D) (kk := kk) (ad := ad) (bs := bs) (a := a257) (la := la258) (b := b) (lb := lb) (lo := lo259) (xs (x4 + 1).toNatClampNeg) hf
        refine ig_calli E Z (ig_runV (As := [.int (xs (x4 + 1).toNatClampNeg)]) (rest := []) F E Z hl G_L_159 hM (i := 97) (by decide) (ig_k_97 _ _ _ _ _ _) rfl rfl md_X6_inRound rfl ⟨rfl, rfl⟩ ⟨Nat.le_of_ble_eq_true rfl, Nat.le_of_ble_eq_true rfl⟩ (Nat.le_of_ble_eq_true rfl) dL_law_1205 ⟨ig_roomC (by omega), ig_roomS (by omega)⟩) (fun r261 u H locs hf Z => ?_)
        obtain ⟨b262, lb263⟩ := u
        have Z : ig_Z D kk ad bs _ H locs a257 la258 b262 lb263 lo259 := Z
        refine lv_istore (lv' := [(6, .int r261), (5, .int r256), (0, .ref b0), (1, .ref (ad 0)), (2, .ref (ad 97)), (3, .ref (ad 115)), (4, .int x4)]) F.1 F.2.1 dL_law_1208 hl (by decide) rfl (fun ls hl => ?_)
        refine lv_aload_n F.1 F.2.1 dL_law_1210 rfl (lv_at hl 4 rfl) ?_
        have hM := k_X6_thrown l (D := D) (kk := kk) (ad := ad) (bs := bs) (a := a257) (la := la258) (b := b262) (lb := lb263) (lo := lo259) hf
        refine ig_calli E Z (ig_runV (As := []) (rest := []) F E Z hl G_L_84 hM (i := 97) (by decide) (ig_k_97 _ _ _ _ _ _) rfl rfl md_X6_thrown rfl ⟨rfl, rfl⟩ ⟨Nat.le_of_ble_eq_true rfl, Nat.le_of_ble_eq_true rfl⟩ (Nat.le_of_ble_eq_true rfl) dL_law_1211 ⟨ig_roomC (by omega), ig_roomS (by omega)⟩) (fun r264 u H locs hf Z => ?_)
        have Z : ig_Z D kk ad bs _ H locs a257 la258 b262 lb263 lo259 := Z
        refine lv_iload F.1 F.2.1 dL_law_1214 (lv_at hl 1 rfl) ?_
        refine lv_icmp_eq (tgt := 1221) F.1 F.2.1 dL_law_1216 (by decide) (fun c_265 => ?_) (fun c_265 => ?_)
        · have hf := hf.1 c_265
          refine lv_iload F.1 F.2.1 dL_law_1221 (lv_at hl 1 rfl) ?_
          refine lv_if_ne (tgt := 1238) F.1 F.2.1 dL_law_1223 (by decide) (fun c_266 => ?_) (fun c_266 => ?_)
          · have hf := hf.1 c_266
            refine lv_goto (tgt := 1241) F.1 F.2.1 dL_law_1238 (by decide) ?_
            refine lv_iinc (v := x4 + 5) (lv' := [(4, .int (x4 + 5)), (6, .int r261), (5, .int r256), (0, .ref b0), (1, .ref (ad 0)), (2, .ref (ad 97)), (3, .ref (ad 115))]) F.1 F.2.1 dL_law_1241 hl (k := 6) rfl (by rfl) (by decide) rfl (fun ls hl => ?_)
            refine lv_goto (tgt := 23) F.1 F.2.1 dL_law_1244 (by decide) ?_
            exact ih a257 la258 b262 lb263 lo259 (x4 + 5) _ hd0 _ _ _ _ _ (by omega) (by omega) hf Z (lv_sub hl [3, 4, 5, 6, 0] rfl)
          · have hf := hf.2 c_266
            refine lv_aload_n F.1 F.2.1 dL_law_1226 rfl (lv_at hl 5 rfl) ?_
            refine lv_iconst (v := 0) F.1 F.2.1 dL_law_1227 (by decide) ?_
            refine ig_lald F E Z dL_law_1228 ?_
            refine lv_iload F.1 F.2.1 dL_law_1229 (lv_at hl 0 rfl) ?_
            refine lv_i2l F.1 F.2.1 dL_law_1231 rfl ?_
            refine W.lcmp F.1 F.2.1 dL_law_1232 ?_
            refine lv_if_eq (tgt := 1238) F.1 F.2.1 dL_law_1233 (by decide) (fun c_267 => ?_) (fun c_267 => ?_)
            · have hf := hf.1 c_267
              refine lv_goto (tgt := 1241) F.1 F.2.1 dL_law_1238 (by decide) ?_
              refine lv_iinc (v := x4 + 5) (lv' := [(4, .int (x4 + 5)), (6, .int r261), (5, .int r256), (0, .ref b0), (1, .ref (ad 0)), (2, .ref (ad 97)), (3, .ref (ad 115))]) F.1 F.2.1 dL_law_1241 hl (k := 6) rfl (by rfl) (by decide) rfl (fun ls hl => ?_)
              refine lv_goto (tgt := 23) F.1 F.2.1 dL_law_1244 (by decide) ?_
              exact ih a257 la258 b262 lb263 lo259 (x4 + 5) _ hd0 _ _ _ _ _ (by omega) (by omega) hf Z (lv_sub hl [3, 4, 5, 6, 0] rfl)
            · have hf := hf.2 c_267
              refine lv_iconst (v := 0) F.1 F.2.1 dL_law_1236 (by decide) ?_
              exact absurd hf (by decide)
        · have hf := hf.2 c_265
          refine lv_iconst (v := 0) F.1 F.2.1 dL_law_1219 (by decide) ?_
          exact absurd hf (by decide)
      have hf := hf.2 c_254
      refine lv_tableOut (tgt := 1241) F.1 F.2.1 dL_law_39 (ig_swout ((xs x4.toNatClampNeg) &&& 31) 0 20 (by decide) (by decide) (fun k h1 h2 => ?_)) (by decide) ?_
      · rcases (show k = 0 ∨ k = 1 ∨ k = 2 ∨ k = 3 ∨ k = 4 ∨ k = 5 ∨ k = 6 ∨ k = 7 ∨ k = 8 ∨ k = 9 ∨ k = 10 ∨ k = 11 ∨ k = 12 ∨ k = 13 ∨ k = 14 ∨ k = 15 ∨ k = 16 ∨ k = 17 ∨ k = 18 ∨ k = 19 ∨ k = 20 by omega) with rfl | rfl | rfl | rfl | rfl | rfl | rfl | rfl | rfl | rfl | rfl | rfl | rfl | rfl | rfl | rfl | rfl | rfl | rfl | rfl | rfl
        · exact c_3
        · exact c_21
        · exact c_38
        · exact c_52
        · exact c_63
        · exact c_72
        · exact c_86
        · exact c_102
        · exact c_113
        · exact c_125
        · exact c_130
        · exact c_144
        · exact c_160
        · exact c_176
        · exact c_190
        · exact c_196
        · exact c_206
        · exact c_222
        · exact c_238
        · exact c_246
        · exact c_254
      refine lv_iinc (v := x4 + 5) (lv' := [(4, .int (x4 + 5)), (0, .ref b0), (1, .ref (ad 0)), (2, .ref (ad 97)), (3, .ref (ad 115))]) F.1 F.2.1 dL_law_1241 hl (k := 4) rfl (by rfl) (by decide) rfl (fun ls hl => ?_)
      refine lv_goto (tgt := 23) F.1 F.2.1 dL_law_1244 (by decide) ?_
      exact ih a la b lb lo (x4 + 5) _ hd0 _ _ _ _ _ (by omega) (by omega) hf Z (lv_sub hl [1, 2, 3, 4, 0] rfl)
end IGM
