section IGN
variable {p : Program} {e : Env} {s : State} {m : MethodId} {args : Array Value} {below : List Frame} {meth : Method} {c : Code} {b0 Ln : Nat} {xs : Nat → Int32}
variable {D : va_G} {kk : Nat → ClassId} {ad : Nat → Nat} {bs : Nat} {b : ig_M} {lb lo : Int64}
set_option maxHeartbeats 4000000 in
set_option maxRecDepth 100000 in
theorem wm_L_law_75 (l : Launch) (hlt : l.stackTraces = false) (Fs : CallFix p m c code 6 s #[Value.ref b0] ig_all RL) (Es : ig_E D kk ad bs s) (hr : meth.sig.returnType = ret) (hk : meth.locks = false) (hX : va_X b0 Ln xs s s.heap) (hbl : b0 < s.heap.size) (hbA : ¬ ig_A bs b0) (hbs : s.heap.size ≤ bs) (k_36 : ig_M → Int64 → ig_M → Int64 → Int32 → Prop) (n_36 : Nat) (h_36 : ∀ (a : ig_M) (la : Int64) (b : ig_M) (lb : Int64) (x3 : Int32) (d0 : Drawn) (_ : s.drawn.sameBut d0 lw_cs) (C S : Nat) (H : Heap) (locs : List Loc) (ls : Array Slot) (_ : C + n_36 * 146 + 287 ≤ 20000) (_ : S + n_36 * 876 + 1722 ≤ 120000), k_36 a la b lb x3 → ig_Z D kk ad bs (s.setDrawn d0) H locs a la b lb lo → lv_has ls 6 [(0, .ref b0), (1, .ref (ad 0)), (2, .ref (ad 97)), (3, .int x3)] → W p l e room_1 (s.setDrawn d0) m #[Value.ref b0] below meth c H locs C S (lw_Z below #[Value.ref b0] s) (F0 m 36 ls [])) :
    ∀ (a : ig_M) (la : Int64) (b : ig_M) (lb : Int64) (x3 : Int32) (x4 : Int32) (d0 : Drawn) (_ : s.drawn.sameBut d0 lw_cs) (C S : Nat) (H : Heap) (locs : List Loc) (ls : Array Slot) (_ : C + (n_36 * 146 + 427) ≤ 20000) (_ : S + (n_36 * 876 + 2562) ≤ 120000), wp_L_law_75 xs Ln k_36 a la b lb x3 x4 → ig_Z D kk ad bs (s.setDrawn d0) H locs a la b lb lo → lv_has ls 6 [(0, .ref b0), (1, .ref (ad 0)), (2, .ref (ad 97)), (3, .int x3), (4, .int x4)] → W p l e room_1 (s.setDrawn d0) m #[Value.ref b0] below meth c H locs C S (lw_Z below #[Value.ref b0] s) (F0 m 75 ls []) := by
  intro a la b lb x3 x4 d0 hd0 C S H locs ls hC hS hf Z hl
  have F := ig_Fd Fs d0
  have E := ig_Ed Es d0
  have hX := ig_hXd hX d0
  refine lv_iload_n F.1 F.2.1 dL_law_75 rfl (lv_at hl 3 rfl) ?_
  refine lv_bipush (v := 33) F.1 F.2.1 dL_law_76 (by decide) ?_
  have hz21 := hf.1
  have hf := hf.2
  refine lv_irem F.1 F.2.1 dL_law_78 hz21 ?_
  refine lv_bipush (v := 32) F.1 F.2.1 dL_law_79 (by decide) ?_
  refine lv_icmp_ne (tgt := 98) F.1 F.2.1 dL_law_81 (by decide) (fun c_22 => ?_) (fun c_22 => ?_)
  · have hf := hf.1 c_22
    refine lv_iinc (v := x3 + 1) (lv' := [(3, .int (x3 + 1)), (0, .ref b0), (1, .ref (ad 0)), (2, .ref (ad 97)), (4, .int x4)]) F.1 F.2.1 dL_law_98 hl (k := 3) rfl (by rfl) (by decide) rfl (fun ls hl => ?_)
    refine lv_goto (tgt := 36) F.1 F.2.1 dL_law_101 (by decide) ?_
    exact h_36 a la b lb (x3 + 1) _ hd0 _ _ _ _ _ (by omega) (by omega) hf Z (lv_sub hl [1, 2, 3, 0] rfl)
  · have hf := hf.2 c_22
    refine lv_aload_n F.1 F.2.1 dL_law_84 rfl (lv_at hl 1 rfl) ?_
    refine lv_aload_n F.1 F.2.1 dL_law_85 rfl (lv_at hl 2 rfl) ?_
    refine lv_iload F.1 F.2.1 dL_law_86 (lv_at hl 4 rfl) ?_
    refine lv_iconst (v := 3) F.1 F.2.1 dL_law_88 (by decide) ?_
    refine lv_ishr F.1 F.2.1 dL_law_89 ?_
    have hM := k_L_areAlike l (D := D) (kk := kk) (ad := ad) (bs := bs) (a := a) (la := la) (b := b) (lb := lb) (lo := lo) (x4 >>> (3 &&& 31)) hlt hf
    refine ig_calli E Z (ig_runS (As := [.ref (ad 0), .ref (ad 97), .int (x4 >>> (3 &&& 31))]) (rest := []) F E Z hl G_L_152 hM rfl md_L_areAlike rfl ⟨rfl, rfl⟩ ⟨Nat.le_of_ble_eq_true rfl, Nat.le_of_ble_eq_true rfl⟩ (Nat.le_of_ble_eq_true rfl) dL_law_90 ⟨ig_roomC (by omega), ig_roomS (by omega)⟩) (fun r23 u H locs hf Z => ?_)
    obtain ⟨a24, la25, b26, lb27⟩ := u
    have Z : ig_Z D kk ad bs _ H locs a24 la25 b26 lb27 lo := Z
    refine lv_if_ne (tgt := 98) F.1 F.2.1 dL_law_93 (by decide) (fun c_28 => ?_) (fun c_28 => ?_)
    · have hf := hf.1 c_28
      refine lv_iinc (v := x3 + 1) (lv' := [(3, .int (x3 + 1)), (0, .ref b0), (1, .ref (ad 0)), (2, .ref (ad 97)), (4, .int x4)]) F.1 F.2.1 dL_law_98 hl (k := 3) rfl (by rfl) (by decide) rfl (fun ls hl => ?_)
      refine lv_goto (tgt := 36) F.1 F.2.1 dL_law_101 (by decide) ?_
      exact h_36 a24 la25 b26 lb27 (x3 + 1) _ hd0 _ _ _ _ _ (by omega) (by omega) hf Z (lv_sub hl [1, 2, 3, 0] rfl)
    · have hf := hf.2 c_28
      refine lv_iconst (v := 0) F.1 F.2.1 dL_law_96 (by decide) ?_
      exact absurd hf (by decide)
set_option maxHeartbeats 4000000 in
set_option maxRecDepth 100000 in
theorem wm_L_law_36 (l : Launch) (hlt : l.stackTraces = false) (Fs : CallFix p m c code 6 s #[Value.ref b0] ig_all RL) (Es : ig_E D kk ad bs s) (hr : meth.sig.returnType = ret) (hk : meth.locks = false) (hX : va_X b0 Ln xs s s.heap) (hbl : b0 < s.heap.size) (hbA : ¬ ig_A bs b0) (hbs : s.heap.size ≤ bs) :
    ∀ n_36 : Nat, ∀ (a : ig_M) (la : Int64) (b : ig_M) (lb : Int64) (x3 : Int32) (d0 : Drawn) (_ : s.drawn.sameBut d0 lw_cs) (C S : Nat) (H : Heap) (locs : List Loc) (ls : Array Slot) (_ : C + n_36 * 146 + 287 ≤ 20000) (_ : S + n_36 * 876 + 1722 ≤ 120000), wp_L_law_36 xs Ln n_36 a la b lb x3 → ig_Z D kk ad bs (s.setDrawn d0) H locs a la b lb lo → lv_has ls 6 [(0, .ref b0), (1, .ref (ad 0)), (2, .ref (ad 97)), (3, .int x3)] → W p l e room_1 (s.setDrawn d0) m #[Value.ref b0] below meth c H locs C S (lw_Z below #[Value.ref b0] s) (F0 m 36 ls []) := by
  intro n
  induction n with
  | zero => intro a la b lb x3 d0 hd0 C S H locs ls hC hS hf Z hl; exact False.elim hf
  | succ n ih =>
    intro a la b lb x3 d0 hd0 C S H locs ls hC hS hf Z hl
    have F := ig_Fd Fs d0
    have E := ig_Ed Es d0
    have hX := ig_hXd hX d0
    refine lv_iload_n F.1 F.2.1 dL_law_36 rfl (lv_at hl 3 rfl) ?_
    refine lv_bipush (v := 100) F.1 F.2.1 dL_law_37 (by decide) ?_
    refine lv_icmp_ge (tgt := 104) F.1 F.2.1 dL_law_39 (by decide) (fun c_7 => ?_) (fun c_7 => ?_)
    · have hf := hf.1 c_7
      refine lv_aload_n F.1 F.2.1 dL_law_104 rfl (lv_at hl 1 rfl) ?_
      refine lv_aload_n F.1 F.2.1 dL_law_105 rfl (lv_at hl 0 rfl) ?_
      refine lv_bipush (v := 100) F.1 F.2.1 dL_law_106 (by decide) ?_
      have hM := k_L_cell l (D := D) (kk := kk) (ad := ad) (bs := bs) (a := a) (la := la) (b := b) (lb := lb) (lo := lo) (b0 := b0) (xs := xs) (Ln := Ln) 100 hf
      refine ig_calli E Z (ig_runSX (b0 := b0) (xs := xs) (Ln := Ln) (As := [.ref b0, .int 100]) (rest := [.ref (ad 0)]) F E Z hl hX hbl hbA G_L_141 hM rfl md_L_cell rfl ⟨rfl, rfl⟩ ⟨Nat.le_of_ble_eq_true rfl, Nat.le_of_ble_eq_true rfl⟩ (Nat.le_of_ble_eq_true rfl) dL_law_108 ⟨ig_roomC (by omega), ig_roomS (by omega)⟩) (fun r8 u H locs hf Z => ?_)
      have Z : ig_Z D kk ad bs _ H locs a la b lb lo := Z
      have hM := k_L_isSo l (D := D) (kk := kk) (ad := ad) (bs := bs) (a := a) (la := la) (b := b) (lb := lb) (lo := lo) r8 hlt hf
      refine ig_calli E Z (ig_runS (As := [.ref (ad 0), .int r8]) (rest := []) F E Z hl G_L_156 hM rfl md_L_isSo rfl ⟨rfl, rfl⟩ ⟨Nat.le_of_ble_eq_true rfl, Nat.le_of_ble_eq_true rfl⟩ (Nat.le_of_ble_eq_true rfl) dL_law_111 ⟨ig_roomC (by omega), ig_roomS (by omega)⟩) (fun r9 u H locs hf Z => ?_)
      obtain ⟨a10, la11⟩ := u
      have Z : ig_Z D kk ad bs _ H locs a10 la11 b lb lo := Z
      rw [hf]
      refine va_forget (fun q hq => Nat.le_trans hbs (Z.2.2.2 q hq)) ?_
      exact W.widen (k := 600104) (n := 7301314) (by omega) (by omega) (lw_ret hd0 F.1 F.2.1 hr hk dL_law_114)
    · have hf := hf.2 c_7
      refine lv_aload_n F.1 F.2.1 dL_law_42 rfl (lv_at hl 0 rfl) ?_
      refine lv_iload_n F.1 F.2.1 dL_law_43 rfl (lv_at hl 3 rfl) ?_
      have hM := k_L_cell l (D := D) (kk := kk) (ad := ad) (bs := bs) (a := a) (la := la) (b := b) (lb := lb) (lo := lo) (b0 := b0) (xs := xs) (Ln := Ln) x3 hf
      refine ig_calli E Z (ig_runSX (b0 := b0) (xs := xs) (Ln := Ln) (As := [.ref b0, .int x3]) (rest := []) F E Z hl hX hbl hbA G_L_141 hM rfl md_L_cell rfl ⟨rfl, rfl⟩ ⟨Nat.le_of_ble_eq_true rfl, Nat.le_of_ble_eq_true rfl⟩ (Nat.le_of_ble_eq_true rfl) dL_law_44 ⟨ig_roomC (by omega), ig_roomS (by omega)⟩) (fun r12 u H locs hf Z => ?_)
      have Z : ig_Z D kk ad bs _ H locs a la b lb lo := Z
      refine lv_istore (lv' := [(4, .int r12), (0, .ref b0), (1, .ref (ad 0)), (2, .ref (ad 97)), (3, .int x3)]) F.1 F.2.1 dL_law_47 hl (by decide) rfl (fun ls hl => ?_)
      refine lv_aload_n F.1 F.2.1 dL_law_49 rfl (lv_at hl 2 rfl) ?_
      refine lv_iload F.1 F.2.1 dL_law_50 (lv_at hl 0 rfl) ?_
      have hM := k_L_act l (D := D) (kk := kk) (ad := ad) (bs := bs) (a := a) (la := la) (b := b) (lb := lb) (lo := lo) r12 hlt hf
      refine ig_calliD hd0 Z (ig_runSD (As := [.ref (ad 0), .int r12]) (rest := []) F E Z hl G_L_149 hM rfl md_L_act rfl ⟨rfl, rfl⟩ ⟨Nat.le_of_ble_eq_true rfl, Nat.le_of_ble_eq_true rfl⟩ (Nat.le_of_ble_eq_true rfl) dL_law_52 ⟨ig_roomC (by omega), ig_roomS (by omega)⟩) (fun r13 u H locs hf Z d13 hd13 => ?_)
      obtain ⟨a14, la15⟩ := u
      have Z : ig_Z D kk ad bs _ H locs a14 la15 b lb lo := Z
      have F := ig_Fd Fs d13
      have E := ig_Ed Es d13
      have Z := ig_Zd Z d13
      refine lv_istore (lv' := [(5, .int r13), (4, .int r12), (0, .ref b0), (1, .ref (ad 0)), (2, .ref (ad 97)), (3, .int x3)]) F.1 F.2.1 dL_law_55 hl (by decide) rfl (fun ls hl => ?_)
      refine lv_iload F.1 F.2.1 dL_law_57 (lv_at hl 0 rfl) ?_
      refine lv_ldc (v := (-99999999)) F.1 F.2.1 F.2.2.2.1 (F.2.2.2.2 _ mw_338) dL_law_59 ?_
      refine lv_icmp_eq (tgt := 75) F.1 F.2.1 dL_law_61 (by decide) (fun c_16 => ?_) (fun c_16 => ?_)
      · have hf := hf.1 c_16
        exact wm_L_law_75 l hlt Fs Es hr hk hX hbl hbA hbs (fun (z0 : ig_M) (z1 : Int64) (z2 : ig_M) (z3 : Int64) (z4 : Int32) => wp_L_law_36 xs Ln n z0 z1 z2 z3 z4) n ih a14 la15 b lb x3 r12 _ hd13 _ _ _ _ _ (by omega) (by omega) hf Z (lv_sub hl [2, 3, 4, 5, 1] rfl)
      · have hf := hf.2 c_16
        refine lv_aload_n F.1 F.2.1 dL_law_64 rfl (lv_at hl 4 rfl) ?_
        refine lv_iload F.1 F.2.1 dL_law_65 (lv_at hl 1 rfl) ?_
        have hM := k_L_act l (D := D) (kk := kk) (ad := (ig_sa ad)) (bs := bs) (a := b) (la := lb) (b := a14) (lb := la15) (lo := lo) r12 hlt hf
        refine ig_calliD hd13 (ig_Zs Z) (ig_runSD (As := [.ref ((ig_sa ad) 0), .int r12]) (rest := []) F (ig_Es E) (ig_Zs Z) hl G_L_149 hM rfl md_L_act rfl ⟨rfl, rfl⟩ ⟨Nat.le_of_ble_eq_true rfl, Nat.le_of_ble_eq_true rfl⟩ (Nat.le_of_ble_eq_true rfl) dL_law_67 ⟨ig_roomC (by omega), ig_roomS (by omega)⟩) (fun r17 u H locs hf Z d17 hd17 => ?_)
        obtain ⟨b18, lb19⟩ := u
        have Z : ig_Z D kk (ig_sa ad) bs _ H locs b18 lb19 a14 la15 lo := Z
        have Z := ig_Zb Z
        have F := ig_Fd Fs d17
        have E := ig_Ed Es d17
        have Z := ig_Zd Z d17
        refine lv_iload F.1 F.2.1 dL_law_70 (lv_at hl 0 rfl) ?_
        refine lv_icmp_ne (tgt := 96) F.1 F.2.1 dL_law_72 (by decide) (fun c_20 => ?_) (fun c_20 => ?_)
        · have hf := hf.1 c_20
          refine lv_iconst (v := 0) F.1 F.2.1 dL_law_96 (by decide) ?_
          exact absurd hf (by decide)
        · have hf := hf.2 c_20
          exact wm_L_law_75 l hlt Fs Es hr hk hX hbl hbA hbs (fun (z0 : ig_M) (z1 : Int64) (z2 : ig_M) (z3 : Int64) (z4 : Int32) => wp_L_law_36 xs Ln n z0 z1 z2 z3 z4) n ih a14 la15 b18 lb19 x3 r12 _ hd17 _ _ _ _ _ (by omega) (by omega) hf Z (lv_sub hl [2, 3, 4, 5, 1] rfl)
set_option maxHeartbeats 4000000 in
set_option maxRecDepth 100000 in
theorem wm_L_law (l : Launch) (hlt : l.stackTraces = false) (Fs : CallFix p m c code 6 s #[Value.ref b0] ig_all RL) (Es : ig_E D kk ad bs s) (hr : meth.sig.returnType = ret) (hk : meth.locks = false) (hX : va_X b0 Ln xs s s.heap) (hbl : b0 < s.heap.size) (hbA : ¬ ig_A bs b0) (hbs : s.heap.size ≤ bs) :
    ∀ (a : ig_M) (la : Int64) (b : ig_M) (lb : Int64) (d0 : Drawn) (_ : s.drawn.sameBut d0 lw_cs) (C S : Nat) (H : Heap) (locs : List Loc) (ls : Array Slot) (_ : C + 14931 ≤ 20000) (_ : S + 89586 ≤ 120000), wp_L_law xs Ln a la b lb → ig_Z D kk ad bs (s.setDrawn d0) H locs a la b lb lo → lv_has ls 6 [(0, .ref b0), (1, .ref (ad 0)), (2, .ref (ad 97))] → W p l e room_1 (s.setDrawn d0) m #[Value.ref b0] below meth c H locs C S (lw_Z below #[Value.ref b0] s) (F0 m 16 ls []) := by
  intro a la b lb d0 hd0 C S H locs ls hC hS hf Z hl
  have F := ig_Fd Fs d0
  have E := ig_Ed Es d0
  have hX := ig_hXd hX d0
  refine lv_aload_n F.1 F.2.1 dL_law_16 rfl (lv_at hl 1 rfl) ?_
  refine lv_aload_n F.1 F.2.1 dL_law_17 rfl (lv_at hl 0 rfl) ?_
  refine lv_iconst (v := 0) F.1 F.2.1 dL_law_18 (by decide) ?_
  have hM := k_L_cell l (D := D) (kk := kk) (ad := ad) (bs := bs) (a := a) (la := la) (b := b) (lb := lb) (lo := lo) (b0 := b0) (xs := xs) (Ln := Ln) 0 hf
  refine ig_calli E Z (ig_runSX (b0 := b0) (xs := xs) (Ln := Ln) (As := [.ref b0, .int 0]) (rest := [.ref (ad 0)]) F E Z hl hX hbl hbA G_L_141 hM rfl md_L_cell rfl ⟨rfl, rfl⟩ ⟨Nat.le_of_ble_eq_true rfl, Nat.le_of_ble_eq_true rfl⟩ (Nat.le_of_ble_eq_true rfl) dL_law_19 ⟨ig_roomC (by omega), ig_roomS (by omega)⟩) (fun r1 u H locs hf Z => ?_)
  have Z : ig_Z D kk ad bs _ H locs a la b lb lo := Z
  have hM := k_L_prepare l (D := D) (kk := kk) (ad := ad) (bs := bs) (a := a) (la := la) (b := b) (lb := lb) (lo := lo) r1 hlt hf
  refine ig_callv E Z (ig_runS (As := [.ref (ad 0), .int r1]) (rest := []) F E Z hl G_L_145 hM rfl md_L_prepare rfl ⟨rfl, rfl⟩ ⟨Nat.le_of_ble_eq_true rfl, Nat.le_of_ble_eq_true rfl⟩ (Nat.le_of_ble_eq_true rfl) dL_law_22 ⟨ig_roomC (by omega), ig_roomS (by omega)⟩) (fun u H locs hf Z => ?_)
  obtain ⟨a2, la3⟩ := u
  have Z : ig_Z D kk ad bs _ H locs a2 la3 b lb lo := Z
  refine lv_aload_n F.1 F.2.1 dL_law_25 rfl (lv_at hl 2 rfl) ?_
  refine lv_aload_n F.1 F.2.1 dL_law_26 rfl (lv_at hl 0 rfl) ?_
  refine lv_iconst (v := 0) F.1 F.2.1 dL_law_27 (by decide) ?_
  have hM := k_L_cell l (D := D) (kk := kk) (ad := ad) (bs := bs) (a := a2) (la := la3) (b := b) (lb := lb) (lo := lo) (b0 := b0) (xs := xs) (Ln := Ln) 0 hf
  refine ig_calli E Z (ig_runSX (b0 := b0) (xs := xs) (Ln := Ln) (As := [.ref b0, .int 0]) (rest := [.ref (ad 97)]) F E Z hl hX hbl hbA G_L_141 hM rfl md_L_cell rfl ⟨rfl, rfl⟩ ⟨Nat.le_of_ble_eq_true rfl, Nat.le_of_ble_eq_true rfl⟩ (Nat.le_of_ble_eq_true rfl) dL_law_28 ⟨ig_roomC (by omega), ig_roomS (by omega)⟩) (fun r4 u H locs hf Z => ?_)
  have Z : ig_Z D kk ad bs _ H locs a2 la3 b lb lo := Z
  have hM := k_L_prepare l (D := D) (kk := kk) (ad := (ig_sa ad)) (bs := bs) (a := b) (la := lb) (b := a2) (lb := la3) (lo := lo) r4 hlt hf
  refine ig_callv (ig_Es E) (ig_Zs Z) (ig_runS (As := [.ref ((ig_sa ad) 0), .int r4]) (rest := []) F (ig_Es E) (ig_Zs Z) hl G_L_145 hM rfl md_L_prepare rfl ⟨rfl, rfl⟩ ⟨Nat.le_of_ble_eq_true rfl, Nat.le_of_ble_eq_true rfl⟩ (Nat.le_of_ble_eq_true rfl) dL_law_31 ⟨ig_roomC (by omega), ig_roomS (by omega)⟩) (fun u H locs hf Z => ?_)
  obtain ⟨b5, lb6⟩ := u
  have Z : ig_Z D kk (ig_sa ad) bs _ H locs b5 lb6 a2 la3 lo := Z
  have Z := ig_Zb Z
  refine lv_iconst (v := 1) F.1 F.2.1 dL_law_34 (by decide) ?_
  refine lv_istore_n (lv' := [(3, .int 1), (0, .ref b0), (1, .ref (ad 0)), (2, .ref (ad 97))]) F.1 F.2.1 dL_law_35 rfl hl (by decide) rfl (fun ls hl => ?_)
  obtain ⟨n1, hn1, hf⟩ := hf
  exact wm_L_law_36 l hlt Fs Es hr hk hX hbl hbA hbs n1 a2 la3 b5 lb6 1 _ hd0 _ _ _ _ _ (by omega) (by omega) hf Z (lv_sub hl [1, 2, 3, 0] rfl)
end IGN
