def ig_phz : List Value := [.int 0, .int 0, .int 0, .int 0, .int 0, .int 0, .int 0, .int 0, .int 0, .int 0, .int 0, .int 0]
def ig_phi : List Value := [.int 0, .int 0, .int 0, .int 0, .int 0, .int 0, .int 0, .int 0, .int 0, .int (-1), .int 0, .int 0]
theorem md_X2_init : ig_md yX2_init 0 := by decide +kernel
set_option maxHeartbeats 4000000 in
set_option maxRecDepth 100000 in
theorem k_X2_init (l : Launch) {D : va_G} {kk : Nat → ClassId} {ad : Nat → Nat} {bs n i : Nat} {g : Nat → va_E} (hi : i < n) (hg : g i = .inr (2, ig_phz)) : Met l yX2_init (ig_ws yX2_init cX2_init 1 none) ({ frames := 1, cells := 0, slots := 0, locals := 12 } : Room) (va_Pc [.ref (bs + i)] (ig_GW D kk ad bs n g)) (ic_Q D kk ad bs n (ig_gu g i (.inr (2, ig_phi)))) 0 0 (ig_A bs) := by
  refine Met.ofW (cc := cX2_init) (maxL := 1) (ret := none) (by decide) rfl ?_
  intro p e s m args below meth c s₁ B hml hv
  obtain ⟨rfl, E, hAO, hP⟩ := hv
  have hk := B.notSynchronized
  have hr := B.returns
  have F : CallFix p m c cX2_init 1 s _ ig_all RX2 := ⟨B.exec, B.bytes, hml, findClass_of_methodNamed B.named, fun w hw => atoms_spec B.pre w (List.mem_cons_of_mem _ hw)⟩
  have Z : ig_GZ D bs s s.heap [] n g := ig_GZ.rf hP
  have hl := lv_entry ([.ref (bs + i)]) (n := 1) (Nat.le_of_ble_eq_true rfl)
  rw [lg_entry_eq]
  generalize (lg_sl ([.ref (bs + i)]) ++ List.replicate (1 - (lg_sl ([.ref (bs + i)])).length) Slot.unset).toArray = ls at hl ⊢
  have hl : lv_has ls 1 [(0, .ref (bs + i))] := hl
  refine lv_aload_n F.1 F.2.1 dX2_init_0 rfl (lv_at hl 0 rfl) ?_
  refine ic_obj F hl mw_499 mw_496 mw_497 dX2_init_1 (Nat.le_of_ble_eq_true rfl) (Nat.le_of_ble_eq_true rfl) ?_
  refine lv_aload_n F.1 F.2.1 dX2_init_4 rfl (lv_at hl 0 rfl) ?_
  refine lv_iconst (v := 0) F.1 F.2.1 dX2_init_5 (by decide) ?_
  refine ic_put (T := TX2) (N := 12) F E Z (i := i) (fs := ig_phz) hi hg rfl in_X2 tyX2 tyX2_ok nmX2 3 (by decide) mw_243 rfl (ty := .int) rfl rfl rfl (Nat.le_of_ble_eq_true rfl) dX2_init_6 (fun H locs Z => ?_)
  refine lv_aload_n F.1 F.2.1 dX2_init_9 rfl (lv_at hl 0 rfl) ?_
  refine lv_iconst (v := (-1)) F.1 F.2.1 dX2_init_10 (by decide) ?_
  refine ic_put (T := TX2) (N := 12) F E Z (i := i) (fs := ig_phz) hi (if_pos rfl) rfl in_X2 tyX2 tyX2_ok nmX2 9 (by decide) mw_253 rfl (ty := .int) rfl rfl rfl (Nat.le_of_ble_eq_true rfl) dX2_init_11 (fun H locs Z => ?_)
  have Z := Z.congr (g' := ig_gu g i (.inr (2, ig_phi))) (fun q hq => by
    by_cases h : q = i
    · subst h
      exact (if_pos rfl).trans (if_pos rfl).symm
    · exact ((if_neg h).trans (if_neg h)).trans (if_neg h).symm)
  exact ic_vret F E hAO Z hr hk dX2_init_14
def ig_gX1_i (kk : Nat → ClassId) (bs : Nat) (g : Nat → va_E) : Nat → va_E := (ig_gu (ig_gu g 22 (ig_ar (kk 0) 5000 (fun _ => 0))) 21 (.inr (1, [.ref (bs + 22)])))
theorem md_X1_init : ig_md yX1_init 0 := by decide +kernel
set_option maxHeartbeats 4000000 in
set_option maxRecDepth 100000 in
theorem k_X1_init (l : Launch) {D : va_G} {kk : Nat → ClassId} {ad : Nat → Nat} {bs : Nat} {g : Nat → va_E} (hg : g 21 = .inr (1, [.null])) : Met l yX1_init (ig_ws yX1_init cX1_init 1 none) ({ frames := 1, cells := 1, slots := 5000, locals := 20 } : Room) (va_Pc [.ref (bs + 21)] (ig_GW D kk ad bs 22 g)) (ic_Q D kk ad bs 23 (ig_gX1_i kk bs g)) 1 5000 (ig_A bs) := by
  refine Met.ofW (cc := cX1_init) (maxL := 1) (ret := none) (by decide) rfl ?_
  intro p e s m args below meth c s₁ B hml hv
  obtain ⟨rfl, E, hAO, hP⟩ := hv
  have hk := B.notSynchronized
  have hr := B.returns
  have hin : meth.name = "<init>" := (name_of_methodNamed B.named B.method).1
  have F : CallFix p m c cX1_init 1 s _ ig_all RX1 := ⟨B.exec, B.bytes, hml, findClass_of_methodNamed B.named, fun w hw => atoms_spec B.pre w (List.mem_cons_of_mem _ hw)⟩
  have Z : ig_GZ D bs s s.heap [] 22 g := ig_GZ.rf hP
  have hl := lv_entry ([.ref (bs + 21)]) (n := 1) (Nat.le_of_ble_eq_true rfl)
  rw [lg_entry_eq]
  generalize (lg_sl ([.ref (bs + 21)]) ++ List.replicate (1 - (lg_sl ([.ref (bs + 21)])).length) Slot.unset).toArray = ls at hl ⊢
  have hl : lv_has ls 1 [(0, .ref (bs + 21))] := hl
  refine lv_aload_n F.1 F.2.1 dX1_init_0 rfl (lv_at hl 0 rfl) ?_
  refine ic_obj F hl mw_500 mw_496 mw_497 dX1_init_1 (Nat.le_of_ble_eq_true rfl) (Nat.le_of_ble_eq_true rfl) ?_
  refine lv_aload_n F.1 F.2.1 dX1_init_4 rfl (lv_at hl 0 rfl) ?_
  refine lv_sipush (v := 5000) F.1 F.2.1 dX1_init_5 (by decide) ?_
  refine ic_newi (N := 5000) F E Z mw_498 (by decide) (by decide) (Nat.le_of_ble_eq_true rfl) (Nat.le_of_ble_eq_true rfl) (Nat.le_of_ble_eq_true rfl) dX1_init_8 (fun H Z => ?_)
  refine ic_putF (T := TX1) (N := 1) F E Z (i := 21) (fs := [.null]) (by decide) hg rfl in_X1 tyX1 tyX1_ok nmX1 0 (by decide) mw_239 rfl hin rfl (ty := (.array .int)) rfl rfl rfl (Nat.le_of_ble_eq_true rfl) dX1_init_10 (fun H locs Z => ?_)
  exact ic_vret F E hAO Z hr hk dX1_init_13
def ig_gX0_i (kk : Nat → ClassId) (bs : Nat) (g : Nat → va_E) : Nat → va_E := (ig_gu (ig_gu (ig_gu (ig_gu (ig_gu g 23 (.inr (0, [.null, .null, .int 0, .int 0, .int 0, .int 0, .int 0, .int 0, .long 0]))) 23 (.inr (0, [.null, .null, .int 0, .int (-1), .int 0, .int 0, .int 0, .int 0, .long 0]))) 23 (.inr (0, [.null, .null, .int 0, .int (-1), .int 0, .int (-1), .int 0, .int 0, .long 0]))) 23 (.inr (0, [.ref (bs + 1), .null, .int 0, .int (-1), .int 0, .int (-1), .int 0, .int 0, .long 0]))) 23 (.inr (0, [.ref (bs + 1), .ref (bs + 21), .int 0, .int (-1), .int 0, .int (-1), .int 0, .int 0, .long 0])))
theorem md_X0_init : ig_md yX0_init 2 := by decide +kernel
set_option maxHeartbeats 4000000 in
set_option maxRecDepth 100000 in
theorem k_X0_init (l : Launch) {D : va_G} {kk : Nat → ClassId} {ad : Nat → Nat} {bs : Nat} {g : Nat → va_E} (hg : g 23 = .inr (0, [.null, .null, .int 0, .int 0, .int 0, .int 0, .int 0, .int 0, .long 0])) : Met l yX0_init (ig_ws yX0_init cX0_init 3 none) ({ frames := 1, cells := 0, slots := 0, locals := 20 } : Room) (va_Pc [.ref (bs + 23), .ref (bs + 1), .ref (bs + 21)] (ig_GW D kk ad bs 24 g)) (ic_Q D kk ad bs 24 (ig_gX0_i kk bs g)) 0 0 (ig_A bs) := by
  refine Met.ofW (cc := cX0_init) (maxL := 3) (ret := none) (by decide) rfl ?_
  intro p e s m args below meth c s₁ B hml hv
  obtain ⟨rfl, E, hAO, hP⟩ := hv
  have hk := B.notSynchronized
  have hr := B.returns
  have hin : meth.name = "<init>" := (name_of_methodNamed B.named B.method).1
  have F : CallFix p m c cX0_init 3 s _ ig_all RX0 := ⟨B.exec, B.bytes, hml, findClass_of_methodNamed B.named, fun w hw => atoms_spec B.pre w (List.mem_cons_of_mem _ hw)⟩
  have Z : ig_GZ D bs s s.heap [] 24 g := ig_GZ.rf hP
  have hl := lv_entry ([.ref (bs + 23), .ref (bs + 1), .ref (bs + 21)]) (n := 3) (Nat.le_of_ble_eq_true rfl)
  rw [lg_entry_eq]
  generalize (lg_sl ([.ref (bs + 23), .ref (bs + 1), .ref (bs + 21)]) ++ List.replicate (3 - (lg_sl ([.ref (bs + 23), .ref (bs + 1), .ref (bs + 21)])).length) Slot.unset).toArray = ls at hl ⊢
  have hl : lv_has ls 3 [(0, .ref (bs + 23)), (1, .ref (bs + 1)), (2, .ref (bs + 21))] := hl
  refine lv_aload_n F.1 F.2.1 dX0_init_0 rfl (lv_at hl 0 rfl) ?_
  refine ic_obj F hl mw_501 mw_496 mw_497 dX0_init_1 (Nat.le_of_ble_eq_true rfl) (Nat.le_of_ble_eq_true rfl) ?_
  refine lv_aload_n F.1 F.2.1 dX0_init_4 rfl (lv_at hl 0 rfl) ?_
  refine lv_iconst (v := 0) F.1 F.2.1 dX0_init_5 (by decide) ?_
  refine ic_put (T := TX0) (N := 9) F E Z (i := 23) (fs := [.null, .null, .int 0, .int 0, .int 0, .int 0, .int 0, .int 0, .long 0]) (by decide) hg rfl in_X0 tyX0 tyX0_ok nmX0 2 (by decide) mw_115 rfl (ty := .int) rfl rfl rfl (Nat.le_of_ble_eq_true rfl) dX0_init_6 (fun H locs Z => ?_)
  refine lv_aload_n F.1 F.2.1 dX0_init_9 rfl (lv_at hl 0 rfl) ?_
  refine lv_iconst (v := (-1)) F.1 F.2.1 dX0_init_10 (by decide) ?_
  refine ic_put (T := TX0) (N := 9) F E Z (i := 23) (fs := [.null, .null, .int 0, .int 0, .int 0, .int 0, .int 0, .int 0, .long 0]) (by decide) rfl rfl in_X0 tyX0 tyX0_ok nmX0 3 (by decide) mw_116 rfl (ty := .int) rfl rfl rfl (Nat.le_of_ble_eq_true rfl) dX0_init_11 (fun H locs Z => ?_)
  refine lv_aload_n F.1 F.2.1 dX0_init_14 rfl (lv_at hl 0 rfl) ?_
  refine lv_iconst (v := (-1)) F.1 F.2.1 dX0_init_15 (by decide) ?_
  refine ic_put (T := TX0) (N := 9) F E Z (i := 23) (fs := [.null, .null, .int 0, .int (-1), .int 0, .int 0, .int 0, .int 0, .long 0]) (by decide) rfl rfl in_X0 tyX0 tyX0_ok nmX0 5 (by decide) mw_174 rfl (ty := .int) rfl rfl rfl (Nat.le_of_ble_eq_true rfl) dX0_init_16 (fun H locs Z => ?_)
  refine lv_aload_n F.1 F.2.1 dX0_init_19 rfl (lv_at hl 0 rfl) ?_
  refine lv_aload_n F.1 F.2.1 dX0_init_20 rfl (lv_at hl 1 rfl) ?_
  refine ic_putF (T := TX0) (N := 9) F E Z (i := 23) (fs := [.null, .null, .int 0, .int (-1), .int 0, .int (-1), .int 0, .int 0, .long 0]) (by decide) rfl rfl in_X0 tyX0 tyX0_ok nmX0 0 (by decide) mw_118 rfl hin rfl (ty := (.object "Intergreen$Plan")) rfl rfl rfl (Nat.le_of_ble_eq_true rfl) dX0_init_21 (fun H locs Z => ?_)
  refine lv_aload_n F.1 F.2.1 dX0_init_24 rfl (lv_at hl 0 rfl) ?_
  refine lv_aload_n F.1 F.2.1 dX0_init_25 rfl (lv_at hl 2 rfl) ?_
  refine ic_putF (T := TX0) (N := 9) F E Z (i := 23) (fs := [.ref (bs + 1), .null, .int 0, .int (-1), .int 0, .int (-1), .int 0, .int 0, .long 0]) (by decide) rfl rfl in_X0 tyX0 tyX0_ok nmX0 1 (by decide) mw_219 rfl hin rfl (ty := (.object "Intergreen$Log")) rfl rfl rfl (Nat.le_of_ble_eq_true rfl) dX0_init_26 (fun H locs Z => ?_)
  exact ic_vret F E hAO Z hr hk dX0_init_29
def ig_gX4_i (kk : Nat → ClassId) (bs : Nat) (g : Nat → va_E) : Nat → va_E := (ig_gu (ig_gu (ig_gr kk bs 32 64 6 (ig_gu (ig_gr kk bs 25 6 6 g) 24 (.inr (4, [.null, .ref (bs + 25), .null])))) 24 (.inr (4, [.null, .ref (bs + 25), .ref (bs + 32)]))) 24 (.inr (4, [.ref (bs + 1), .ref (bs + 25), .ref (bs + 32)])))
theorem md_X4_init : ig_md yX4_init 1 := by decide +kernel
set_option maxHeartbeats 4000000 in
set_option maxRecDepth 100000 in
theorem k_X4_init (l : Launch) {D : va_G} {kk : Nat → ClassId} {ad : Nat → Nat} {bs : Nat} {g : Nat → va_E} (hg : g 24 = .inr (4, [.null, .null, .null])) : Met l yX4_init (ig_ws yX4_init cX4_init 2 none) ({ frames := 1, cells := 72, slots := 490, locals := 20 } : Room) (va_Pc [.ref (bs + 24), .ref (bs + 1)] (ig_GW D kk ad bs 25 g)) (ic_Q D kk ad bs 97 (ig_gX4_i kk bs g)) 72 490 (ig_A bs) := by
  refine Met.ofW (cc := cX4_init) (maxL := 2) (ret := none) (by decide) rfl ?_
  intro p e s m args below meth c s₁ B hml hv
  obtain ⟨rfl, E, hAO, hP⟩ := hv
  have hk := B.notSynchronized
  have hr := B.returns
  have hin : meth.name = "<init>" := (name_of_methodNamed B.named B.method).1
  have F : CallFix p m c cX4_init 2 s _ ig_all RX4 := ⟨B.exec, B.bytes, hml, findClass_of_methodNamed B.named, fun w hw => atoms_spec B.pre w (List.mem_cons_of_mem _ hw)⟩
  have Z : ig_GZ D bs s s.heap [] 25 g := ig_GZ.rf hP
  have hl := lv_entry ([.ref (bs + 24), .ref (bs + 1)]) (n := 2) (Nat.le_of_ble_eq_true rfl)
  rw [lg_entry_eq]
  generalize (lg_sl ([.ref (bs + 24), .ref (bs + 1)]) ++ List.replicate (2 - (lg_sl ([.ref (bs + 24), .ref (bs + 1)])).length) Slot.unset).toArray = ls at hl ⊢
  have hl : lv_has ls 2 [(0, .ref (bs + 24)), (1, .ref (bs + 1))] := hl
  refine lv_aload_n F.1 F.2.1 dX4_init_0 rfl (lv_at hl 0 rfl) ?_
  refine ic_obj F hl mw_502 mw_496 mw_497 dX4_init_1 (Nat.le_of_ble_eq_true rfl) (Nat.le_of_ble_eq_true rfl) ?_
  refine lv_aload_n F.1 F.2.1 dX4_init_4 rfl (lv_at hl 0 rfl) ?_
  refine lv_bipush (v := 6) F.1 F.2.1 dX4_init_5 (by decide) ?_
  refine lv_bipush (v := 6) F.1 F.2.1 dX4_init_7 (by decide) ?_
  refine ic_mna (N := 6) (K := 6) F E hAO Z mw_503 mw_498 (by decide) (by decide) (by decide) (by decide) (Nat.le_of_ble_eq_true rfl) (Nat.le_of_ble_eq_true rfl) (Nat.le_of_ble_eq_true rfl) (Nat.le_of_ble_eq_true rfl) dX4_init_9 (fun H Z => ?_)
  refine ic_putF (T := TX4) (N := 3) F E Z (i := 24) (fs := [.null, .null, .null]) (by decide) hg rfl in_X4 tyX4 tyX4_ok nmX4 1 (by decide) mw_302 rfl hin rfl (ty := (.array (.array .int))) rfl rfl rfl (Nat.le_of_ble_eq_true rfl) dX4_init_13 (fun H locs Z => ?_)
  refine lv_aload_n F.1 F.2.1 dX4_init_16 rfl (lv_at hl 0 rfl) ?_
  refine lv_bipush (v := 64) F.1 F.2.1 dX4_init_17 (by decide) ?_
  refine lv_bipush (v := 6) F.1 F.2.1 dX4_init_19 (by decide) ?_
  refine ic_mna (N := 64) (K := 6) F E hAO Z mw_503 mw_498 (by decide) (by decide) (by decide) (by decide) (Nat.le_of_ble_eq_true rfl) (Nat.le_of_ble_eq_true rfl) (Nat.le_of_ble_eq_true rfl) (Nat.le_of_ble_eq_true rfl) dX4_init_21 (fun H Z => ?_)
  refine ic_putF (T := TX4) (N := 3) F E Z (i := 24) (fs := [.null, .ref (bs + 25), .null]) (by decide) rfl rfl in_X4 tyX4 tyX4_ok nmX4 2 (by decide) mw_285 rfl hin rfl (ty := (.array (.array .int))) rfl rfl rfl (Nat.le_of_ble_eq_true rfl) dX4_init_25 (fun H locs Z => ?_)
  refine lv_aload_n F.1 F.2.1 dX4_init_28 rfl (lv_at hl 0 rfl) ?_
  refine lv_aload_n F.1 F.2.1 dX4_init_29 rfl (lv_at hl 1 rfl) ?_
  refine ic_putF (T := TX4) (N := 3) F E Z (i := 24) (fs := [.null, .ref (bs + 25), .ref (bs + 32)]) (by decide) rfl rfl in_X4 tyX4 tyX4_ok nmX4 0 (by decide) mw_275 rfl hin rfl (ty := (.object "Intergreen$Plan")) rfl rfl rfl (Nat.le_of_ble_eq_true rfl) dX4_init_30 (fun H locs Z => ?_)
  exact ic_vret F E hAO Z hr hk dX4_init_33
def ig_gX3_a (kk : Nat → ClassId) (bs : Nat) (g : Nat → va_E) : Nat → va_E := (ig_gu (ig_gu (ig_gu (ig_gr kk bs 3 8 8 (ig_gu (ig_gu g 2 (ig_ra (kk 3) 8 (fun _ => none))) 1 (.inr (3, [.ref (bs + 2), .int 0, .null, .null, .int 0])))) 1 (.inr (3, [.ref (bs + 2), .int 0, .ref (bs + 3), .null, .int 0]))) 12 (ig_ar (kk 0) 6 (fun _ => 0))) 1 (.inr (3, [.ref (bs + 2), .int 0, .ref (bs + 3), .ref (bs + 12), .int 0])))
def ig_gX3_l (kk : Nat → ClassId) (bs : Nat) (g : Nat → va_E) (j : Nat) : Nat → va_E := fun q => if q = 2 then ig_ra (kk 3) 8 (fun k => if k < j then some (bs + (13 + k)) else none) else if 13 ≤ q then .inr (2, ig_phi) else ig_gX3_a kk bs g q
theorem nI_eight : nI 8 = 8 := rfl
set_option maxHeartbeats 4000000 in
set_option maxRecDepth 100000 in
theorem wm_X3_init {p : Program} {l : Launch} {e : Env} {s : State} {m : MethodId} {args : Array Value} {below : List Frame} {meth : Method} {c : Code} {D : va_G} {kk : Nat → ClassId} {ad : Nat → Nat} {bs : Nat} {g : Nat → va_E} (F : CallFix p m c cX3_init 2 s args ig_all RX3) (E : ig_E D kk ad bs s) (hAO : ig_AOs s) (hr : meth.sig.returnType = none) (hk : meth.locks = false) :
    ∀ (n j : Nat) (H : Heap) (locs : List Loc) (ls : Array Slot), j + n = 8 → ig_GZ D bs s H locs (13 + j) (ig_gX3_l kk bs g j) → lv_has ls 2 [(1, .int (nI j)), (0, .ref (bs + 1))] → W p l e ({ frames := 2, cells := 19, slots := 182, locals := 40 } : Room) s m args below meth c H locs (11 + j) (86 + 12 * j) (MQ below (ic_Q D kk ad bs 21 (ig_gX3_l kk bs g 8)) args s 19 182 (ig_A bs)) (F0 m 35 ls []) := by
  intro n
  induction n with
  | zero =>
    intro j H locs ls hj Z hl
    have hj : j = 8 := by omega
    subst hj
    refine lv_iload_n F.1 F.2.1 dX3_init_35 rfl (lv_at hl 0 rfl) ?_
    refine lv_aload_n F.1 F.2.1 dX3_init_36 rfl (lv_at hl 1 rfl) ?_
    refine ic_get (T := TX3) (N := 5) F E Z (i := 1) (fs := [.ref (bs + 2), .int 0, .ref (bs + 3), .ref (bs + 12), .int 0]) (by decide) rfl rfl in_X3 0 (by decide) mw_261 rfl dX3_init_37 ?_
    refine ic_alenq (i := 2) (N := 8) (v := 8) F E Z (by decide) rfl rfl dX3_init_40 ?_
    refine lv_icmp_ge (tgt := 63) F.1 F.2.1 dX3_init_41 (by decide) (fun h => ?_) (fun h => absurd (show (8 : Int32) ≤ nI 8 by rw [nI_eight]; decide) h)
    exact ic_vret F E hAO Z hr hk dX3_init_63
  | succ n ih =>
    intro j H locs ls hj Z hl
    have hj8 : j < 8 := by omega
    refine lv_iload_n F.1 F.2.1 dX3_init_35 rfl (lv_at hl 0 rfl) ?_
    refine lv_aload_n F.1 F.2.1 dX3_init_36 rfl (lv_at hl 1 rfl) ?_
    refine ic_get (T := TX3) (N := 5) F E Z (i := 1) (fs := [.ref (bs + 2), .int 0, .ref (bs + 3), .ref (bs + 12), .int 0]) (by omega) rfl rfl in_X3 0 (by decide) mw_261 rfl dX3_init_37 ?_
    refine ic_alenq (i := 2) (N := 8) (v := 8) F E Z (by omega) rfl rfl dX3_init_40 ?_
    refine lv_icmp_ge (tgt := 63) F.1 F.2.1 dX3_init_41 (by decide) (fun h => absurd h (by rw [← nI_eight]; exact nI_ge hj8 (by omega))) (fun h => ?_)
    refine lv_aload_n F.1 F.2.1 dX3_init_44 rfl (lv_at hl 1 rfl) ?_
    refine ic_get (T := TX3) (N := 5) F E Z (i := 1) (fs := [.ref (bs + 2), .int 0, .ref (bs + 3), .ref (bs + 12), .int 0]) (by omega) rfl rfl in_X3 0 (by decide) mw_261 rfl dX3_init_45 ?_
    refine lv_iload_n F.1 F.2.1 dX3_init_48 rfl (lv_at hl 0 rfl) ?_
    refine ic_new (T := TX2) (N := 12) (ci := 2) (fs := ig_phz) F E Z in_X2 tyX2 tyX2_ok mw_505 mw_507 mw_57 rfl (by decide +kernel) (by show 11 + j + 1 ≤ 19; omega) (by show 86 + 12 * j + 12 ≤ 182; omega) dX3_init_49 (fun H Z => ?_)
    refine lv_dup F.1 F.2.1 dX3_init_52 rfl ?_
    have hM := k_X2_init l (D := D) (kk := kk) (ad := ad) (bs := bs) (n := 13 + j + 1) (i := 13 + j) (g := ig_gu (ig_gX3_l kk bs g j) (13 + j) (.inr (2, ig_phz))) (by omega) (if_pos rfl)
    refine ic_callv E Z (ic_runIN (host := "Intergreen") (As := []) (rest := [.ref (bs + (13 + j)), .int (nI j), .ref (bs + 2)]) F E hAO Z hl hM mw_508 mw_57 (by decide +kernel) mw_509 rfl md_X2_init rfl ⟨rfl, rfl⟩ ⟨Nat.le_of_ble_eq_true rfl, Nat.le_of_ble_eq_true rfl⟩ (Nat.le_of_ble_eq_true rfl) dX3_init_53 ⟨by show 11 + j + 1 + 0 ≤ 19; omega, by show 86 + 12 * j + 12 + 0 ≤ 182; omega⟩) (fun H locs Z => ?_)
    have e2 : ∀ q : Nat, q < 13 + j → ig_gu (ig_gu (ig_gX3_l kk bs g j) (13 + j) (.inr (2, ig_phz))) (13 + j) (.inr (2, ig_phi)) q = ig_gX3_l kk bs g j q := fun q hq => (if_neg (by omega)).trans (if_neg (by omega))
    refine ic_astq (i := 2) (v := 13 + j) (N := 8) (vs := ig_phi) (f := fun k => if k < j then some (bs + (13 + k)) else none) F E Z (by omega) ((e2 2 (by omega)).trans rfl) (by omega) (if_pos rfl) (vp_in_nI hj8 (by omega)) dX3_init_56 (fun H locs Z => ?_)
    refine lv_iinc (v := nI (j + 1)) (lv' := [(1, .int (nI (j + 1))), (0, .ref (bs + 1))]) F.1 F.2.1 dX3_init_57 hl (k := 0) rfl (nI_1 j) (by decide) rfl (fun ls hl => ?_)
    refine lv_goto (tgt := 35) F.1 F.2.1 dX3_init_60 (by decide) ?_
    refine W.widen (k := 11 + (j + 1)) (n := 86 + 12 * (j + 1)) (by omega) (by omega) ?_
    refine ih (j + 1) _ _ _ (by omega) (Z.congr (fun q hq => ?_)) hl
    rw [nI_clamp (by omega)]
    unfold ig_gu ig_gX3_l
    by_cases h2 : q = 2
    · rw [if_pos h2, if_pos h2]
      congr 1
      funext k
      unfold va_up
      by_cases hkj : k = j
      · rw [if_pos hkj, if_pos (by omega), hkj]
      · rw [if_neg hkj]
        show (if k < j then some (bs + (13 + k)) else none) = _
        by_cases hk2 : k < j
        · rw [if_pos hk2, if_pos (by omega)]
        · rw [if_neg hk2, if_neg (by omega)]
    · rw [if_neg h2, if_neg h2]
      by_cases h3 : q = 13 + j
      · rw [if_pos h3, if_neg h2, if_pos (by omega)]
      · rw [if_neg h3, if_neg h3, if_neg h2]
def ig_gX3_i (kk : Nat → ClassId) (bs : Nat) (g : Nat → va_E) : Nat → va_E := ig_gX3_l kk bs g 8
theorem md_X3_init : ig_md yX3_init 0 := by decide +kernel
set_option maxHeartbeats 4000000 in
set_option maxRecDepth 100000 in
theorem k_X3_init (l : Launch) {D : va_G} {kk : Nat → ClassId} {ad : Nat → Nat} {bs : Nat} {g : Nat → va_E} (hg : g 1 = .inr (3, [.null, .int 0, .null, .null, .int 0])) : Met l yX3_init (ig_ws yX3_init cX3_init 2 none) ({ frames := 2, cells := 19, slots := 182, locals := 40 } : Room) (va_Pc [.ref (bs + 1)] (ig_GW D kk ad bs 2 g)) (ic_Q D kk ad bs 21 (ig_gX3_i kk bs g)) 19 182 (ig_A bs) := by
  refine Met.ofW (cc := cX3_init) (maxL := 2) (ret := none) (by decide) rfl ?_
  intro p e s m args below meth c s₁ B hml hv
  obtain ⟨rfl, E, hAO, hP⟩ := hv
  have hk := B.notSynchronized
  have hr := B.returns
  have hin : meth.name = "<init>" := (name_of_methodNamed B.named B.method).1
  have F : CallFix p m c cX3_init 2 s _ ig_all RX3 := ⟨B.exec, B.bytes, hml, findClass_of_methodNamed B.named, fun w hw => atoms_spec B.pre w (List.mem_cons_of_mem _ hw)⟩
  have Z : ig_GZ D bs s s.heap [] 2 g := ig_GZ.rf hP
  have hl := lv_entry ([.ref (bs + 1)]) (n := 2) (Nat.le_of_ble_eq_true rfl)
  rw [lg_entry_eq]
  generalize (lg_sl ([.ref (bs + 1)]) ++ List.replicate (2 - (lg_sl ([.ref (bs + 1)])).length) Slot.unset).toArray = ls at hl ⊢
  have hl : lv_has ls 2 [(0, .ref (bs + 1))] := hl
  refine lv_aload_n F.1 F.2.1 dX3_init_0 rfl (lv_at hl 0 rfl) ?_
  refine ic_obj F hl mw_504 mw_496 mw_497 dX3_init_1 (Nat.le_of_ble_eq_true rfl) (Nat.le_of_ble_eq_true rfl) ?_
  refine lv_aload_n F.1 F.2.1 dX3_init_4 rfl (lv_at hl 0 rfl) ?_
  refine lv_bipush (v := 8) F.1 F.2.1 dX3_init_5 (by decide) ?_
  refine ic_newq (N := 8) F E hAO Z mw_505 (by decide) (by decide) (Nat.le_of_ble_eq_true rfl) (Nat.le_of_ble_eq_true rfl) (Nat.le_of_ble_eq_true rfl) dX3_init_7 (fun H Z => ?_)
  refine ic_putF (T := TX3) (N := 5) F E Z (i := 1) (fs := [.null, .int 0, .null, .null, .int 0]) (by decide) hg rfl in_X3 tyX3 tyX3_ok nmX3 0 (by decide) mw_261 rfl hin rfl (ty := (.array (.object "Intergreen$Phase"))) rfl rfl rfl (Nat.le_of_ble_eq_true rfl) dX3_init_10 (fun H locs Z => ?_)
  refine lv_aload_n F.1 F.2.1 dX3_init_13 rfl (lv_at hl 0 rfl) ?_
  refine lv_bipush (v := 8) F.1 F.2.1 dX3_init_14 (by decide) ?_
  refine lv_bipush (v := 8) F.1 F.2.1 dX3_init_16 (by decide) ?_
  refine ic_mna (N := 8) (K := 8) F E hAO Z mw_506 mw_498 (by decide) (by decide) (by decide) (by decide) (Nat.le_of_ble_eq_true rfl) (Nat.le_of_ble_eq_true rfl) (Nat.le_of_ble_eq_true rfl) (Nat.le_of_ble_eq_true rfl) dX3_init_18 (fun H Z => ?_)
  refine ic_putF (T := TX3) (N := 5) F E Z (i := 1) (fs := [.ref (bs + 2), .int 0, .null, .null, .int 0]) (by decide) rfl rfl in_X3 tyX3 tyX3_ok nmX3 2 (by decide) mw_266 rfl hin rfl (ty := (.array (.array .int))) rfl rfl rfl (Nat.le_of_ble_eq_true rfl) dX3_init_22 (fun H locs Z => ?_)
  refine lv_aload_n F.1 F.2.1 dX3_init_25 rfl (lv_at hl 0 rfl) ?_
  refine lv_bipush (v := 6) F.1 F.2.1 dX3_init_26 (by decide) ?_
  refine ic_newi (N := 6) F E Z mw_498 (by decide) (by decide) (Nat.le_of_ble_eq_true rfl) (Nat.le_of_ble_eq_true rfl) (Nat.le_of_ble_eq_true rfl) dX3_init_28 (fun H Z => ?_)
  refine ic_putF (T := TX3) (N := 5) F E Z (i := 1) (fs := [.ref (bs + 2), .int 0, .ref (bs + 3), .null, .int 0]) (by decide) rfl rfl in_X3 tyX3 tyX3_ok nmX3 3 (by decide) mw_268 rfl hin rfl (ty := (.array .int)) rfl rfl rfl (Nat.le_of_ble_eq_true rfl) dX3_init_30 (fun H locs Z => ?_)
  refine lv_iconst (v := 0) F.1 F.2.1 dX3_init_33 (by decide) ?_
  refine lv_istore_n (lv' := [(1, .int 0), (0, .ref (bs + 1))]) F.1 F.2.1 dX3_init_34 rfl hl (by decide) rfl (fun ls hl => ?_)
  have Z : ig_GZ D bs s H locs 13 (ig_gX3_a kk bs g) := Z
  have Z := Z.congr (g' := ig_gX3_l kk bs g 0) (fun q hq => by
    unfold ig_gX3_l
    by_cases h2 : q = 2
    · rw [if_pos h2, h2]
      exact congrArg (ig_ra (kk 3) 8) (funext fun k => (if_neg (Nat.not_lt_zero k)).symm)
    · rw [if_neg h2, if_neg (by omega)])
  exact wm_X3_init F E hAO hr hk 8 0 _ _ _ rfl Z hl
def ig_gX5_i (kk : Nat → ClassId) (bs : Nat) (g : Nat → va_E) : Nat → va_E := (ig_gu (ig_gX4_i kk bs (ig_gu (ig_gu (ig_gX0_i kk bs (ig_gu (ig_gu (ig_gX1_i kk bs (ig_gu (ig_gu (ig_gX3_i kk bs (ig_gu g 1 (.inr (3, [.null, .int 0, .null, .null, .int 0])))) 0 (.inr (5, [.ref (bs + 1), .null, .null, .null]))) 21 (.inr (1, [.null])))) 0 (.inr (5, [.ref (bs + 1), .ref (bs + 21), .null, .null]))) 23 (.inr (0, [.null, .null, .int 0, .int 0, .int 0, .int 0, .int 0, .int 0, .long 0])))) 0 (.inr (5, [.ref (bs + 1), .ref (bs + 21), .ref (bs + 23), .null]))) 24 (.inr (4, [.null, .null, .null])))) 0 (.inr (5, [.ref (bs + 1), .ref (bs + 21), .ref (bs + 23), .ref (bs + 24)])))
theorem md_X5_init : ig_md yX5_init 0 := by decide +kernel
set_option maxHeartbeats 4000000 in
set_option maxRecDepth 100000 in
theorem k_X5_init (l : Launch) {D : va_G} {kk : Nat → ClassId} {ad : Nat → Nat} {bs : Nat} {g : Nat → va_E} (hg : g 0 = .inr (5, [.null, .null, .null, .null])) : Met l yX5_init (ig_ws yX5_init cX5_init 1 none) ({ frames := 3, cells := 96, slots := 5690, locals := 61 } : Room) (va_Pc [.ref (bs + 0)] (ig_GW D kk ad bs 1 g)) (ic_Q D kk ad bs 97 (ig_gX5_i kk bs g)) 96 5690 (ig_A bs) := by
  refine Met.ofW (cc := cX5_init) (maxL := 1) (ret := none) (by decide) rfl ?_
  intro p e s m args below meth c s₁ B hml hv
  obtain ⟨rfl, E, hAO, hP⟩ := hv
  have hk := B.notSynchronized
  have hr := B.returns
  have hin : meth.name = "<init>" := (name_of_methodNamed B.named B.method).1
  have F : CallFix p m c cX5_init 1 s _ ig_all RX5 := ⟨B.exec, B.bytes, hml, findClass_of_methodNamed B.named, fun w hw => atoms_spec B.pre w (List.mem_cons_of_mem _ hw)⟩
  have Z : ig_GZ D bs s s.heap [] 1 g := ig_GZ.rf hP
  have hl := lv_entry ([.ref (bs + 0)]) (n := 1) (Nat.le_of_ble_eq_true rfl)
  rw [lg_entry_eq]
  generalize (lg_sl ([.ref (bs + 0)]) ++ List.replicate (1 - (lg_sl ([.ref (bs + 0)])).length) Slot.unset).toArray = ls at hl ⊢
  have hl : lv_has ls 1 [(0, .ref (bs + 0))] := hl
  refine lv_aload_n F.1 F.2.1 dX5_init_0 rfl (lv_at hl 0 rfl) ?_
  refine ic_obj F hl mw_510 mw_496 mw_497 dX5_init_1 (Nat.le_of_ble_eq_true rfl) (Nat.le_of_ble_eq_true rfl) ?_
  refine lv_aload_n F.1 F.2.1 dX5_init_4 rfl (lv_at hl 0 rfl) ?_
  refine ic_new (T := TX3) (N := 5) (ci := 3) (fs := [.null, .int 0, .null, .null, .int 0]) F E Z in_X3 tyX3 tyX3_ok mw_511 mw_512 mw_12 rfl (by decide +kernel) (Nat.le_of_ble_eq_true rfl) (Nat.le_of_ble_eq_true rfl) dX5_init_5 (fun H Z => ?_)
  refine lv_dup F.1 F.2.1 dX5_init_8 rfl ?_
  have hM := k_X3_init l (D := D) (kk := kk) (ad := ad) (bs := bs) (g := (ig_gu g 1 (.inr (3, [.null, .int 0, .null, .null, .int 0])))) rfl
  refine ic_callv E Z (ic_runI (As := []) (rest := [.ref (bs + 1), .ref (bs + 0)]) F E hAO Z hl hM mw_514 mw_12 mw_513 mw_515 rfl md_X3_init rfl ⟨rfl, rfl⟩ ⟨Nat.le_of_ble_eq_true rfl, Nat.le_of_ble_eq_true rfl⟩ (Nat.le_of_ble_eq_true rfl) dX5_init_9 ⟨Nat.le_of_ble_eq_true rfl, Nat.le_of_ble_eq_true rfl⟩) (fun H locs Z => ?_)
  refine ic_putF (T := TX5) (N := 4) F E Z (i := 0) (fs := [.null, .null, .null, .null]) (by decide) hg rfl in_X5 tyX5 tyX5_ok nmX5 0 (by decide) mw_6 rfl hin rfl (ty := (.object "Intergreen$Plan")) rfl rfl rfl (Nat.le_of_ble_eq_true rfl) dX5_init_12 (fun H locs Z => ?_)
  refine lv_aload_n F.1 F.2.1 dX5_init_15 rfl (lv_at hl 0 rfl) ?_
  refine ic_new (T := TX1) (N := 1) (ci := 1) (fs := [.null]) F E Z in_X1 tyX1 tyX1_ok mw_516 mw_517 mw_83 rfl (by decide +kernel) (Nat.le_of_ble_eq_true rfl) (Nat.le_of_ble_eq_true rfl) dX5_init_16 (fun H Z => ?_)
  refine lv_dup F.1 F.2.1 dX5_init_19 rfl ?_
  have hM := k_X1_init l (D := D) (kk := kk) (ad := ad) (bs := bs) (g := (ig_gu (ig_gu (ig_gX3_i kk bs (ig_gu g 1 (.inr (3, [.null, .int 0, .null, .null, .int 0])))) 0 (.inr (5, [.ref (bs + 1), .null, .null, .null]))) 21 (.inr (1, [.null])))) rfl
  refine ic_callv E Z (ic_runIN (host := "Intergreen") (As := []) (rest := [.ref (bs + 21), .ref (bs + 0)]) F E hAO Z hl hM mw_518 mw_83 (by decide +kernel) mw_519 rfl md_X1_init rfl ⟨rfl, rfl⟩ ⟨Nat.le_of_ble_eq_true rfl, Nat.le_of_ble_eq_true rfl⟩ (Nat.le_of_ble_eq_true rfl) dX5_init_20 ⟨Nat.le_of_ble_eq_true rfl, Nat.le_of_ble_eq_true rfl⟩) (fun H locs Z => ?_)
  refine ic_putF (T := TX5) (N := 4) F E Z (i := 0) (fs := [.ref (bs + 1), .null, .null, .null]) (by decide) rfl rfl in_X5 tyX5 tyX5_ok nmX5 1 (by decide) mw_78 rfl hin rfl (ty := (.object "Intergreen$Log")) rfl rfl rfl (Nat.le_of_ble_eq_true rfl) dX5_init_23 (fun H locs Z => ?_)
  refine lv_aload_n F.1 F.2.1 dX5_init_26 rfl (lv_at hl 0 rfl) ?_
  refine ic_new (T := TX0) (N := 9) (ci := 0) (fs := [.null, .null, .int 0, .int 0, .int 0, .int 0, .int 0, .int 0, .long 0]) F E Z in_X0 tyX0 tyX0_ok mw_520 mw_521 mw_42 rfl (by decide +kernel) (Nat.le_of_ble_eq_true rfl) (Nat.le_of_ble_eq_true rfl) dX5_init_27 (fun H Z => ?_)
  refine lv_dup F.1 F.2.1 dX5_init_30 rfl ?_
  refine lv_aload_n F.1 F.2.1 dX5_init_31 rfl (lv_at hl 0 rfl) ?_
  refine ic_get (T := TX5) (N := 4) F E Z (i := 0) (fs := [.ref (bs + 1), .ref (bs + 21), .null, .null]) (by decide) rfl rfl in_X5 0 (by decide) mw_6 rfl dX5_init_32 ?_
  refine lv_aload_n F.1 F.2.1 dX5_init_35 rfl (lv_at hl 0 rfl) ?_
  refine ic_get (T := TX5) (N := 4) F E Z (i := 0) (fs := [.ref (bs + 1), .ref (bs + 21), .null, .null]) (by decide) rfl rfl in_X5 1 (by decide) mw_78 rfl dX5_init_36 ?_
  have hM := k_X0_init l (D := D) (kk := kk) (ad := ad) (bs := bs) (g := (ig_gu (ig_gu (ig_gX1_i kk bs (ig_gu (ig_gu (ig_gX3_i kk bs (ig_gu g 1 (.inr (3, [.null, .int 0, .null, .null, .int 0])))) 0 (.inr (5, [.ref (bs + 1), .null, .null, .null]))) 21 (.inr (1, [.null])))) 0 (.inr (5, [.ref (bs + 1), .ref (bs + 21), .null, .null]))) 23 (.inr (0, [.null, .null, .int 0, .int 0, .int 0, .int 0, .int 0, .int 0, .long 0])))) rfl
  refine ic_callv E Z (ic_runI (As := [.ref (bs + 1), .ref (bs + 21)]) (rest := [.ref (bs + 23), .ref (bs + 0)]) F E hAO Z hl hM mw_523 mw_42 mw_522 mw_524 rfl md_X0_init rfl ⟨rfl, rfl⟩ ⟨Nat.le_of_ble_eq_true rfl, Nat.le_of_ble_eq_true rfl⟩ (Nat.le_of_ble_eq_true rfl) dX5_init_39 ⟨Nat.le_of_ble_eq_true rfl, Nat.le_of_ble_eq_true rfl⟩) (fun H locs Z => ?_)
  refine ic_putF (T := TX5) (N := 4) F E Z (i := 0) (fs := [.ref (bs + 1), .ref (bs + 21), .null, .null]) (by decide) rfl rfl in_X5 tyX5 tyX5_ok nmX5 2 (by decide) mw_4 rfl hin rfl (ty := (.object "Intergreen$Lights")) rfl rfl rfl (Nat.le_of_ble_eq_true rfl) dX5_init_42 (fun H locs Z => ?_)
  refine lv_aload_n F.1 F.2.1 dX5_init_45 rfl (lv_at hl 0 rfl) ?_
  refine ic_new (T := TX4) (N := 3) (ci := 4) (fs := [.null, .null, .null]) F E Z in_X4 tyX4 tyX4_ok mw_525 mw_526 mw_106 rfl (by decide +kernel) (Nat.le_of_ble_eq_true rfl) (Nat.le_of_ble_eq_true rfl) dX5_init_46 (fun H Z => ?_)
  refine lv_dup F.1 F.2.1 dX5_init_49 rfl ?_
  refine lv_aload_n F.1 F.2.1 dX5_init_50 rfl (lv_at hl 0 rfl) ?_
  refine ic_get (T := TX5) (N := 4) F E Z (i := 0) (fs := [.ref (bs + 1), .ref (bs + 21), .ref (bs + 23), .null]) (by decide) rfl rfl in_X5 0 (by decide) mw_6 rfl dX5_init_51 ?_
  have hM := k_X4_init l (D := D) (kk := kk) (ad := ad) (bs := bs) (g := (ig_gu (ig_gu (ig_gX0_i kk bs (ig_gu (ig_gu (ig_gX1_i kk bs (ig_gu (ig_gu (ig_gX3_i kk bs (ig_gu g 1 (.inr (3, [.null, .int 0, .null, .null, .int 0])))) 0 (.inr (5, [.ref (bs + 1), .null, .null, .null]))) 21 (.inr (1, [.null])))) 0 (.inr (5, [.ref (bs + 1), .ref (bs + 21), .null, .null]))) 23 (.inr (0, [.null, .null, .int 0, .int 0, .int 0, .int 0, .int 0, .int 0, .long 0])))) 0 (.inr (5, [.ref (bs + 1), .ref (bs + 21), .ref (bs + 23), .null]))) 24 (.inr (4, [.null, .null, .null])))) rfl
  refine ic_callv E Z (ic_runI (As := [.ref (bs + 1)]) (rest := [.ref (bs + 24), .ref (bs + 0)]) F E hAO Z hl hM mw_528 mw_106 mw_527 mw_529 rfl md_X4_init rfl ⟨rfl, rfl⟩ ⟨Nat.le_of_ble_eq_true rfl, Nat.le_of_ble_eq_true rfl⟩ (Nat.le_of_ble_eq_true rfl) dX5_init_54 ⟨Nat.le_of_ble_eq_true rfl, Nat.le_of_ble_eq_true rfl⟩) (fun H locs Z => ?_)
  refine ic_putF (T := TX5) (N := 4) F E Z (i := 0) (fs := [.ref (bs + 1), .ref (bs + 21), .ref (bs + 23), .null]) (by decide) rfl rfl in_X5 tyX5 tyX5_ok nmX5 3 (by decide) mw_101 rfl hin rfl (ty := (.object "Intergreen$Rounds")) rfl rfl rfl (Nat.le_of_ble_eq_true rfl) dX5_init_57 (fun H locs Z => ?_)
  exact ic_vret F E hAO Z hr hk dX5_init_60
