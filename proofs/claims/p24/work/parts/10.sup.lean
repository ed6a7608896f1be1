/-! ===== small rows that the printed walks use: indices, switches, throws ===== -/
theorem ig_lt {j : Int32} {n : Nat} (h : vp_in j n) : j.toNatClampNeg < n := Nat.not_le.mp fun q => h (Or.inr q)
theorem ig_swout (x : Int32) (lo hi : Nat) {lo' hi' : Int} (h1 : lo' = lo) (h2 : hi' = hi) (h : ∀ k : Nat, lo ≤ k → k ≤ hi → ¬ x = nI k) : x.toInt < lo' ∨ hi' < x.toInt := by
  subst h1; subst h2
  by_cases h0 : x < 0
  · have : x.toInt < 0 := by have := Int32.lt_iff_toInt_lt.mp h0; simpa using this
    left; omega
  · obtain ⟨j, hj, rfl⟩ := nI_of h0
    rw [nI_toInt hj]
    by_cases h3 : lo ≤ j
    · by_cases h4 : j ≤ hi
      · exact absurd rfl (h j h3 h4)
      · right; omega
    · left; omega
def ig_en : Nat → String
  | 0 => "java/lang/IllegalArgumentException"
  | 1 => "java/lang/IllegalStateException"
  | _ => "java/lang/IndexOutOfBoundsException"
section IGX
variable {p : Program} {l : Launch} {e : Env} {R : Room} {s : State} {m : MethodId} {args : Array Value} {below : List Frame} {meth : Method} {c : Code} {H : Heap} {locs : List Loc} {cells slots : Nat} {Q : State → Prop}
variable {D : va_G} {kk : Nat → ClassId} {ad : Nat → Nat} {bs : Nat} {a b : ig_M} {la lb lo : Int64}
variable {cc : ByteArray} {nL : Nat} {own : String} {pc : Nat} {ls : Array Slot} {rest : List Value}
abbrev ig_XC (D : va_G) (kk : Nat → ClassId) (ad : Nat → Nat) (bs : Nat) (a : ig_M) (la : Int64) (b : ig_M) (lb lo : Int64) (px : Nat → Prop) : String → State → State → Prop := vx_X px (fun (E : String) (u : Nat) (t : State) => E = ig_en u ∧ ig_P D kk ad a la b lb lo t.heap) (ig_A bs)
def ig_nB : List Cond := ig_nd.map Cond.declares ++ ig_nc.map (fun q => Cond.castable q q)
theorem ig_nB_ok (E : ig_E D kk ad bs s) : ∀ w ∈ ig_nB, w.before args s = true := by
  intro w hw
  rcases List.mem_append.mp hw with h | h
  · obtain ⟨x, hx, rfl⟩ := List.mem_map.mp h
    exact va_Nw.use rfl (E.2.2.2.1.2.1 x hx)
  · obtain ⟨x, hx, rfl⟩ := List.mem_map.mp h
    exact va_Nw.use rfl (E.2.2.2.1.2.2.1 x hx)
abbrev ig_nms : List String := ["java/lang/RuntimeException", "java/lang/Exception"]
theorem ig_at0s : ∀ w ∈ (vx_atS RX5 49 (ig_en 0) ig_nms).filter goodWord, w ∈ ig_all := by decide +kernel
theorem ig_at1s : ∀ w ∈ (vx_atS RX5 64 (ig_en 1) ig_nms).filter goodWord, w ∈ ig_all := by decide +kernel
theorem ig_at2s : ∀ w ∈ (vx_atS RX5 172 (ig_en 2) ig_nms).filter goodWord, w ∈ ig_all := by decide +kernel
theorem ig_at0 (E : ig_E D kk ad bs s) (F : CallFix p m c cc nL s args ig_all RX5) : ∀ w ∈ vx_atS RX5 49 (ig_en 0) ig_nms, w.before args s = true := vx_hat (fun w hw => F.2.2.2.2 w (ig_at0s w hw)) (B := ig_nB) (by decide +kernel) (ig_nB_ok E)
theorem ig_at1 (E : ig_E D kk ad bs s) (F : CallFix p m c cc nL s args ig_all RX5) : ∀ w ∈ vx_atS RX5 64 (ig_en 1) ig_nms, w.before args s = true := vx_hat (fun w hw => F.2.2.2.2 w (ig_at1s w hw)) (B := ig_nB) (by decide +kernel) (ig_nB_ok E)
theorem ig_at2 (E : ig_E D kk ad bs s) (F : CallFix p m c cc nL s args ig_all RX5) : ∀ w ∈ vx_atS RX5 172 (ig_en 2) ig_nms, w.before args s = true := vx_hat (fun w hw => F.2.2.2.2 w (ig_at2s w hw)) (B := ig_nB) (by decide +kernel) (ig_nB_ok E)
theorem ig_gd0 : ∀ w ∈ Cond.classLink RX5 45 (ig_en 0) :: Cond.initialized (ig_en 0) :: vx_atS RX5 49 (ig_en 0) ig_nms, vx_ot w = true := by decide +kernel
theorem ig_gd1 : ∀ w ∈ Cond.classLink RX5 60 (ig_en 1) :: Cond.initialized (ig_en 1) :: vx_atS RX5 64 (ig_en 1) ig_nms, vx_ot w = true := by decide +kernel
theorem ig_gd2 : ∀ w ∈ Cond.classLink RX5 168 (ig_en 2) :: Cond.initialized (ig_en 2) :: vx_atS RX5 172 (ig_en 2) ig_nms, vx_ot w = true := by decide +kernel
theorem ig_throw (u : Nat) {mc ms : Nat} {Qc : Array Value → State → Outcome → State → Prop} {px : Nat → Prop} (F : CallFix p m c cc nL s args ig_all own) (E : ig_E D kk ad bs s) (Z : ig_Z D kk ad bs s H locs a la b lb lo) {lv : List (Nat × Value)} (hl : lv_has ls nL lv) (hlt : l.stackTraces = false) (hk : meth.locks = false) (hout : ∀ x ∈ c.exceptionTable.toList, False) (hfit : Bundle.fit (ig_en u) = true) (hf : px u) {ik is ic sa : Nat} {text : String}
    (h1 : Cond.classLink own ik (ig_en u) ∈ ig_all) (h2 : Cond.initialized (ig_en u) ∈ ig_all) (hat : ∀ w ∈ vx_atS own ic (ig_en u) ig_nms, w.before args s = true) (hgd : ∀ w ∈ Cond.classLink own ik (ig_en u) :: Cond.initialized (ig_en u) :: vx_atS own ic (ig_en u) ig_nms, vx_ot w = true) (hsa : vk_R own is text sa s)
    (d0 : decode cc pc = .ok (.new ik, 3)) (d3 : decode cc (pc + 3) = .ok (.dup, 1)) (d4 : decode cc (pc + 4) = .ok (.ldc is, 2)) (d6 : decode cc (pc + 6) = .ok (.invokespecial ic, 3)) (d9 : decode cc (pc + 9) = .ok (.athrow, 1))
    (hRf : 6 ≤ R.frames) (hRl : (rest.map fun v => v.category).sum + 82 ≤ R.locals) (hRc : cells + 1 ≤ R.cells) (hRs : slots + 6 ≤ R.slots) (hc : cells + 1 ≤ mc) (hs : slots + 6 ≤ ms) :
    W p l e R s m args below meth c H locs cells slots (vx_MQ below Qc (ig_XC D kk ad bs a la b lb lo px) args s mc ms (ig_A bs)) (F0 m pc ls rest) := by
  obtain ⟨hx, hb, hml, hown, hts⟩ := F
  refine vx_throwS (A := ig_A bs) hx hb hlt hown hfit (names := ig_nms) (by decide) (hts _ h1) (hts _ h2) hsa hat hgd E.2.2.2.2.1 E.2.2.2.2.2 Z.2 (hl.1.trans hml.symm) d0 d3 d4 d6 d9 (fun x hx => (hout x hx).elim) (Nat.lt_of_lt_of_le (by decide) hRf) hRl hRc hRs hk (fun t _ hsz hq => ?_) Z.2.2.2 hc hs
  refine ⟨u, hf, ⟨rfl, fun i hi => (Z.1 i hi).kept (hq _ (Z.1 i hi).lt)⟩, ?_, fun q h1 h2 => ?_⟩
  · exact Nat.le_trans Z.2.1 hsz
  · rw [hq q (Nat.lt_of_lt_of_le h1 Z.2.1)]
    exact Z.2.2.1 q h1 h2
theorem ig_callvX {mc ms mc0 ms0 : Nat} {Qc : Array Value → State → Outcome → State → Prop} {px pxc : Nat → Prop} {post : Prop} {st0 : List Value} {av : Array Value} (E : ig_E D kk ad bs s) (Z : ig_Z D kk ad bs s H locs a la b lb lo) (hk : meth.locks = false) (hout : ∀ x ∈ c.exceptionTable.toList, False)
    (hr : vx_Run p l e R s m args below meth c H locs cells slots mc0 ms0 (F0 m pc ls st0) rest (va_Qv (fun _ : Unit => post) (fun _ t => ig_Wd D kk ad bs a la b lb lo t) (ig_A bs) av) (ig_XC D kk ad bs a la b lb lo pxc) (ig_A bs)) (hpx : ∀ u, pxc u → px u) (hc : cells + mc0 ≤ mc) (hs : slots + ms0 ≤ ms)
    (kx : ∀ (u : Unit) (H1 : Heap) (locs1 : List Loc), post → ig_Z D kk ad bs s H1 locs1 a la b lb lo → W p l e R s m args below meth c H1 locs1 (cells + mc0) (slots + ms0) (vx_MQ below Qc (ig_XC D kk ad bs a la b lb lo px) args s mc ms (ig_A bs)) (F0 m (pc + 3) ls rest)) : W p l e R s m args below meth c H locs cells slots (vx_MQ below Qc (ig_XC D kk ad bs a la b lb lo px) args s mc ms (ig_A bs)) (F0 m pc ls st0) := by
  refine vx_callv hr Z.2 (fun _ _ h => h) (fun _ h => h) (fun _ _ h => h) (fun En ce q9 u t H1 locs1 ht hv hp hB _ _ hS hce hcv hcl => ?_) (fun u t H1 locs1 ht _ hp hB _ _ hS => kx u H1 locs1 hp ⟨by rw [← ht]; exact hB.2, hS⟩)
  refine vx_out (fun x hx => (hout x hx).elim) hk hce hcv hcl (fun t2 ht2 hv2 => ⟨u, hpx u hp, ⟨hB.1, by rw [ht2, ← ht]; exact hB.2⟩, ?_⟩) hS.2.2 hc hs
  exact hS.F ht2
variable {y : MethodName} {bytes : ByteArray} {maxL mc ms n index : Nat} {ret : Option FieldType} {rm : Room} {Qc : Array Value → State → Outcome → State → Prop} {XC : String → State → State → Prop} {As : List Value}
theorem ig_runVX (F : CallFix p m c cc nL s args ig_all own) (E : ig_E D kk ad bs s) (Z : ig_Z D kk ad bs s H locs a la b lb lo) {lv : List (Nat × Value)} (hl : lv_has ls nL lv) {i ci : Nat} {q : vw_C} {fs : List Value} (G : GoodIn ig_all (wsV own index q.1 y (ig_ws y bytes maxL ret))) (hM : vx_Met l y (ig_ws y bytes maxL ret) rm (va_Pc (.ref (ad i) :: As) (ig_Wd D kk ad bs a la b lb lo)) Qc XC mc ms (ig_A bs)) (hi : i < 194) (he : ig_c kk ad la lb lo (ig_mm a b i) i = .inr (ci, fs)) (hc : vwCl[ci]? = some q)
    (hcls : y.cls = q.1) {n0 : Nat} (hd : ig_md y n0) (hn : As.length = n0) (hrm : rm.cells = mc ∧ rm.slots = ms) (hR : rm.frames + 1 ≤ R.frames ∧ 8 + (maxL + 11) + rm.locals ≤ R.locals) (hrest : (rest.map fun v => v.category).sum ≤ 8) (hdg : decode cc pc = .ok (.invokevirtual index, 3)) (hf : cells + mc ≤ R.cells ∧ slots + ms ≤ R.slots) :
    vx_Run p l e R s m args below meth c H locs cells slots mc ms (F0 m pc ls (As.reverse ++ .ref (ad i) :: rest)) rest (Qc (Value.ref (ad i) :: As).toArray) XC (ig_A bs) :=
  vx_runV F hM (cwV n0 F.2.2.2.2 G rfl hrm.1 hrm.2 ⟨hcls, hd⟩ hR) (ig_preV E Z hi he hc) rfl hn hl.1 rfl (lv_room hrest) hdg hf
end IGX
