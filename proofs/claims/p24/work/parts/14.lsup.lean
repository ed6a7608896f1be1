/-! ===== the second object first: the same world, its cells renamed ===== -/
def ig_sw (i : Nat) : Nat := (i + 97) % 194
def ig_sa (ad : Nat → Nat) : Nat → Nat := fun i => ad (ig_sw i)
theorem ig_sw_lo {i : Nat} (h : i < 97) : ig_sw i = 97 + i := by unfold ig_sw; omega
theorem ig_sw_hi {i : Nat} (h : 97 ≤ i) (h2 : i < 194) : ig_sw i = i - 97 := by unfold ig_sw; omega
theorem ig_sw_lt {i : Nat} (h : i < 194) : ig_sw i < 194 := by unfold ig_sw; omega
theorem ig_sw_sw {i : Nat} (h : i < 194) : ig_sw (ig_sw i) = i := by unfold ig_sw; omega
theorem ig_rf_congr {ad ad' : Nat → Nat} {n b : Nat} (h : ∀ q : Nat, q < 97 → ad q = ad' q) (hb : b + n ≤ 97) : ig_rf ad n b = ig_rf ad' n b := by
  funext k
  unfold ig_rf
  by_cases c : k < n
  · rw [if_pos c, if_pos c, h (b + k) (by omega)]
  · rw [if_neg c, if_neg c]
theorem ig_c1_congr (kk : Nat → ClassId) {ad ad' : Nat → Nat} (la : Int64) (r : Nat → Int32) (h : ∀ q : Nat, q < 97 → ad q = ad' q) (i : Nat) : ig_c1 kk ad la r i = ig_c1 kk ad' la r i := by
  unfold ig_c1 ig_f5 ig_f3 ig_f1 ig_f0 ig_f4
  rw [ig_rf_congr (n := 8) (b := 3) h (by omega), ig_rf_congr (n := 8) (b := 12) h (by omega), ig_rf_congr (n := 6) (b := 26) h (by omega), ig_rf_congr (n := 64) (b := 33) h (by omega), h 1 (by omega), h 2 (by omega), h 11 (by omega), h 20 (by omega), h 21 (by omega), h 22 (by omega), h 23 (by omega), h 24 (by omega), h 25 (by omega), h 32 (by omega)]
theorem ig_P_swap {D : va_G} {kk : Nat → ClassId} {ad ad' : Nat → Nat} {a b : ig_M} {la lb lo : Int64} {H : Heap} (hs : ∀ i : Nat, i < 194 → ad' i = ad (ig_sw i)) (h : ig_P D kk ad a la b lb lo H) : ig_P D kk ad' b lb a la lo H := by
  intro i hi
  have h1 := h (ig_sw i) (ig_sw_lt hi)
  have e : ig_c kk ad' lb la lo (ig_mm b a i) i = ig_c kk ad la lb lo (ig_mm a b (ig_sw i)) (ig_sw i) := by
    by_cases c : i < 97
    · rw [ig_sw_lo c]
      unfold ig_c ig_mm
      rw [if_pos c, if_pos c, if_neg (by omega), if_neg (by omega), show 97 + i - 97 = i by omega]
      exact ig_c1_congr kk lb (b i) (fun q hq => by rw [hs q (by omega), ig_sw_lo hq]) i
    · rw [ig_sw_hi (by omega) hi]
      unfold ig_c ig_mm
      rw [if_neg c, if_neg c, if_pos (by omega), if_pos (by omega)]
      exact ig_c1_congr kk la (a (i - 97)) (fun q hq => by
        show ad' (97 + q) = ad q
        rw [hs (97 + q) (by omega), ig_sw_hi (by omega) (by omega)]
        congr 1
        omega) (i - 97)
  rw [hs i hi, e]
  exact h1
section IGSW
variable {D : va_G} {kk : Nat → ClassId} {ad : Nat → Nat} {bs : Nat} {a b : ig_M} {la lb lo : Int64} {s : State} {H : Heap} {locs : List Loc}
theorem ig_Es (E : ig_E D kk ad bs s) : ig_E D kk (ig_sa ad) bs s := by
  refine ⟨E.1, ⟨fun i j hi hj h => ?_, fun i hi => E.2.1.2 _ (ig_sw_lt hi)⟩, E.2.2⟩
  have h1 := E.2.1.1 _ _ (ig_sw_lt hi) (ig_sw_lt hj) h
  rw [← ig_sw_sw hi, ← ig_sw_sw hj, h1]
theorem ig_Zs (Z : ig_Z D kk ad bs s H locs a la b lb lo) : ig_Z D kk (ig_sa ad) bs s H locs b lb a la lo := ⟨ig_P_swap (fun _ _ => rfl) Z.1, Z.2⟩
theorem ig_Zb (Z : ig_Z D kk (ig_sa ad) bs s H locs b lb a la lo) : ig_Z D kk ad bs s H locs a la b lb lo := ⟨ig_P_swap (fun i hi => by unfold ig_sa; rw [ig_sw_sw hi]) Z.1, Z.2⟩
theorem ig_s0 (ad : Nat → Nat) : ig_sa ad 0 = ad 97 := rfl
end IGSW
/-! ===== rows for the law: its own row, calls that are caught, draws ===== -/
section IGW
variable {p : Program} {l : Launch} {e : Env} {R : Room} {s : State} {m : MethodId} {args : Array Value} {below : List Frame} {meth : Method} {c : Code} {H : Heap} {locs : List Loc} {cells slots : Nat} {Q : State → Prop}
variable {D : va_G} {kk : Nat → ClassId} {ad : Nat → Nat} {bs : Nat} {a b : ig_M} {la lb lo : Int64}
variable {cc : ByteArray} {nL : Nat} {own : String} {pc : Nat} {ls : Array Slot} {rest : List Value}
theorem ig_Fd (F : CallFix p m c cc nL s args ig_all own) (d : Drawn) : CallFix p m c cc nL (s.setDrawn d) args ig_all own := ⟨F.1, F.2.1, F.2.2.1, F.2.2.2.1, dr_words F.2.2.2.2 d⟩
theorem ig_Ed (E : ig_E D kk ad bs s) (d : Drawn) : ig_E D kk ad bs (s.setDrawn d) := E.same rfl rfl
theorem ig_Zd (Z : ig_Z D kk ad bs s H locs a la b lb lo) (d : Drawn) : ig_Z D kk ad bs (s.setDrawn d) H locs a la b lb lo := Z
theorem ig_hXd {b0 Ln : Nat} {xs : Nat → Int32} (h : va_X b0 Ln xs s s.heap) (d : Drawn) : va_X b0 Ln xs (s.setDrawn d) (s.setDrawn d).heap := va_X.moved (Vm.Alike.refl _) h
theorem ig_roomC {x : Nat} (h : x ≤ 600104) : x ≤ room_1.cells := h
theorem ig_roomS {x : Nat} (h : x ≤ 7301314) : x ≤ room_1.slots := h
/-- a call that may throw, in a method that catches -/
theorem ig_callXi {S : Type} {post : Int32 → S → Prop} {fa fb : S → ig_M} {fla flb flo : S → Int64} {mc0 ms0 : Nat} {pxc : Nat → Prop} {st0 : List Value} {av : Array Value} (E : ig_E D kk ad bs s) (Z : ig_Z D kk ad bs s H locs a la b lb lo)
    (hr : vx_Run p l e R s m args below meth c H locs cells slots mc0 ms0 (F0 m pc ls st0) rest (va_Qi post (fun u t => ig_Wd D kk ad bs (fa u) (fla u) (fb u) (flb u) (flo u) t) (ig_A bs) av) (ig_XC D kk ad bs a la b lb lo pxc) (ig_A bs))
    (kx : ∀ (u : Nat) (q9 : Addr) (ce : Cell) (H1 : Heap) (locs1 : List Loc), pxc u → ig_Z D kk ad bs s H1 locs1 a la b lb lo → H1[q9]? = some ce → ce.vm = .none → s.vm.findClass (ig_en u) = some ce.cls → vx_W p l e R s m args below meth c H1 locs1 (cells + mc0) (slots + ms0) Q (F0 m pc ls rest) q9)
    (kx2 : ∀ (r : Int32) (u : S) (H1 : Heap) (locs1 : List Loc), post r u → ig_Z D kk ad bs s H1 locs1 (fa u) (fla u) (fb u) (flb u) (flo u) → W p l e R s m args below meth c H1 locs1 (cells + mc0) (slots + ms0) Q (F0 m (pc + 3) ls (.int r :: rest))) : W p l e R s m args below meth c H locs cells slots Q (F0 m pc ls st0) := by
  refine vx_calli hr Z.2 (fun _ _ h => h) (fun _ h => h) (fun _ _ h => h) (fun En ce q9 u t H1 locs1 ht hv hp hB _ _ hS hce hcv hcl => ?_) (fun r u t H1 locs1 ht _ hp hB _ _ hS => kx2 r u H1 locs1 hp ⟨by rw [← ht]; exact hB.2, hS⟩)
  obtain ⟨rfl, hB⟩ := hB
  exact kx u q9 ce H1 locs1 hp ⟨by rw [← ht]; exact hB, hS⟩ hce hcv hcl
theorem ig_callXv {S : Type} {post : S → Prop} {fa fb : S → ig_M} {fla flb flo : S → Int64} {mc0 ms0 : Nat} {pxc : Nat → Prop} {st0 : List Value} {av : Array Value} (E : ig_E D kk ad bs s) (Z : ig_Z D kk ad bs s H locs a la b lb lo)
    (hr : vx_Run p l e R s m args below meth c H locs cells slots mc0 ms0 (F0 m pc ls st0) rest (va_Qv post (fun u t => ig_Wd D kk ad bs (fa u) (fla u) (fb u) (flb u) (flo u) t) (ig_A bs) av) (ig_XC D kk ad bs a la b lb lo pxc) (ig_A bs))
    (kx : ∀ (u : Nat) (q9 : Addr) (ce : Cell) (H1 : Heap) (locs1 : List Loc), pxc u → ig_Z D kk ad bs s H1 locs1 a la b lb lo → H1[q9]? = some ce → ce.vm = .none → s.vm.findClass (ig_en u) = some ce.cls → vx_W p l e R s m args below meth c H1 locs1 (cells + mc0) (slots + ms0) Q (F0 m pc ls rest) q9)
    (kx2 : ∀ (u : S) (H1 : Heap) (locs1 : List Loc), post u → ig_Z D kk ad bs s H1 locs1 (fa u) (fla u) (fb u) (flb u) (flo u) → W p l e R s m args below meth c H1 locs1 (cells + mc0) (slots + ms0) Q (F0 m (pc + 3) ls rest)) : W p l e R s m args below meth c H locs cells slots Q (F0 m pc ls st0) := by
  refine vx_callv hr Z.2 (fun _ _ h => h) (fun _ h => h) (fun _ _ h => h) (fun En ce q9 u t H1 locs1 ht hv hp hB _ _ hS hce hcv hcl => ?_) (fun u t H1 locs1 ht _ hp hB _ _ hS => kx2 u H1 locs1 hp ⟨by rw [← ht]; exact hB.2, hS⟩)
  obtain ⟨rfl, hB⟩ := hB
  exact kx u q9 ce H1 locs1 hp ⟨by rw [← ht]; exact hB, hS⟩ hce hcv hcl
/-- caught by the table's row x -/
theorem ig_catch (F : CallFix p m c cc nL s args ig_all own) (E : ig_E D kk ad bs s) {hh : List (Nat × Nat × Nat × Nat)} (ht : c.exceptionTable.toList = tableOf hh) (u : Nat) (pre suf : List ExceptionTableEntry) (x : ExceptionTableEntry) (hsplit : tableOf hh = pre ++ x :: suf) (hu : ig_en u ∈ ig_nc)
    (hpass : ∀ z ∈ pre, z.catchType ≠ 0 ∧ ∃ nm : String, Cond.classLink own z.catchType nm ∈ ig_all ∧ (ig_en u, nm) ∈ ig_nn) (hx : covers x pc = true) (h0 : x.catchType ≠ 0) (hlink : Cond.classLink own x.catchType (ig_en u) ∈ ig_all)
    {q : Addr} {ce : Cell} (hce : H[q]? = some ce) (hcv : ce.vm = .none) (hcl : s.vm.findClass (ig_en u) = some ce.cls) (kx : W p l e R s m args below meth c H locs cells slots Q (F0 m x.handlerPc ls [.ref q])) : vx_W p l e R s m args below meth c H locs cells slots Q (F0 m pc ls rest) q :=
  vx_catch F.2.2.2.1 pre x suf (ht.trans hsplit) (fun z hz => Or.inr ⟨(hpass z hz).1, by
    obtain ⟨nm, h1, h2⟩ := (hpass z hz).2
    exact ⟨nm, F.2.2.2.2 _ h1, E.2.2.2.1.2.2.2.1 _ h2⟩⟩) hx h0 (F.2.2.2.2 _ hlink) (va_Nw.use rfl (E.2.2.2.1.2.2.1 _ hu)) hce hcv hcl kx
theorem ig_ofWH {y : MethodName} {ws ws' : List Cond} {rm : Room} {Pc : Array Value → State → Prop} {Qc : Array Value → State → Outcome → State → Prop} {mc ms : Nat} {free : Addr → Prop} {maxL : Nat} {ret : Option FieldType} {hh : List (Nat × Nat × Nat × Nat)}
    (hy : plainName y.cls = true) (hw : ws = Cond.codeWith y cc maxL ret hh :: ws')
    (body : ∀ p e s m args below meth c s₁, BodyLoose p l y (headSpec ws rm) cc maxL ret e s m args below meth c s₁ → c.maxLocals = maxL → c.exceptionTable.toList = tableOf hh → Pc args s →
      W p l e (headSpec ws rm).room s m args below meth c s.heap [] 0 0 (MQ below Qc args s mc ms free) (entryFrame m args maxL)) : Met l y ws rm Pc Qc mc ms free := by
  refine MetFree.of_bodyS (code := cc) (maxLocals := maxL) (ret := ret) hy ?_ ?_
  · intro args s m h hn
    obtain ⟨m9, meth, c, hn9, h1, h2, h3, h4, -, h5, h6, -⟩ := Cond.codeWith_spec (atoms_spec (ws := ws) h _ (by rw [hw]; exact List.mem_cons_self))
    cases hn.symm.trans hn9
    exact ⟨meth, c, h1, h2, h3, h4, h5, h6⟩
  · intro p e s m args below meth c s₁ B hml hP _
    have hh0 : s₁.heap = s.heap := by rw [B.state]; rfl
    have htab := vx_table (x := y) B (atoms_spec (ws := ws) B.pre _ (by rw [hw]; exact List.mem_cons_self))
    obtain ⟨t, a1, o, b1, b2, b3⟩ := body p e s m args below meth c s₁ B hml htab hP s₁ hh0 (Stand.of_body B)
    exact ⟨t, o, a1, b1, b2, b3⟩
def ig_wsW (y : MethodName) (cc : ByteArray) (n : Nat) (ret : Option FieldType) (hh : List (Nat × Nat × Nat × Nat)) : List Cond := .codeWith y cc n ret hh :: ig_all
theorem ig_LW {idx n : Nat} {y : MethodName} {ret : Option FieldType} {hh : List (Nat × Nat × Nat × Nat)} (h1 : Cond.methodLink own idx y ∈ ig_all) (h2 : Cond.static y ∈ ig_all) (h4 : Cond.initialized y.cls ∈ ig_all) (h5 : Cond.codeWith y cc n ret hh ∈ ig_all) : GoodIn ig_all (va_wsS own idx y (ig_wsW y cc n ret hh)) := by
  intro w hw
  rcases List.mem_append.mp hw with h | h
  · rcases List.mem_cons.mp h with rfl | h
    · exact ig_good h1
    rcases List.mem_cons.mp h with rfl | h
    · exact ig_good h2
    rcases List.mem_cons.mp h with rfl | h
    · exact ig_good h4
    cases h
  · rcases List.mem_cons.mp h with rfl | h
    · exact ig_good h5
    · exact ig_good h
variable {y : MethodName} {bytes : ByteArray} {maxL mc ms n index : Nat} {ret : Option FieldType} {rm : Room} {Qc : Array Value → State → Outcome → State → Prop} {As : List Value}
theorem ig_runSW {hh : List (Nat × Nat × Nat × Nat)} (F : CallFix p m c cc nL s args ig_all own) (E : ig_E D kk ad bs s) (Z : ig_Z D kk ad bs s H locs a la b lb lo) {lv : List (Nat × Value)} (hl : lv_has ls nL lv) (G : GoodIn ig_all (va_wsS own index y (ig_wsW y bytes maxL ret hh))) (hM : Met l y (ig_wsW y bytes maxL ret hh) rm (va_Pc As (ig_Wd D kk ad bs a la b lb lo)) Qc mc ms (ig_A bs))
    {n0 : Nat} (hd : ig_md y n0) (hn : As.length = n0) (hrm : rm.cells = mc ∧ rm.slots = ms) (hR : rm.frames + 1 ≤ R.frames ∧ 8 + (maxL + 11) + rm.locals ≤ R.locals) (hrest : (rest.map fun v => v.category).sum ≤ 8) (hdg : decode cc pc = .ok (.invokestatic index, 3)) (hf : cells + mc ≤ R.cells ∧ slots + ms ≤ R.slots) :
    va_Run p l e R s m args below meth c H locs cells slots mc ms (F0 m pc ls (As.reverse ++ rest)) rest (Qc As.toArray) (ig_A bs) :=
  vx_runSW F hM (vx_cwSW n0 F.2.2.2.2 G rfl hrm.1 hrm.2 hd hR) (ig_preS E Z) rfl hn hl.1 rfl (lv_room hrest) hdg hf
/-- a call of a method that draws -/
theorem ig_runVD (F : CallFix p m c cc nL s args ig_all own) (E : ig_E D kk ad bs s) (Z : ig_Z D kk ad bs s H locs a la b lb lo) {lv : List (Nat × Value)} (hl : lv_has ls nL lv) {i ci : Nat} {q : vw_C} {fs : List Value} (G : GoodIn ig_all (wsV own index q.1 y (ig_ws y bytes maxL ret))) (hM : MetD lw_cs l y (ig_ws y bytes maxL ret) rm (va_Pc (.ref (ad i) :: As) (ig_Wd D kk ad bs a la b lb lo)) Qc mc ms (ig_A bs)) (hi : i < 194) (he : ig_c kk ad la lb lo (ig_mm a b i) i = .inr (ci, fs)) (hc : vwCl[ci]? = some q)
    (hcls : y.cls = q.1) {n0 : Nat} (hd : ig_md y n0) (hn : As.length = n0) (hrm : rm.cells = mc ∧ rm.slots = ms) (hR : rm.frames + 1 ≤ R.frames ∧ 8 + (maxL + 11) + rm.locals ≤ R.locals) (hrest : (rest.map fun v => v.category).sum ≤ 8) (hdg : decode cc pc = .ok (.invokevirtual index, 3)) (hf : cells + mc ≤ R.cells ∧ slots + ms ≤ R.slots) :
    va_RunD lw_cs p l e R s m args below meth c H locs cells slots mc ms (F0 m pc ls (As.reverse ++ .ref (ad i) :: rest)) rest (Qc (Value.ref (ad i) :: As).toArray) (ig_A bs) :=
  va_runV_D F hM (cwV n0 F.2.2.2.2 G rfl hrm.1 hrm.2 ⟨hcls, hd⟩ hR) (ig_preV E Z hi he hc) rfl hn hl.1 rfl (lv_room hrest) hdg hf
theorem ig_callfD {S : Type} {post : UInt32 → S → Prop} {fa fb : S → ig_M} {fla flb flo : S → Int64} {st0 : List Value} {mc ms : Nat} {av : Array Value} {d0 : Drawn} (hd0 : s.drawn.sameBut d0 lw_cs) (Z : ig_Z D kk ad bs s H locs a la b lb lo) (hr : va_RunD lw_cs p l e R (s.setDrawn d0) m args below meth c H locs cells slots mc ms (F0 m pc ls st0) rest (va_Qf post (fun u t => ig_Wd D kk ad bs (fa u) (fla u) (fb u) (flb u) (flo u) t) (ig_A bs) av) (ig_A bs))
    (kx : ∀ (r : UInt32) (u : S) (H1 : Heap) (locs1 : List Loc), post r u → ig_Z D kk ad bs s H1 locs1 (fa u) (fla u) (fb u) (flb u) (flo u) → ∀ d' : Drawn, s.drawn.sameBut d' lw_cs → W p l e R (s.setDrawn d') m args below meth c H1 locs1 (cells + mc) (slots + ms) Q (F0 m (pc + 3) ls (.float r :: rest))) : W p l e R (s.setDrawn d0) m args below meth c H locs cells slots Q (F0 m pc ls st0) :=
  va_callfD hd0 hr Z.2 (fun _ _ h => h) (fun _ h => h) (fun r u t H1 locs1 ht _ hp hB _ _ hS d' hd' => kx r u H1 locs1 hp ⟨by rw [← ht]; exact hB.2, hS⟩ d' hd')
theorem ig_runSD (F : CallFix p m c cc nL s args ig_all own) (E : ig_E D kk ad bs s) (Z : ig_Z D kk ad bs s H locs a la b lb lo) {lv : List (Nat × Value)} (hl : lv_has ls nL lv) (G : GoodIn ig_all (wsS own index y (ig_ws y bytes maxL ret))) (hM : MetD lw_cs l y (ig_ws y bytes maxL ret) rm (va_Pc As (ig_Wd D kk ad bs a la b lb lo)) Qc mc ms (ig_A bs))
    (hcls : y.cls = own) {n0 : Nat} (hd : ig_md y n0) (hn : As.length = n0) (hrm : rm.cells = mc ∧ rm.slots = ms) (hR : rm.frames + 1 ≤ R.frames ∧ 8 + (maxL + 11) + rm.locals ≤ R.locals) (hrest : (rest.map fun v => v.category).sum ≤ 8) (hdg : decode cc pc = .ok (.invokestatic index, 3)) (hf : cells + mc ≤ R.cells ∧ slots + ms ≤ R.slots) :
    va_RunD lw_cs p l e R s m args below meth c H locs cells slots mc ms (F0 m pc ls (As.reverse ++ rest)) rest (Qc As.toArray) (ig_A bs) :=
  va_runS_D F hM (cwS n0 F.2.2.2.2 G rfl hrm.1 hrm.2 ⟨hcls, hd⟩ hR) (ig_preS E Z) rfl hn hl.1 rfl (lv_room hrest) hdg hf
theorem ig_calliD {S : Type} {post : Int32 → S → Prop} {fa fb : S → ig_M} {fla flb flo : S → Int64} {st0 : List Value} {mc ms : Nat} {av : Array Value} {d0 : Drawn} (hd0 : s.drawn.sameBut d0 lw_cs) (Z : ig_Z D kk ad bs s H locs a la b lb lo) (hr : va_RunD lw_cs p l e R (s.setDrawn d0) m args below meth c H locs cells slots mc ms (F0 m pc ls st0) rest (va_Qi post (fun u t => ig_Wd D kk ad bs (fa u) (fla u) (fb u) (flb u) (flo u) t) (ig_A bs) av) (ig_A bs))
    (kx : ∀ (r : Int32) (u : S) (H1 : Heap) (locs1 : List Loc), post r u → ig_Z D kk ad bs s H1 locs1 (fa u) (fla u) (fb u) (flb u) (flo u) → ∀ d' : Drawn, s.drawn.sameBut d' lw_cs → W p l e R (s.setDrawn d') m args below meth c H1 locs1 (cells + mc) (slots + ms) Q (F0 m (pc + 3) ls (.int r :: rest))) : W p l e R (s.setDrawn d0) m args below meth c H locs cells slots Q (F0 m pc ls st0) :=
  va_calliD hd0 hr Z.2 (fun _ _ h => h) (fun _ h => h) (fun r u t H1 locs1 ht _ hp hB _ _ hS d' hd' => kx r u H1 locs1 hp ⟨by rw [← ht]; exact hB.2, hS⟩ d' hd')
/-! the script -/
def ig_WX (D : va_G) (kk : Nat → ClassId) (ad : Nat → Nat) (bs : Nat) (a : ig_M) (la : Int64) (b : ig_M) (lb lo : Int64) (b0 Ln : Nat) (xs : Nat → Int32) (U : State) : Prop := ig_Wd D kk ad bs a la b lb lo U ∧ va_X b0 Ln xs U U.heap ∧ ¬ ig_A bs b0
theorem ig_blindX {b0 Ln : Nat} {xs : Nat → Int32} (av : List Value) : FrameBlind (va_Pc av (ig_WX D kk ad bs a la b lb lo b0 Ln xs)) := fun v U g mk h => ⟨h.1, h.2.1.calling g mk v, va_X.moved (Vm.Alike.refl _) h.2.2.1, h.2.2.2⟩
theorem ig_preSX (E : ig_E D kk ad bs s) (Z : ig_Z D kk ad bs s H locs a la b lb lo) {b0 Ln : Nat} {xs : Nat → Int32} (hX : va_X b0 Ln xs s s.heap) (hbl : b0 < s.heap.size) (hbA : ¬ ig_A bs b0) {As : List Value} : PreS s H (va_Pc As (ig_WX D kk ad bs a la b lb lo b0 Ln xs)) As :=
  ⟨ig_blindX _, fun U hU hW => ⟨rfl, Z.wd E hU hW, by rw [hU]; exact va_X.kept (va_X.moved hW.alike hX) (Z.2.2.1 b0 hbl hbA), hbA⟩⟩
theorem ig_runSX {b0 Ln : Nat} {xs : Nat → Int32} (F : CallFix p m c cc nL s args ig_all own) (E : ig_E D kk ad bs s) (Z : ig_Z D kk ad bs s H locs a la b lb lo) {lv : List (Nat × Value)} (hl : lv_has ls nL lv) (hX : va_X b0 Ln xs s s.heap) (hbl : b0 < s.heap.size) (hbA : ¬ ig_A bs b0) (G : GoodIn ig_all (wsS own index y (ig_ws y bytes maxL ret))) (hM : Met l y (ig_ws y bytes maxL ret) rm (va_Pc As (ig_WX D kk ad bs a la b lb lo b0 Ln xs)) Qc mc ms (ig_A bs))
    (hcls : y.cls = own) {n0 : Nat} (hd : ig_md y n0) (hn : As.length = n0) (hrm : rm.cells = mc ∧ rm.slots = ms) (hR : rm.frames + 1 ≤ R.frames ∧ 8 + (maxL + 11) + rm.locals ≤ R.locals) (hrest : (rest.map fun v => v.category).sum ≤ 8) (hdg : decode cc pc = .ok (.invokestatic index, 3)) (hf : cells + mc ≤ R.cells ∧ slots + ms ≤ R.slots) :
    va_Run p l e R s m args below meth c H locs cells slots mc ms (F0 m pc ls (As.reverse ++ rest)) rest (Qc As.toArray) (ig_A bs) :=
  va_runS F hM (cwS n0 F.2.2.2.2 G rfl hrm.1 hrm.2 ⟨hcls, hd⟩ hR) (ig_preSX E Z hX hbl hbA) rfl hn hl.1 rfl (lv_room hrest) hdg hf
end IGW
