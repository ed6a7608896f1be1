/-! ===== rows for the law: its own row, calls that are caught, draws ===== -/
section IGW
variable {p : Program} {l : Launch} {e : Env} {R : Room} {s : State} {m : MethodId} {args : Array Value} {below : List Frame} {meth : Method} {c : Code} {H : Heap} {locs : List Loc} {cells slots : Nat} {Q : State → Prop}
variable {D : va_G} {kk : Nat → ClassId} {ad : Nat → Nat} {bs : Nat} {a b : ig_M} {la lb lo : Int64}
variable {cc : ByteArray} {nL : Nat} {own : String} {pc : Nat} {ls : Array Slot} {rest : List Value}
theorem ig_Fd (F : CallFix p m c cc nL s args ig_all own) (d : Drawn) : CallFix p m c cc nL (s.setDrawn d) args ig_all own := ⟨F.1, F.2.1, F.2.2.1, F.2.2.2.1, dr_words F.2.2.2.2 d⟩
theorem ig_Ed (E : ig_E D kk ad bs s) (d : Drawn) : ig_E D kk ad bs (s.setDrawn d) := E.same rfl rfl
theorem ig_Zd (Z : ig_Z D kk ad bs s H locs a la b lb lo) (d : Drawn) : ig_Z D kk ad bs (s.setDrawn d) H locs a la b lb lo := Z
theorem ig_hXd {b0 Ln : Nat} {xs : Nat → Int32} (h : va_X b0 Ln xs s s.heap) (d : Drawn) : va_X b0 Ln xs (s.setDrawn d) (s.setDrawn d).heap := va_X.moved (Vm.Alike.refl _) h
theorem ig_roomC {x : Nat} (h : x ≤ 601024) : x ≤ room_1.cells := h
theorem ig_roomS {x : Nat} (h : x ≤ 7293034) : x ≤ room_1.slots := h
theorem ig_k_115 (kk : Nat → ClassId) (ad : Nat → Nat) (la lb lo : Int64) (r : Nat → Int32) : ig_c kk ad la lb lo r 115 = .inl (kk 2, 1, .inr (.inl (fun _ => lo))) := rfl
theorem ig_lald (F : CallFix p m c cc nL s args ig_all own) (E : ig_E D kk ad bs s) (Z : ig_Z D kk ad bs s H locs a la b lb lo) (hdg : decode cc pc = .ok (.laload, 1))
    (kx : W p l e R s m args below meth c H locs cells slots Q (F0 m (pc + 1) ls (.long lo :: rest))) : W p l e R s m args below meth c H locs cells slots Q (F0 m pc ls (.int 0 :: .ref (ad 115) :: rest)) :=
  va_lald (n := 1) (f := fun _ => lo) (cA := kk 2) F.1 F.2.1 E.1 (ig_w_P.mp Z.1) 115 2 (by rw [ig_w_get _ _ (by decide)]; rfl) rfl (i := 0) (by unfold vp_in; decide) hdg kx
theorem ig_last (F : CallFix p m c cc nL s args ig_all own) (E : ig_E D kk ad bs s) (Z : ig_Z D kk ad bs s H locs a la b lb lo) {v : Int64} (hdg : decode cc pc = .ok (.lastore, 1))
    (kx : ∀ (H1 : Heap) (locs1 : List Loc), ig_Z D kk ad bs s H1 locs1 a la b lb v → W p l e R s m args below meth c H1 locs1 cells slots Q (F0 m (pc + 1) ls rest)) : W p l e R s m args below meth c H locs cells slots Q (F0 m pc ls (.long v :: .int 0 :: .ref (ad 115) :: rest)) := by
  refine va_last (n := 1) (f := fun _ => lo) (cA := kk 2) F.1 F.2.1 E.1 (ig_w_P.mp Z.1) (E.hD _) Z.2 115 2 (by rw [ig_w_get _ _ (by decide)]; rfl) rfl (i := 0) (by unfold vp_in; decide) hdg (fun H1 locs1 hP _ hS => ?_)
  rw [ig_w_set _ _ (by decide)] at hP
  refine kx H1 locs1 ⟨fun j hj => ?_, hS⟩
  have h1 := ig_w_P.mpr hP j hj
  by_cases hji : j = 115
  · subst hji
    rw [if_pos rfl] at h1
    show H1[ad 115]? = some (vp_cell (kk 2) (1, .inr (.inl (fun _ => v))))
    refine Eq.trans h1 ?_
    show some (vp_cell (kk 2) (1, .inr (.inl (vp_updL (fun _ => lo) ((0 : Int32).toNatClampNeg) v)))) = some (vp_cell (kk 2) (1, .inr (.inl (fun _ => v))))
    simp only [vp_cell, arrV]
    congr 2
  · rw [if_neg hji] at h1
    rw [ig_c_lo kk ad la lb lo v _ hji]
    exact h1
/-- a call that may throw, in a method that catches -/
theorem ig_callXi {S : Type} {post : Int32 → S → Prop} {fa fb : S → ig_M} {fla flb flo : S → Int64} {mc0 ms0 : Nat} {pxc : Nat → Prop} {st0 : List Value} {av : Array Value} (E : ig_E D kk ad bs s) (Z : ig_Z D kk ad bs s H locs a la b lb lo)
    (hr : vx_Run p l e R s m args below meth c H locs cells slots mc0 ms0 (F0 m pc ls st0) rest (va_Qi post (fun u t => ig_Wd D kk ad bs (fa u) (fla u) (fb u) (flb u) (flo u) t) (ig_A bs) av) (ig_XC D kk ad bs a la b lb lo pxc) (ig_A bs))
    (kx : ∀ (u : Nat) (q9 : Addr) (ce : Cell) (H1 : Heap) (locs1 : List Loc), pxc u → ig_Z D kk ad bs s H1 locs1 a la b lb lo → H1[q9]? = some ce → ce.vm = .none → s.vm.findClass (ig_en u) = some ce.cls → vx_W p l e R s m args below meth c H1 locs1 (cells + mc0) (slots + ms0) Q (F0 m pc ls rest) q9)
    (kx2 : ∀ (r : Int32) (u : S) (H1 : Heap) (locs1 : List Loc), post r u → ig_Z D kk ad bs s H1 locs1 (fa u) (fla u) (fb u) (flb u) (flo u) → W p l e R s m args below meth c H1 locs1 (cells + mc0) (slots + ms0) Q (F0 m (pc + 3) ls (.int r :: rest))) : W p l e R s m args below meth c H locs cells slots Q (F0 m pc ls st0) := by
  refine vx_calli hr Z.2 (fun _ _ h => h) (fun _ h => h) (fun _ _ h => h) (fun En ce q9 u t H1 locs1 ht hv hp hB _ _ hS hce hcv hcl => ?_) (fun r u t H1 locs1 ht _ hp hB _ _ hS => kx2 r u H1 locs1 hp ⟨by rw [← ht]; exact hB.2, hS⟩)
  obtain ⟨rfl, hB⟩ := hB
  exact kx u q9 ce H1 locs1 hp ⟨by rw [← ht]; exact hB, hS⟩ hce hcv hcl
theorem ig_callXv {S : Type} {post : S → Prop} {fa fb : S → ig_M} {fla flb flo : S → Int64} {mc0 ms0 : Nat} {pxc : Nat → Prop} {st0 : List Value} {av : Array Value} (E : ig_E D kk ad bs s) (Z : ig_Z D kk ad bs s H locs a la b lb lo)
    (hr : vx_Run p l e R s m args below meth c H locs cells slots mc0 ms0 (F0 m pc ls st0) rest (va_Qv post (fun u t => ig_Wd D kk ad bs (fa u) (fla u) (fb u) (flb u) (flo u) t) (ig_A bs) av) (ig_XC D kk ad bs a la b lb lo pxc) (ig_A bs))
    (kx : ∀ (u : Nat) (q9 : Addr) (ce : Cell) (H1 : Heap) (locs1 : List Loc), pxc u → ig_Z D kk ad bs s H1 locs1 a la b lb lo → H1[q9]? = some ce → ce.vm = .none → s.vm.findClass (ig_en u) = some ce.cls → vx_W p l e R s m args below meth c H1 locs1 (cells + mc0) (slots + ms0) Q (F0 m pc ls rest) q9)
    (kx2 : ∀ (u : S) (H1 : Heap) (locs1 : List Loc), post u → ig_Z D kk ad bs s H1 locs1 (fa u) (fla u) (fb u) (flb u) (flo u) → W p l e R s m args below meth c H1 locs1 (cells + mc0) (slots + ms0) Q (F0 m (pc + 3) ls rest)) : W p l e R s m args below meth c H locs cells slots Q (F0 m pc ls st0) := by
  refine vx_callv hr Z.2 (fun _ _ h => h) (fun _ h => h) (fun _ _ h => h) (fun En ce q9 u t H1 locs1 ht hv hp hB _ _ hS hce hcv hcl => ?_) (fun u t H1 locs1 ht _ hp hB _ _ hS => kx2 u H1 locs1 hp ⟨by rw [← ht]; exact hB.2, hS⟩)
  obtain ⟨rfl, hB⟩ := hB
  exact kx u q9 ce H1 locs1 hp ⟨by rw [← ht]; exact hB, hS⟩ hce hcv hcl
/-- caught by the table's row x -/
theorem ig_catch (F : CallFix p m c cc nL s args ig_all own) (E : ig_E D kk ad bs s) {hh : List (Nat × Nat × Nat × Nat)} (ht : c.exceptionTable.toList = tableOf hh) (u : Nat) (pre suf : List ExceptionTableEntry) (x : ExceptionTableEntry) (hsplit : tableOf hh = pre ++ x :: suf) (hu : ig_en u ∈ ig_nc)
    (hpass : ∀ z ∈ pre, z.catchType ≠ 0 ∧ ∃ nm : String, Cond.classLink own z.catchType nm ∈ ig_all ∧ (ig_en u, nm) ∈ ig_nn) (hx : covers x pc = true) (h0 : x.catchType ≠ 0) (hlink : Cond.classLink own x.catchType (ig_en u) ∈ ig_all)
    {q : Addr} {ce : Cell} (hce : H[q]? = some ce) (hcv : ce.vm = .none) (hcl : s.vm.findClass (ig_en u) = some ce.cls) (kx : W p l e R s m args below meth c H locs cells slots Q (F0 m x.handlerPc ls [.ref q])) : vx_W p l e R s m args below meth c H locs cells slots Q (F0 m pc ls rest) q :=
  vx_catch F.2.2.2.1 pre x suf (ht.trans hsplit) (fun z hz => Or.inr ⟨(hpass z hz).1, by
    obtain ⟨nm, h1, h2⟩ := (hpass z hz).2
    exact ⟨nm, F.2.2.2.2 _ h1, E.2.2.2.1.2.2.2.1 _ h2⟩⟩) hx h0 (F.2.2.2.2 _ hlink) (va_Nw.use rfl (E.2.2.2.1.2.2.1 _ hu)) hce hcv hcl kx
theorem ig_ofWH {y : MethodName} {ws ws' : List Cond} {rm : Room} {Pc : Array Value → State → Prop} {Qc : Array Value → State → Outcome → State → Prop} {mc ms : Nat} {free : Addr → Prop} {maxL : Nat} {ret : Option FieldType} {hh : List (Nat × Nat × Nat × Nat)}
    (hy : plainName y.cls = true) (hw : ws = Cond.codeWith y cc maxL ret hh :: ws')
    (body : ∀ p e s m args below meth c s₁, BodyLoose p l y (headSpec ws rm) cc maxL ret e s m args below meth c s₁ → c.maxLocals = maxL → c.exceptionTable.toList = tableOf hh → Pc args s →
      W p l e (headSpec ws rm).room s m args below meth c s.heap [] 0 0 (MQ below Qc args s mc ms free) (entryFrame m args maxL)) : Met l y ws rm Pc Qc mc ms free := by
  refine MetFree.of_bodyS (code := cc) (maxLocals := maxL) (ret := ret) hy ?_ ?_
  · intro args s m h hn
    obtain ⟨m9, meth, c, hn9, h1, h2, h3, h4, -, h5, h6, -⟩ := Cond.codeWith_spec (atoms_spec (ws := ws) h _ (by rw [hw]; exact List.mem_cons_self))
    cases hn.symm.trans hn9
    exact ⟨meth, c, h1, h2, h3, h4, h5, h6⟩
  · intro p e s m args below meth c s₁ B hml hP _
    have hh0 : s₁.heap = s.heap := by rw [B.state]; rfl
    have htab := vx_table (x := y) B (atoms_spec (ws := ws) B.pre _ (by rw [hw]; exact List.mem_cons_self))
    obtain ⟨t, a1, o, b1, b2, b3⟩ := body p e s m args below meth c s₁ B hml htab hP s₁ hh0 (Stand.of_body B)
    exact ⟨t, o, a1, b1, b2, b3⟩
def ig_wsW (y : MethodName) (cc : ByteArray) (n : Nat) (ret : Option FieldType) (hh : List (Nat × Nat × Nat × Nat)) : List Cond := .codeWith y cc n ret hh :: ig_all
theorem ig_LW {idx n : Nat} {y : MethodName} {ret : Option FieldType} {hh : List (Nat × Nat × Nat × Nat)} (h1 : Cond.methodLink own idx y ∈ ig_all) (h2 : Cond.static y ∈ ig_all) (h4 : Cond.initialized y.cls ∈ ig_all) (h5 : Cond.codeWith y cc n ret hh ∈ ig_all) : GoodIn ig_all (va_wsS own idx y (ig_wsW y cc n ret hh)) := by
  intro w hw
  rcases List.mem_append.mp hw with h | h
  · rcases List.mem_cons.mp h with rfl | h
    · exact ig_good h1
    rcases List.mem_cons.mp h with rfl | h
    · exact ig_good h2
    rcases List.mem_cons.mp h with rfl | h
    · exact ig_good h4
    cases h
  · rcases List.mem_cons.mp h with rfl | h
    · exact ig_good h5
    · exact ig_good h
variable {y : MethodName} {bytes : ByteArray} {maxL mc ms n index : Nat} {ret : Option FieldType} {rm : Room} {Qc : Array Value → State → Outcome → State → Prop} {As : List Value}
theorem ig_runSW {hh : List (Nat × Nat × Nat × Nat)} (F : CallFix p m c cc nL s args ig_all own) (E : ig_E D kk ad bs s) (Z : ig_Z D kk ad bs s H locs a la b lb lo) {lv : List (Nat × Value)} (hl : lv_has ls nL lv) (G : GoodIn ig_all (va_wsS own index y (ig_wsW y bytes maxL ret hh))) (hM : Met l y (ig_wsW y bytes maxL ret hh) rm (va_Pc As (ig_Wd D kk ad bs a la b lb lo)) Qc mc ms (ig_A bs))
    {n0 : Nat} (hd : ig_md y n0) (hn : As.length = n0) (hrm : rm.cells = mc ∧ rm.slots = ms) (hR : rm.frames + 1 ≤ R.frames ∧ 8 + (maxL + 11) + rm.locals ≤ R.locals) (hrest : (rest.map fun v => v.category).sum ≤ 8) (hdg : decode cc pc = .ok (.invokestatic index, 3)) (hf : cells + mc ≤ R.cells ∧ slots + ms ≤ R.slots) :
    va_Run p l e R s m args below meth c H locs cells slots mc ms (F0 m pc ls (As.reverse ++ rest)) rest (Qc As.toArray) (ig_A bs) :=
  vx_runSW F hM (vx_cwSW n0 F.2.2.2.2 G rfl hrm.1 hrm.2 hd hR) (ig_preS E Z) rfl hn hl.1 rfl (lv_room hrest) hdg hf
/-- a call of a method that draws -/
theorem ig_runVD (F : CallFix p m c cc nL s args ig_all own) (E : ig_E D kk ad bs s) (Z : ig_Z D kk ad bs s H locs a la b lb lo) {lv : List (Nat × Value)} (hl : lv_has ls nL lv) {i ci : Nat} {q : vw_C} {fs : List Value} (G : GoodIn ig_all (wsV own index q.1 y (ig_ws y bytes maxL ret))) (hM : MetD lw_cs l y (ig_ws y bytes maxL ret) rm (va_Pc (.ref (ad i) :: As) (ig_Wd D kk ad bs a la b lb lo)) Qc mc ms (ig_A bs)) (hi : i < 116) (he : ig_c kk ad la lb lo (ig_mm a b i) i = .inr (ci, fs)) (hc : vwCl[ci]? = some q)
    (hcls : y.cls = q.1) {n0 : Nat} (hd : ig_md y n0) (hn : As.length = n0) (hrm : rm.cells = mc ∧ rm.slots = ms) (hR : rm.frames + 1 ≤ R.frames ∧ 8 + (maxL + 11) + rm.locals ≤ R.locals) (hrest : (rest.map fun v => v.category).sum ≤ 8) (hdg : decode cc pc = .ok (.invokevirtual index, 3)) (hf : cells + mc ≤ R.cells ∧ slots + ms ≤ R.slots) :
    va_RunD lw_cs p l e R s m args below meth c H locs cells slots mc ms (F0 m pc ls (As.reverse ++ .ref (ad i) :: rest)) rest (Qc (Value.ref (ad i) :: As).toArray) (ig_A bs) :=
  va_runV_D F hM (cwV n0 F.2.2.2.2 G rfl hrm.1 hrm.2 ⟨hcls, hd⟩ hR) (ig_preV E Z hi he hc) rfl hn hl.1 rfl (lv_room hrest) hdg hf
theorem ig_callfD {S : Type} {post : UInt32 → S → Prop} {fa fb : S → ig_M} {fla flb flo : S → Int64} {st0 : List Value} {mc ms : Nat} {av : Array Value} {d0 : Drawn} (hd0 : s.drawn.sameBut d0 lw_cs) (Z : ig_Z D kk ad bs s H locs a la b lb lo) (hr : va_RunD lw_cs p l e R (s.setDrawn d0) m args below meth c H locs cells slots mc ms (F0 m pc ls st0) rest (va_Qf post (fun u t => ig_Wd D kk ad bs (fa u) (fla u) (fb u) (flb u) (flo u) t) (ig_A bs) av) (ig_A bs))
    (kx : ∀ (r : UInt32) (u : S) (H1 : Heap) (locs1 : List Loc), post r u → ig_Z D kk ad bs s H1 locs1 (fa u) (fla u) (fb u) (flb u) (flo u) → ∀ d' : Drawn, s.drawn.sameBut d' lw_cs → W p l e R (s.setDrawn d') m args below meth c H1 locs1 (cells + mc) (slots + ms) Q (F0 m (pc + 3) ls (.float r :: rest))) : W p l e R (s.setDrawn d0) m args below meth c H locs cells slots Q (F0 m pc ls st0) :=
  va_callfD hd0 hr Z.2 (fun _ _ h => h) (fun _ h => h) (fun r u t H1 locs1 ht _ hp hB _ _ hS d' hd' => kx r u H1 locs1 hp ⟨by rw [← ht]; exact hB.2, hS⟩ d' hd')
end IGW
