/-! ===== constructors: a heap that grows from bs on, cell by cell ===== -/
theorem ig_AOA_spec {t : FieldType} {s : State} (h : ig_AOA t s) : ∃ comp c k, s.vm.findClass (FieldType.array t).toString = some comp ∧ (s.vm.classes.findIdx? fun x => match x.kind with | .array component _ => component == comp | _ => false) = some c ∧ s.vm.classes[c]? = some k ∧ k.kind = .array comp (.array t) ∧ s.vm.findClass ("[" ++ (FieldType.array t).toString) = some c := by
  unfold ig_AOA at h
  simp only [Cond.before, Cond.holds, Cond.value, beq_iff_eq] at h
  cases hc : s.vm.findClass (FieldType.array t).toString with
  | none => simp [hc] at h
  | some comp =>
    simp only [hc, Option.bind_some, Option.bind_eq_some_iff, Option.map_eq_some_iff] at h
    obtain ⟨c, hi, k, hk, hb⟩ := h
    obtain ⟨hlt, hp, -⟩ := Array.findIdx?_eq_some_iff_getElem.mp hi
    have hkk : s.vm.classes[c] = k := (Array.getElem?_eq_some_iff.mp hk).2
    rw [hkk] at hp
    cases hkind : k.kind with
    | array component ty =>
      rw [hkind] at hb hp
      simp at hb hp
      exact ⟨comp, c, k, rfl, hi, hk, by rw [hkind, hp, hb.1], hb.2⟩
    | _ => rw [hkind] at hb; simp at hb
theorem ig_AOA.moved {t : FieldType} {u U : State} (hvm : u.vm.Alike U.vm) (h : ig_AOA t u) : ig_AOA t U := by
  obtain ⟨comp, c, k, h1, h2, h3, h4, h5⟩ := ig_AOA_spec h
  obtain ⟨k', hk', he⟩ := hvm.2.2 _ _ h3
  have hi : (U.vm.classes.findIdx? fun (x : Class) => match x.kind with | .array component _ => component == comp | _ => false) = some c := by
    have e1 := va_idx_bare U.vm comp
    have e2 := va_idx_bare u.vm comp
    refine Eq.trans e1.symm ?_
    first | rw [hvm.bare_eq] | rw [← hvm.bare_eq]
    exact Eq.trans e2 h2
  have hkind : k'.kind = .array comp (.array t) := by rw [he]; exact h4
  have f1 : U.vm.findClass (FieldType.array t).toString = some comp := by rw [hvm.findClass]; exact h1
  have f2 : U.vm.findClass ("[" ++ (FieldType.array t).toString) = some c := by rw [hvm.findClass]; exact h5
  unfold ig_AOA Cond.before Cond.holds
  simp only [Cond.value]
  rw [f1, Option.bind_some]
  refine (congrArg (fun o : Option Nat => (o.bind (fun c => (U.vm.classes[c]?).map fun (k : Class) => match k.kind with | .array _ ty => decide (ty = FieldType.array t) && decide (U.vm.findClass ("[" ++ (FieldType.array t).toString) = some c) | _ => false) == some true)) hi).trans ?_
  simp [hk', hkind, f2]
def ig_gu (g : Nat → va_E) (i : Nat) (e : va_E) : Nat → va_E := fun j => if j = i then e else g j
def ig_G (D : va_G) (bs n : Nat) (g : Nat → va_E) (H : Heap) : Prop := bs + n = H.size ∧ ∀ i : Nat, i < n → va_at D vwCl (bs + i, g i) H
def ig_AOs (U : State) : Prop := va_AO "Intergreen$Phase" U ∧ ig_AOA .int U
theorem ig_AOs.moved {u U : State} (hvm : u.vm.Alike U.vm) (h : ig_AOs u) : ig_AOs U := ⟨va_AO.moved hvm h.1, ig_AOA.moved hvm h.2⟩
def ig_GW (D : va_G) (kk : Nat → ClassId) (ad : Nat → Nat) (bs n : Nat) (g : Nat → va_E) (U : State) : Prop := ig_E D kk ad bs U ∧ ig_AOs U ∧ ig_G D bs n g U.heap
def ig_GZ (D : va_G) (bs : Nat) (s : State) (H : Heap) (locs : List Loc) (n : Nat) (g : Nat → va_E) : Prop := ig_G D bs n g H ∧ va_S (ig_A bs) s.heap H locs
def ig_wn (n bs : Nat) (g : Nat → va_E) : va_W := (List.range n).map (fun i => (bs + i, g i))
theorem ig_wn_get (n bs : Nat) (g : Nat → va_E) {i : Nat} (hi : i < n) : (ig_wn n bs g)[i]? = some (bs + i, g i) := by
  unfold ig_wn
  rw [List.getElem?_map, List.getElem?_range hi]
  rfl
theorem ig_wn_len (n bs : Nat) (g : Nat → va_E) : (ig_wn n bs g).length = n := by
  unfold ig_wn
  rw [List.length_map, List.length_range]
theorem ig_wn_at {n bs : Nat} {g : Nat → va_E} {k : Nat} {q : Nat × va_E} (h : (ig_wn n bs g)[k]? = some q) : k < n ∧ q = (bs + k, g k) := by
  have hk : k < n := by
    have := (List.getElem?_eq_some_iff.mp h).1
    rwa [ig_wn_len] at this
  rw [ig_wn_get n bs g hk] at h
  exact ⟨hk, (Option.some.inj h).symm⟩
theorem ig_wn_set (n bs : Nat) (g : Nat → va_E) {i : Nat} (hi : i < n) (e : va_E) : (ig_wn n bs g).set i (bs + i, e) = ig_wn n bs (ig_gu g i e) := by
  apply List.ext_getElem?
  intro j
  by_cases hj : j < n
  · rw [ig_wn_get n bs _ hj]
    unfold ig_gu
    by_cases h : j = i
    · subst h
      rw [List.getElem?_set_self (by rw [ig_wn_len]; exact hj), if_pos rfl]
    · rw [List.getElem?_set_ne (Ne.symm h), ig_wn_get n bs g hj, if_neg h]
  · have h1 : (ig_wn n bs (ig_gu g i e))[j]? = none := List.getElem?_eq_none (by rw [ig_wn_len]; omega)
    have h2 : ((ig_wn n bs g).set i (bs + i, e))[j]? = none := List.getElem?_eq_none (by rw [List.length_set, ig_wn_len]; omega)
    rw [h1, h2]
theorem ig_wn_P {D : va_G} {n bs : Nat} {g : Nat → va_E} {H : Heap} (h : ∀ i : Nat, i < n → va_at D vwCl (bs + i, g i) H) : va_P D vwCl (ig_wn n bs g) H := by
  intro k q hk
  obtain ⟨h1, rfl⟩ := ig_wn_at hk
  exact h k h1
theorem ig_wn_P' {D : va_G} {n bs : Nat} {g : Nat → va_E} {H : Heap} (h : va_P D vwCl (ig_wn n bs g) H) : ∀ i : Nat, i < n → va_at D vwCl (bs + i, g i) H := fun i hi => h i _ (ig_wn_get n bs g hi)
theorem ig_wn_D {n bs : Nat} {g : Nat → va_E} : va_D (ig_A bs) (ig_wn n bs g) := by
  refine ⟨fun i j x y hx hy h => ?_, fun k q hk => ?_⟩
  · obtain ⟨-, rfl⟩ := ig_wn_at hx
    obtain ⟨-, rfl⟩ := ig_wn_at hy
    have : bs + i = bs + j := h
    omega
  · obtain ⟨-, rfl⟩ := ig_wn_at hk
    exact Nat.le_add_right _ _
section IGC
variable {p : Program} {l : Launch} {e : Env} {R : Room} {s : State} {m : MethodId} {args : Array Value} {below : List Frame} {meth : Method} {c : Code} {H : Heap} {locs : List Loc} {cells slots : Nat} {Q : State → Prop}
variable {D : va_G} {kk : Nat → ClassId} {ad : Nat → Nat} {bs n : Nat} {g : Nat → va_E}
variable {cc : ByteArray} {nL : Nat} {own : String} {pc : Nat} {ls : Array Slot} {rest : List Value}
theorem ig_GZ.size (h : ig_GZ D bs s H locs n g) : ∀ i : Nat, i < n → va_at D vwCl (bs + i, g i) H := h.1.2
/-- one more cell -/
theorem ig_GZ.grow (h : ig_GZ D bs s H locs n g) {H1 : Heap} {x : va_E} (hz : H1.size = H.size + 1) (ho : ∀ q : Nat, q < H.size → H1[q]? = H[q]?) (hx : va_at D vwCl (bs + n, x) H1) : ig_GZ D bs s H1 locs (n + 1) (ig_gu g n x) := by
  obtain ⟨⟨h1, h2⟩, h3⟩ := h
  refine ⟨⟨by omega, fun i hi => ?_⟩, Nat.le_trans h3.1 (by omega), fun q hq hA => ?_, h3.2.2⟩
  · by_cases hin : i = n
    · subst hin
      unfold ig_gu
      rw [if_pos rfl]
      exact hx
    · unfold ig_gu
      rw [if_neg hin]
      have h4 := h2 i (by omega)
      exact h4.kept (ho _ h4.lt)
  · rw [ho q (Nat.lt_of_lt_of_le hq h3.1)]
    exact h3.2.1 q hq hA
theorem ic_get (F : CallFix p m c cc nL s args ig_all own) (E : ig_E D kk ad bs s) (Z : ig_GZ D bs s H locs n g) {C : String} {T : u_T} {N ci index i : Nat} {fs : List Value} (hi : i < n) (he : g i = .inr (ci, fs)) (hc : vwCl[ci]? = some (C, T, N)) (hin : ∀ w ∈ u_ws C T N, w ∈ ig_all) (k : Nat) (hk : k < N) (hlink : Cond.fieldLink own index (T k).1 (T k).2.1 (T k).2.2.1 ∈ ig_all) {v : Value} (hv : fs[k]? = some v) (hdg : decode cc pc = .ok (.getfield index, 3))
    (kx : W p l e R s m args below meth c H locs cells slots Q (F0 m (pc + 3) ls (v :: rest))) : W p l e R s m args below meth c H locs cells slots Q (F0 m pc ls (.ref (bs + i) :: rest)) := by
  obtain ⟨hx, hb, -, hown, hts⟩ := F
  exact va_get (D := D) (cl := vwCl) (C := C) (T := T) (N := N) (ci := ci) hx hb hts hin hown E.1 (ig_wn_P Z.1.2) i (by rw [ig_wn_get _ _ _ hi, he]) hc k hk (hts _ hlink) (fun _ h => h) hv hdg kx
theorem ig_GZ.set (Z : ig_GZ D bs s H locs n g) {i : Nat} (hi : i < n) {x : va_E} {H1 : Heap} {locs1 : List Loc} (hz : H1.size = H.size) (hP : va_P D vwCl ((ig_wn n bs g).set i (bs + i, x)) H1) (hS : va_S (ig_A bs) s.heap H1 locs1) : ig_GZ D bs s H1 locs1 n (ig_gu g i x) := by
  rw [ig_wn_set _ _ _ hi] at hP
  exact ⟨⟨by rw [hz]; exact Z.1.1, ig_wn_P' hP⟩, hS⟩
theorem ic_put (F : CallFix p m c cc nL s args ig_all own) (E : ig_E D kk ad bs s) (Z : ig_GZ D bs s H locs n g) {C : String} {T : u_T} {N ci index i : Nat} {fs : List Value} (hi : i < n) (he : g i = .inr (ci, fs)) (hc : vwCl[ci]? = some (C, T, N)) (hin : ∀ w ∈ u_ws C T N, w ∈ ig_all) (ty0 : Nat → FieldType) (hty : ∀ k, k < N → parseFieldDescriptor (T k).2.2.1 = some (ty0 k)) (hnm : ∀ a, a < N → ∀ b, b < N → a ≠ b → (T a).2.1 ≠ (T b).2.1) (k : Nat) (hk : k < N) (hlink : Cond.fieldLink own index (T k).1 (T k).2.1 (T k).2.2.1 ∈ ig_all) (hfin : (T k).2.2.2 = false) {v : Value} {ty : FieldType} (hd : parseFieldDescriptor (T k).2.2.1 = some ty) (hn : narrow ty v = v) (hfit : fits ty v = true) (hl : k < fs.length) (hdg : decode cc pc = .ok (.putfield index, 3))
    (kx : ∀ (H1 : Heap) (locs1 : List Loc), ig_GZ D bs s H1 locs1 n (ig_gu g i (.inr (ci, fs.set k v))) → W p l e R s m args below meth c H1 locs1 cells slots Q (F0 m (pc + 3) ls rest)) : W p l e R s m args below meth c H locs cells slots Q (F0 m pc ls (v :: .ref (bs + i) :: rest)) := by
  obtain ⟨hx, hb, -, hown, hts⟩ := F
  have hap := va_apart (own := own) hts hin ty0 hty hnm E.1 hc
  have hq : (ig_wn n bs g)[i]? = some (bs + i, .inr (ci, fs)) := by rw [ig_wn_get _ _ _ hi, he]
  obtain ⟨r, h1, cell, q1, q2, q3, q4⟩ := ig_wn_P Z.1.2 i _ hq
  have hr : r = (C, T, N) := Option.some.inj (h1.symm.trans hc)
  subst hr
  obtain ⟨hS, hfc, kC, hkC, hkind⟩ := E.1.1 ci _ hc
  obtain ⟨cf, kf, fi, f, hfi, hsl⟩ := hS k hk
  have hlay := hts _ (hin _ (u_in_lay hk))
  unfold u_lay at hlay
  rw [if_neg (by rw [hfin]; decide)] at hlay
  have hst := (u_facts hfc hkC (u_lays hts hin hk) hfi).1
  have h6 := u_store hfc hkC hkind hlay hfi hd hn hfit
  refine W.putK hx hb (f := f) ⟨hown, hts _ hlink, ⟨_, _, _, hfi⟩, hst⟩ (by rw [q2]; exact h6) q1 q3 (by rw [hsl]; exact k2_hasslot (q4 k hk)) rfl rfl hdg fun H' e1 e2 e3 => ?_
  rw [hsl] at e1 ⊢
  exact kx H' _ (Z.set hi e2 ((ig_wn_P Z.1.2).set ig_wn_D hq ⟨_, hc, t_OB.to (V := updV (vp_V fs) k v) ⟨_, e1, q2, q3, t_set q4 hap hk v⟩ (fun j _ => vp_updV_set hl v j)⟩ e3) (Z.2.put e2 e3 (Nat.le_add_right _ _)))
theorem ic_putF (F : CallFix p m c cc nL s args ig_all own) (E : ig_E D kk ad bs s) (Z : ig_GZ D bs s H locs n g) {C : String} {T : u_T} {N ci index i : Nat} {fs : List Value} (hi : i < n) (he : g i = .inr (ci, fs)) (hc : vwCl[ci]? = some (C, T, N)) (hin : ∀ w ∈ u_ws C T N, w ∈ ig_all) (ty0 : Nat → FieldType) (hty : ∀ k, k < N → parseFieldDescriptor (T k).2.2.1 = some (ty0 k)) (hnm : ∀ a, a < N → ∀ b, b < N → a ≠ b → (T a).2.1 ≠ (T b).2.1) (k : Nat) (hk : k < N) (hlink : Cond.fieldLink own index (T k).1 (T k).2.1 (T k).2.2.1 ∈ ig_all) (hfin : (T k).2.2.2 = true) (hin2 : meth.name = "<init>") (hdecl : (T k).1 = own) {v : Value} {ty : FieldType} (hd : parseFieldDescriptor (T k).2.2.1 = some ty) (hn : narrow ty v = v) (hfit : fits ty v = true) (hl : k < fs.length) (hdg : decode cc pc = .ok (.putfield index, 3))
    (kx : ∀ (H1 : Heap) (locs1 : List Loc), ig_GZ D bs s H1 locs1 n (ig_gu g i (.inr (ci, fs.set k v))) → W p l e R s m args below meth c H1 locs1 cells slots Q (F0 m (pc + 3) ls rest)) : W p l e R s m args below meth c H locs cells slots Q (F0 m pc ls (v :: .ref (bs + i) :: rest)) := by
  obtain ⟨hx, hb, -, hown, hts⟩ := F
  have hap := va_apart (own := own) hts hin ty0 hty hnm E.1 hc
  have hq : (ig_wn n bs g)[i]? = some (bs + i, .inr (ci, fs)) := by rw [ig_wn_get _ _ _ hi, he]
  obtain ⟨r, h1, cell, q1, q2, q3, q4⟩ := ig_wn_P Z.1.2 i _ hq
  have hr : r = (C, T, N) := Option.some.inj (h1.symm.trans hc)
  subst hr
  obtain ⟨hS, hfc, kC, hkC, hkind⟩ := E.1.1 ci _ hc
  obtain ⟨cf, kf, fi, f, hfi, hsl⟩ := hS k hk
  have hlay := hts _ (hin _ (u_in_lay hk))
  unfold u_lay at hlay
  rw [if_pos hfin] at hlay
  have hst := (u_facts hfc hkC (u_lays hts hin hk) hfi).1
  have hcf : m.cls = cf := by
    obtain ⟨_, _, c', _, _, _, -, -, hf', -, -, -, hown2, -⟩ := Cond.laysFinal_spec hlay
    have e1 : c' = cf := by have := hfi.symm.trans hf'; simp at this; exact this.1.symm
    rw [hdecl] at hown2
    rw [← e1]; exact Option.some.inj (hown.symm.trans hown2)
  have h6 := u_fits hfc hkC hkind (Or.inr hlay) hfi hd hn hfit
  refine W.putFinK hx hb hown (hts _ hlink) hfi hst hcf hin2 (by rw [q2]; exact h6) q1 q3 (by rw [hsl]; exact k2_hasslot (q4 k hk)) rfl rfl hdg fun H' e1 e2 e3 => ?_
  rw [hsl] at e1 ⊢
  exact kx H' _ (Z.set hi e2 ((ig_wn_P Z.1.2).set ig_wn_D hq ⟨_, hc, t_OB.to (V := updV (vp_V fs) k v) ⟨_, e1, q2, q3, t_set q4 hap hk v⟩ (fun j _ => vp_updV_set hl v j)⟩ e3) (Z.2.put e2 e3 (Nat.le_add_right _ _)))
theorem ic_iast (F : CallFix p m c cc nL s args ig_all own) (E : ig_E D kk ad bs s) (Z : ig_GZ D bs s H locs n g) {i N : Nat} {f : Nat → Int32} (hi : i < n) (he : g i = ig_ar (kk 0) N f) {j x : Int32} (hj : vp_in j N) (hdg : decode cc pc = .ok (.iastore, 1))
    (kx : ∀ (H1 : Heap) (locs1 : List Loc), ig_GZ D bs s H1 locs1 n (ig_gu g i (ig_ar (kk 0) N (upd f j.toNatClampNeg x))) → W p l e R s m args below meth c H1 locs1 cells slots Q (F0 m (pc + 1) ls rest)) : W p l e R s m args below meth c H locs cells slots Q (F0 m pc ls (.int x :: .int j :: .ref (bs + i) :: rest)) := by
  have hq : (ig_wn n bs g)[i]? = some (bs + i, .inl (kk 0, N, .inl f)) := by rw [ig_wn_get _ _ _ hi, he]; rfl
  refine W.iast F.1 F.2.1 (ig_wn_P Z.1.2 i _ hq) ((E.1.2 0 _ rfl).1 N (fun j => .int (f j))) (fun q => by cases q) (by show ¬ (j < 0 ∨ (arrV _ _ _).slots.size ≤ _); rw [arrV_size]; exact hj) rfl rfl hdg fun H1 e1 z oq => ?_
  refine kx H1 _ (Z.set hi z ((ig_wn_P Z.1.2).set ig_wn_D hq ?_ oq) (Z.2.put z oq (Nat.le_add_right _ _)))
  show H1[bs + i]? = some (vp_cell _ _)
  rw [e1]
  rw [vp_cell_i, vp_cell_i, arrV_store]
  congr 2
  funext q
  unfold upd updV
  by_cases hq2 : q = j.toNatClampNeg
  · rw [if_pos hq2, if_pos hq2]
  · rw [if_neg hq2, if_neg hq2]
/-- a new object -/
theorem ic_new (F : CallFix p m c cc nL s args ig_all own) (E : ig_E D kk ad bs s) (Z : ig_GZ D bs s H locs n g) {C : String} {T : u_T} {N ci index : Nat} (hin : ∀ w ∈ u_ws C T N, w ∈ ig_all) (ty : Nat → FieldType) (hty : ∀ k, k < N → parseFieldDescriptor (T k).2.2.1 = some (ty k)) (hcl : Cond.classLink own index C ∈ ig_all) (hinst : Cond.instantiable C N ∈ ig_all) (hini : Cond.initialized C ∈ ig_all) (hc : vwCl[ci]? = some (C, T, N)) {fs : List Value} (hfs : ∀ j, j < N → defaultValue (ty j) = vp_V fs j) (hcells : cells + 1 ≤ R.cells) (hslots : slots + N ≤ R.slots) (hdg : decode cc pc = .ok (.new index, 3))
    (kx : ∀ (H1 : Heap), ig_GZ D bs s H1 locs (n + 1) (ig_gu g n (.inr (ci, fs))) → W p l e R s m args below meth c H1 locs (cells + 1) (slots + N) Q (F0 m (pc + 3) ls (.ref (bs + n) :: rest))) : W p l e R s m args below meth c H locs cells slots Q (F0 m pc ls rest) := by
  obtain ⟨hx, hb, -, hown, hts⟩ := F
  have hKn := E.1.1 ci _ hc
  refine W.newcK hx hb hown (hts _ hcl) (hts _ hinst) (hts _ hini) rfl hdg hcells hslots hKn.2.1 (h := bs + n) Z.1.1.symm fun H1 kC hkC e1 z1 o1 => ?_
  have hz : H1.size = H.size + 1 := by rw [z1, Z.1.1]
  exact kx H1 (Z.grow hz (fun q hq => o1 q (by rw [Z.1.1]; exact hq)) ⟨_, hc, (u_born ty hts hin hKn hkC e1 hty).to hfs⟩)
theorem ic_kk (E : ig_E D kk ad bs s) (t : Nat) {ty : FieldType} (ht : (ig_tys kk)[t]? = some (kk t, ty)) (hty : ∀ C, ty ≠ .object C) {cA : ClassId} (h : s.vm.findClass ("[" ++ ty.toString) = some cA) : cA = kk t := by
  have h1 := (E.1.2 t _ ht).2
  cases ty <;> first | exact Option.some.inj (h.symm.trans h1) | exact absurd rfl (hty _)
theorem ic_newi (F : CallFix p m c cc nL s args ig_all own) (E : ig_E D kk ad bs s) (Z : ig_GZ D bs s H locs n g) (harr : Cond.arrayClass .int ∈ ig_all) {k : Int32} {N : Nat} (hk : ¬ k < 0) (hN : k.toNatClampNeg = N) (hb1 : N ≤ 10000) (hcells : cells + 1 ≤ R.cells) (hslots : slots + N ≤ R.slots) (hdg : decode cc pc = .ok (.newarray .int, 2))
    (kx : ∀ (H1 : Heap), ig_GZ D bs s H1 locs (n + 1) (ig_gu g n (ig_ar (kk 0) N (fun _ => 0))) → W p l e R s m args below meth c H1 locs (cells + 1) (slots + N) Q (F0 m (pc + 2) ls (.ref (bs + n) :: rest))) : W p l e R s m args below meth c H locs cells slots Q (F0 m pc ls (.int k :: rest)) := by
  refine va_newaK (atype := .int) F.1 F.2.1 (F.2.2.2.2 _ harr) rfl hdg rfl hk hN (by show N * 4 ≤ _; omega) hcells hslots (h := bs + n) Z.1.1.symm fun H1 cA e1 z1 o1 _ hNm => ?_
  have hc := ic_kk E 0 rfl (fun _ h => by cases h) hNm
  subst hc
  exact kx H1 (Z.grow (by rw [z1, Z.1.1]) (fun q hq => o1 q (by rw [Z.1.1]; exact hq)) e1)
theorem ic_newq (F : CallFix p m c cc nL s args ig_all own) (E : ig_E D kk ad bs s) (hAO : ig_AOs s) (Z : ig_GZ D bs s H locs n g) {index : Nat} (hcl : Cond.classLink own index "Intergreen$Phase" ∈ ig_all) {k : Int32} {N : Nat} (hk : ¬ k < 0) (hN : k.toNatClampNeg = N) (hb1 : N ≤ 10000) (hcells : cells + 1 ≤ R.cells) (hslots : slots + N ≤ R.slots) (hdg : decode cc pc = .ok (.anewarray index, 3))
    (kx : ∀ (H1 : Heap), ig_GZ D bs s H1 locs (n + 1) (ig_gu g n (ig_ra (kk 3) N (fun _ => none))) → W p l e R s m args below meth c H1 locs (cells + 1) (slots + N) Q (F0 m (pc + 3) ls (.ref (bs + n) :: rest))) : W p l e R s m args below meth c H locs cells slots Q (F0 m pc ls (.int k :: rest)) := by
  subst hN
  refine W.anew (C := "Intergreen$Phase") F.1 F.2.1 F.2.2.2.1 (F.2.2.2.2 _ hcl) (va_AO.use hAO.1) rfl hdg rfl hk (by omega) hcells hslots fun cA kA comp f1 f2 f3 f4 => ?_
  obtain ⟨kA2, comp2, g1, g2, g3, g4⟩ := (E.1.2 3 _ rfl).2
  have hc : cA = kk 3 := Option.some.inj (f1.symm.trans g4)
  subst hc
  generalize hH1 : H.push ({ cls := kk 3, slots := Array.replicate k.toNatClampNeg .null, vm := .none } : Cell) = H1
  have z1 : H1.size = H.size + 1 := by rw [← hH1, Array.size_push]
  have e1 : H1[H.size]? = some (arrV (kk 3) k.toNatClampNeg (fun _ => .null)) := by rw [← hH1, Array.getElem?_push_size, ← arrV_new]
  have o1 : ∀ q : Nat, q < H.size → H1[q]? = H[q]? := fun q hq => by rw [← hH1, Array.getElem?_push, if_neg (Nat.ne_of_lt hq)]
  rw [← Z.1.1] at e1 ⊢
  exact kx H1 (Z.grow z1 o1 e1)
/-- new int[N][K]: the outer row, the inner ones behind it -/
def ig_gr (kk : Nat → ClassId) (bs n N K : Nat) (g : Nat → va_E) : Nat → va_E := fun j => if j < n then g j else if j = n then ig_ra (kk 4) N (fun i => if i < N then some (bs + n + 1 + i) else none) else ig_ar (kk 0) K (fun _ => 0)
theorem ic_mna (F : CallFix p m c cc nL s args ig_all own) (E : ig_E D kk ad bs s) (hAO : ig_AOs s) (Z : ig_GZ D bs s H locs n g) {index : Nat} (hcl : Cond.classLink own index "[[I" ∈ ig_all) (harr : Cond.arrayClass .int ∈ ig_all) {k1 k2 : Int32} {N K : Nat} (hn : ¬ k1 < 0) (hk : ¬ k2 < 0) (hN : k1.toNatClampNeg = N) (hM : k2.toNatClampNeg = K) (hb1 : N ≤ 100) (hb2 : K ≤ 100) (hcells : cells + (1 + N) ≤ R.cells) (hslots : slots + (N + N * K) ≤ R.slots) (hdg : decode cc pc = .ok (.multianewarray index 2, 4))
    (kx : ∀ (H1 : Heap), ig_GZ D bs s H1 locs (n + 1 + N) (ig_gr kk bs n N K g) → W p l e R s m args below meth c H1 locs (cells + 1 + N) (slots + N + N * K) Q (F0 m (pc + 4) ls (.ref (bs + n) :: rest))) : W p l e R s m args below meth c H locs cells slots Q (F0 m pc ls (.int k2 :: .int k1 :: rest)) := by
  subst hN
  subst hM
  intro T hT Xs
  obtain ⟨vm₁, cA, comp, -, fA, fC, hO, -, X', step⟩ := Xs.multianewarray2F (ty := .int) F.1 F.2.2.2.1 (F.2.2.2.2 _ hcl) (ig_AOA.use hAO.2) (F.2.2.2.2 _ harr) (g := F0 m pc ls (.int k2 :: .int k1 :: rest)) rfl (by rw [F.2.1]; exact hdg) rfl hn hk (by omega) (by show _ * 4 ≤ _; omega) (by omega) rfl rfl hcells hslots
  have hc1 : cA = kk 4 := Option.some.inj (fA.symm.trans (E.1.2 4 _ rfl).2)
  have hc0 : comp = kk 0 := Option.some.inj (fC.symm.trans (E.1.2 0 _ rfl).2)
  subst hc1; subst hc0
  generalize hF : Jvm.Free.Multi.fill (T.setVm vm₁) (kk 4) (kk 0) k1.toNatClampNeg k2.toNatClampNeg (defaultValue .int) k1.toNatClampNeg = Fs at X' step
  have hTh : (T.setVm vm₁).heap = H := hT
  obtain ⟨f1, f2, -, -⟩ := Jvm.Free.Multi.fill_facts (T.setVm vm₁) (kk 4) (kk 0) k1.toNatClampNeg k2.toNatClampNeg (defaultValue .int) k1.toNatClampNeg
  rw [hF, hTh] at f1 f2
  have hold : ∀ x : Nat, x < H.size → Fs.heap[x]? = H[x]? := fun x hx => by
    have := Jvm.Free.Multi.fill_old (T.setVm vm₁) (kk 4) (kk 0) k1.toNatClampNeg k2.toNatClampNeg (defaultValue .int) (a := x) (by rw [hTh]; exact hx) k1.toNatClampNeg
    rw [hF, hTh] at this
    exact this
  have hrow : ∀ j : Nat, j < k1.toNatClampNeg → Fs.heap[H.size + 1 + j]? = some (arrV (kk 0) k2.toNatClampNeg (fun _ => .int 0)) := fun j hj => by
    have := Jvm.Free.Multi.fill_inner (T.setVm vm₁) (kk 4) (kk 0) k1.toNatClampNeg k2.toNatClampNeg (defaultValue .int) k1.toNatClampNeg j hj
    rw [hF, hTh] at this
    rw [this, ← arrV_new]
    rfl
  rw [vr_outer (kk 4) k1.toNatClampNeg H.size k1.toNatClampNeg] at f2
  obtain ⟨t, a1, b1⟩ := kx Fs.heap (by
    obtain ⟨⟨h1, h2⟩, h3⟩ := Z
    refine ⟨⟨by omega, fun i hi => ?_⟩, Nat.le_trans h3.1 (by omega), fun q hq hA => ?_, h3.2.2⟩
    · unfold ig_gr
      by_cases q1 : i < n
      · rw [if_pos q1]
        have h4 := h2 i q1
        exact h4.kept (hold _ h4.lt)
      · rw [if_neg q1]
        by_cases q2 : i = n
        · rw [if_pos q2]
          subst q2
          show Fs.heap[bs + i]? = some (arrV (kk 4) k1.toNatClampNeg (fun j => va_rf (if j < k1.toNatClampNeg then some (bs + i + 1 + j) else none)))
          rw [h1]
          exact f2
        · rw [if_neg q2]
          show Fs.heap[bs + i]? = some (arrV (kk 0) k2.toNatClampNeg (fun _ => .int 0))
          rw [show bs + i = H.size + 1 + (i - n - 1) by omega]
          exact hrow _ (by omega)
    · rw [hold q (Nat.lt_of_lt_of_le hq h3.1)]
      exact h3.2.1 q hq hA) Fs rfl X'
  refine ⟨t, step t ?_, b1⟩
  have e9 : T.heap.size = bs + n := by rw [hT, Z.1.1]
  rw [e9]
  exact a1
theorem ic_astq (F : CallFix p m c cc nL s args ig_all own) (E : ig_E D kk ad bs s) (Z : ig_GZ D bs s H locs n g) {i v N : Nat} {vs : List Value} {f : Nat → Option Nat} (hi : i < n) (he : g i = ig_ra (kk 3) N f) (hv : v < n) (hve : g v = .inr (2, vs)) {j : Int32} (hj : vp_in j N) (hdg : decode cc pc = .ok (.aastore, 1))
    (kx : ∀ (H1 : Heap) (locs1 : List Loc), ig_GZ D bs s H1 locs1 n (ig_gu g i (ig_ra (kk 3) N (va_up f j.toNatClampNeg (some (bs + v))))) → W p l e R s m args below meth c H1 locs1 cells slots Q (F0 m (pc + 1) ls rest)) : W p l e R s m args below meth c H locs cells slots Q (F0 m pc ls (.ref (bs + v) :: .int j :: .ref (bs + i) :: rest)) := by
  have hlt : j.toNatClampNeg < N := Nat.not_le.mp fun q => hj (Or.inr q)
  have h0 : ¬ j < 0 := fun q => hj (Or.inl q)
  have hq : (ig_wn n bs g)[i]? = some (bs + i, .inl (kk 3, N, .inr (.inr (.inr (.inr f))))) := by rw [ig_wn_get _ _ _ hi, he]; rfl
  have hqv : (ig_wn n bs g)[v]? = some (bs + v, .inr (2, vs)) := by rw [ig_wn_get _ _ _ hv, hve]
  obtain ⟨r', hr', cellV, g1, g2, g3, -⟩ := ig_wn_P Z.1.2 v _ hqv
  have hcls := (E.1.1 2 _ rfl).2
  obtain ⟨kA, comp, k1, k2, k3, -⟩ := (E.1.2 3 _ rfl).2
  have hcomp : comp = D.1 2 := Option.some.inj (k3.symm.trans hcls.1)
  subst hcomp
  obtain ⟨kC, hkC, -⟩ := hcls.2
  refine W.aast F.1 F.2.1 (ig_wn_P Z.1.2 i _ hq) (fun q h => by cases h) (fun h => by cases h) k1 k2 rfl hkC ⟨h0, by show _ < (arrV _ _ _).slots.size; rw [arrV_size]; exact hlt⟩ g1 (fun q h => by rw [g3] at h; cases h) (by rw [g2]; exact hkC) (by rw [g2]; exact va_assign hcls) rfl rfl hdg fun H1 e1 z oq => ?_
  refine kx H1 _ (Z.set hi z ((ig_wn_P Z.1.2).set ig_wn_D hq ?_ oq) (Z.2.put z oq (Nat.le_add_right _ _)))
  show H1[bs + i]? = some (vp_cell _ _)
  rw [e1]
  rw [vp_cell_q, vp_cell_q, arrV_store]
  congr 2
  funext q
  by_cases hq2 : q = j.toNatClampNeg
  · subst hq2
    simp [updV, va_up, va_rf]
  · simp [updV, va_up, hq2]
theorem ic_alenq (F : CallFix p m c cc nL s args ig_all own) (E : ig_E D kk ad bs s) (Z : ig_GZ D bs s H locs n g) {i N : Nat} {f : Nat → Option Nat} (hi : i < n) (he : g i = ig_ra (kk 3) N f) {v : Int32} (hv : Int32.ofNat N = v) (hdg : decode cc pc = .ok (.arraylength, 1))
    (kx : W p l e R s m args below meth c H locs cells slots Q (F0 m (pc + 1) ls (.int v :: rest))) : W p l e R s m args below meth c H locs cells slots Q (F0 m pc ls (.ref (bs + i) :: rest)) :=
  va_alen (ty := .object "Intergreen$Phase") F.1 F.2.1 E.1 (ig_wn_P Z.1.2) i 3 (by rw [ig_wn_get _ _ _ hi, he]; rfl) rfl hv hdg kx
theorem ig_GZ.congr (Z : ig_GZ D bs s H locs n g) {g' : Nat → va_E} (h : ∀ i : Nat, i < n → g i = g' i) : ig_GZ D bs s H locs n g' := ⟨⟨Z.1.1, fun i hi => by rw [← h i hi]; exact Z.1.2 i hi⟩, Z.2⟩
theorem ig_GZ.wd (Z : ig_GZ D bs s H locs n g) (E : ig_E D kk ad bs s) (hAO : ig_AOs s) {U : State} (hU : U.heap = H) (hW : s.WarmedH U.vm) : ig_GW D kk ad bs n g U := ⟨E.go Z.2 hU hW, hAO.moved hW.alike, by rw [hU]; exact Z.1⟩
theorem ig_GZ.fr (Z : ig_GZ D bs s H locs n g) {t : State} (ht : t.heap = H) : va_F (ig_A bs) s t := Z.2.F ht
theorem ig_GZ.rf (h : ig_G D bs n g s.heap) : ig_GZ D bs s s.heap [] n g := ⟨h, va_S.rf⟩
theorem ic_blind (av : List Value) : FrameBlind (va_Pc av (ig_GW D kk ad bs n g)) := fun v U g1 mk h => ⟨h.1, h.2.1.same rfl rfl, h.2.2.1.moved (Vm.Alike.refl _), h.2.2.2⟩
theorem ic_preS (E : ig_E D kk ad bs s) (hAO : ig_AOs s) (Z : ig_GZ D bs s H locs n g) {As : List Value} : PreS s H (va_Pc As (ig_GW D kk ad bs n g)) As := ⟨ic_blind _, fun _ hU hW => ⟨rfl, Z.wd E hAO hU hW⟩⟩
variable {y : MethodName} {bytes : ByteArray} {maxL mc ms index : Nat} {rm : Room} {As : List Value} {n' : Nat} {g' : Nat → va_E}
theorem ic_runI (F : CallFix p m c cc nL s args ig_all own) (E : ig_E D kk ad bs s) (hAO : ig_AOs s) (Z : ig_GZ D bs s H locs n g) {lv : List (Nat × Value)} (hl : lv_has ls nL lv) {b : Nat} {Qc : Array Value → State → Outcome → State → Prop} (hM : Met l y (ig_ws y bytes maxL none) rm (va_Pc (.ref b :: As) (ig_GW D kk ad bs n g)) Qc mc ms (ig_A bs))
    (h5 : Cond.code y bytes maxL none ∈ ig_all) (hini : Cond.initialized y.cls ∈ ig_all) (h1 : Cond.methodLink own index y ∈ ig_all) (h2 : Cond.instanceMethod y ∈ ig_all) (hnm : y.name = "<init>") {n0 : Nat} (hd : ig_md y n0) (hn : As.length = n0) (hrm : rm.cells = mc ∧ rm.slots = ms) (hR : rm.frames + 1 ≤ R.frames ∧ 8 + (maxL + 11) + rm.locals ≤ R.locals) (hrest : (rest.map fun v => v.category).sum ≤ 8) (hdg : decode cc pc = .ok (.invokespecial index, 3)) (hf : cells + mc ≤ R.cells ∧ slots + ms ≤ R.slots) :
    va_Run p l e R s m args below meth c H locs cells slots mc ms (F0 m pc ls (As.reverse ++ .ref b :: rest)) rest (Qc (Value.ref b :: As).toArray) (ig_A bs) :=
  va_runI F hM (cwI n0 F.2.2.2.2 (ig_LG h5) rfl hrm.1 hrm.2 (F.2.2.2.2 _ hini) (F.2.2.2.2 _ h1) (F.2.2.2.2 _ h2) hnm hd hR) (ic_preS E hAO Z) rfl hn hl.1 rfl (lv_room hrest) hdg hf
theorem ic_runIN (F : CallFix p m c cc nL s args ig_all own) (E : ig_E D kk ad bs s) (hAO : ig_AOs s) (Z : ig_GZ D bs s H locs n g) {lv : List (Nat × Value)} (hl : lv_has ls nL lv) {b : Nat} {Qc : Array Value → State → Outcome → State → Prop} (hM : Met l y (ig_ws y bytes maxL none) rm (va_Pc (.ref b :: As) (ig_GW D kk ad bs n g)) Qc mc ms (ig_A bs))
    (h5 : Cond.code y bytes maxL none ∈ ig_all) (hini : Cond.initialized y.cls ∈ ig_all) {host : String} (h1 : (own, index, y, host) ∈ ig_nm) (h2 : Cond.instanceMethod y ∈ ig_all) (hnm : y.name = "<init>") {n0 : Nat} (hd : ig_md y n0) (hn : As.length = n0) (hrm : rm.cells = mc ∧ rm.slots = ms) (hR : rm.frames + 1 ≤ R.frames ∧ 8 + (maxL + 11) + rm.locals ≤ R.locals) (hrest : (rest.map fun v => v.category).sum ≤ 8) (hdg : decode cc pc = .ok (.invokespecial index, 3)) (hf : cells + mc ≤ R.cells ∧ slots + ms ≤ R.slots) :
    va_Run p l e R s m args below meth c H locs cells slots mc ms (F0 m pc ls (As.reverse ++ .ref b :: rest)) rest (Qc (Value.ref b :: As).toArray) (ig_A bs) :=
  va_runIN F hM ⟨va_cnB n0 F.2.2.2.2 (ig_LG h5) rfl hrm.1 hrm.2 (E.2.2.2.1.1 _ h1) (F.2.2.2.2 _ hini) hd hR, hnm, F.2.2.2.2 _ h2⟩ (ic_preS E hAO Z) rfl hn hl.1 rfl (lv_room hrest) hdg hf
abbrev ic_Q (D : va_G) (kk : Nat → ClassId) (ad : Nat → Nat) (bs n : Nat) (g : Nat → va_E) : Array Value → State → Outcome → State → Prop := va_Qv (fun _ : Unit => True) (fun _ t => ig_GW D kk ad bs n g t) (ig_A bs)
theorem ic_callv {st0 : List Value} {av : Array Value} (E : ig_E D kk ad bs s) (Z : ig_GZ D bs s H locs n g) (hr : va_Run p l e R s m args below meth c H locs cells slots mc ms (F0 m pc ls st0) rest (ic_Q D kk ad bs n' g' av) (ig_A bs))
    (kx : ∀ (H1 : Heap) (locs1 : List Loc), ig_GZ D bs s H1 locs1 n' g' → W p l e R s m args below meth c H1 locs1 (cells + mc) (slots + ms) Q (F0 m (pc + 3) ls rest)) : W p l e R s m args below meth c H locs cells slots Q (F0 m pc ls st0) :=
  va_callv hr Z.2 (fun _ _ h => h) (fun _ h => h) (fun u t H1 locs1 ht _ hp hB _ _ hS => kx H1 locs1 ⟨by rw [← ht]; exact hB.2.2, hS⟩)
theorem ic_vret (F : CallFix p m c cc nL s args ig_all own) (E : ig_E D kk ad bs s) (hAO : ig_AOs s) (Z : ig_GZ D bs s H locs n g) (hr : meth.sig.returnType = none) (hk : meth.locks = false) (hdg : decode cc pc = .ok (.return_, 1)) : W p l e R s m args below meth c H locs cells slots (MQ below (ic_Q D kk ad bs n g) args s cells slots (ig_A bs)) (F0 m pc ls []) :=
  W.vret F.1 F.2.1 hr (fun t ht hW => ⟨⟨(), rfl, trivial, Z.wd E hAO ht hW⟩, Z.fr ht⟩) Z.2.2.2 hdg
theorem ic_obj (F : CallFix p m c cc nL s args ig_all own) {lv : List (Nat × Value)} (hl : lv_has ls nL lv) {idx b : Nat} (h1 : Cond.methodLink own idx Lib.objectInit ∈ ig_all) (h2 : Cond.instanceMethod Lib.objectInit ∈ ig_all) (h3 : Cond.code Lib.objectInit ⟨#[0xb1]⟩ 1 none ∈ ig_all) (hdg : decode cc pc = .ok (.invokespecial idx, 3)) (hf : 1 ≤ R.frames) (hlo : (rest.map fun v => v.category).sum + 12 ≤ R.locals)
    (kx : W p l e R s m args below meth c H locs cells slots Q (F0 m (pc + 3) ls rest)) : W p l e R s m args below meth c H locs cells slots Q (F0 m pc ls (.ref b :: rest)) :=
  W.objInit F.1 F.2.1 F.2.2.2.1 (F.2.2.2.2 _ h1) (F.2.2.2.2 _ h2) (F.2.2.2.2 _ h3) rfl (by rw [F.2.2.1]; exact hl.1) rfl hdg hf (by show 2 * 0 + _ + 12 ≤ _; omega) kx
/-! the second object: its world begins behind the first one's -/
def ig_ad2 (bs : Nat) : Nat → Nat := fun i => bs + i
theorem ig_E_at (E : ig_E D kk ad bs s) (hS : va_S (ig_A bs) s.heap H locs) {b2 : Nat} (hb : bs ≤ b2) (hz : b2 ≤ H.size) {U : State} (hU : U.heap = H) (hW : s.WarmedH U.vm) : ig_E D kk (ig_ad2 b2) b2 U := by
  have E1 := E.go hS hU hW
  exact ⟨E1.1, ⟨fun i j _ _ h => by unfold ig_ad2 at h; omega, fun i _ => Nat.le_add_right _ _⟩, by rw [hU]; exact hz, E1.2.2.2.1, vx_Zq.narrow E1.2.2.2.2.1 (fun q h => Nat.le_trans hb h), vx_Zq.narrow E1.2.2.2.2.2 (fun q h => Nat.le_trans hb h)⟩
theorem ic_preS2 (E : ig_E D kk ad bs s) (hAO : ig_AOs s) (Z : ig_GZ D bs s H locs n g) {n1 n2 : Nat} {g2 : Nat → va_E} (hn : n1 + n2 = n) (hg : ∀ i : Nat, i < n2 → g (n1 + i) = g2 i) {As : List Value} : PreS s H (va_Pc As (ig_GW D kk (ig_ad2 (bs + n1)) (bs + n1) n2 g2)) As :=
  ⟨ic_blind _, fun U hU hW => ⟨rfl, ig_E_at E Z.2 (Nat.le_add_right _ _) (by have := Z.1.1; omega) hU hW, hAO.moved hW.alike, by
    rw [hU]
    refine ⟨by have := Z.1.1; omega, fun i hi => ?_⟩
    have h := Z.1.2 (n1 + i) (by omega)
    rw [hg i hi, ← Nat.add_assoc] at h
    exact h⟩⟩
theorem ic_runI2 {n1 n2 : Nat} {g2 : Nat → va_E} (F : CallFix p m c cc nL s args ig_all own) (E : ig_E D kk ad bs s) (hAO : ig_AOs s) (Z : ig_GZ D bs s H locs n g) (hn12 : n1 + n2 = n) (hg : ∀ i : Nat, i < n2 → g (n1 + i) = g2 i) {lv : List (Nat × Value)} (hl : lv_has ls nL lv) {b : Nat} {Qc : Array Value → State → Outcome → State → Prop} (hM : Met l y (ig_ws y bytes maxL none) rm (va_Pc (.ref b :: As) (ig_GW D kk (ig_ad2 (bs + n1)) (bs + n1) n2 g2)) Qc mc ms (ig_A (bs + n1)))
    (h5 : Cond.code y bytes maxL none ∈ ig_all) (hini : Cond.initialized y.cls ∈ ig_all) (h1 : Cond.methodLink own index y ∈ ig_all) (h2 : Cond.instanceMethod y ∈ ig_all) (hnm : y.name = "<init>") {n0 : Nat} (hd : ig_md y n0) (hn : As.length = n0) (hrm : rm.cells = mc ∧ rm.slots = ms) (hR : rm.frames + 1 ≤ R.frames ∧ 8 + (maxL + 11) + rm.locals ≤ R.locals) (hrest : (rest.map fun v => v.category).sum ≤ 8) (hdg : decode cc pc = .ok (.invokespecial index, 3)) (hf : cells + mc ≤ R.cells ∧ slots + ms ≤ R.slots) :
    va_Run p l e R s m args below meth c H locs cells slots mc ms (F0 m pc ls (As.reverse ++ .ref b :: rest)) rest (Qc (Value.ref b :: As).toArray) (ig_A (bs + n1)) :=
  va_runI F hM (cwI n0 F.2.2.2.2 (ig_LG h5) rfl hrm.1 hrm.2 (F.2.2.2.2 _ hini) (F.2.2.2.2 _ h1) (F.2.2.2.2 _ h2) hnm hd hR) (ic_preS2 E hAO Z hn12 hg) rfl hn hl.1 rfl (lv_room hrest) hdg hf
theorem ic_callv2 {st0 : List Value} {av : Array Value} {n1 : Nat} {ad2 : Nat → Nat} (Z : ig_GZ D bs s H locs n g) (hn1 : n1 ≤ n) (hr : va_Run p l e R s m args below meth c H locs cells slots mc ms (F0 m pc ls st0) rest (ic_Q D kk ad2 (bs + n1) n' g' av) (ig_A (bs + n1)))
    (kx : ∀ (H1 : Heap) (locs1 : List Loc), ig_GZ D bs s H1 locs1 (n1 + n') (fun i => if i < n1 then g i else g' (i - n1)) → W p l e R s m args below meth c H1 locs1 (cells + mc) (slots + ms) Q (F0 m (pc + 3) ls rest)) : W p l e R s m args below meth c H locs cells slots Q (F0 m pc ls st0) :=
  va_callv hr Z.2 (fun q _ h => Nat.le_trans (Nat.le_add_right _ _) h) (fun q h => Nat.le_trans (Nat.le_add_right _ _) h) (fun u t H1 locs1 ht _ hp hB hz hkeep hS => kx H1 locs1 (by
    obtain ⟨hB1, hB2⟩ := hB.2.2
    rw [ht] at hB1 hB2
    refine ⟨⟨by omega, fun i hi => ?_⟩, hS⟩
    show va_at D vwCl (bs + i, if i < n1 then g i else g' (i - n1)) H1
    by_cases c : i < n1
    · rw [if_pos c]
      have h4 := Z.1.2 i (by omega)
      exact h4.kept (hkeep _ h4.lt (by unfold ig_A; omega))
    · rw [if_neg c]
      have h4 := hB2 (i - n1) (by omega)
      rw [show bs + n1 + (i - n1) = bs + i by omega] at h4
      exact h4))
end IGC
