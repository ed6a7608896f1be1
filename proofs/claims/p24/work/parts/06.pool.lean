/-! ===== the flat memory of both sides: cell i, place j; two objects alike: cells 0..96 are the first one's (memory a), 97..193 the second one's (memory b, numbered 0..96), at the addresses ad i ===== -/
abbrev ig_M : Type := Nat → Nat → Int32
def ig_up (a : ig_M) (i j : Nat) (v : Int32) : ig_M := fun x => if x = i then upd (a i) j v else a x
theorem ig_up_row (a : ig_M) (i j : Nat) (v : Int32) : ig_up a i j v i = upd (a i) j v := if_pos rfl
theorem ig_up_off (a : ig_M) (i j : Nat) (v : Int32) {x : Nat} (h : x ≠ i) : ig_up a i j v x = a x := if_neg h
def ig_mm (a b : ig_M) : ig_M := fun i => if i < 97 then a i else b (i - 97)
theorem ig_mm_a (a b : ig_M) {i : Nat} (h : i < 97) : ig_mm a b i = a i := if_pos h
theorem ig_mm_b (a b : ig_M) {i : Nat} (h : 97 ≤ i) : ig_mm a b i = b (i - 97) := if_neg (by omega)
def ig_rf (ad : Nat → Nat) (n b : Nat) : Nat → Option Nat := fun k => if k < n then some (ad (b + k)) else none
def ig_f0 (ad : Nat → Nat) (la : Int64) (r : Nat → Int32) : List Value := [.ref (ad 1), .ref (ad 21), .int (r 2), .int (r 3), .int (r 4), .int (r 5), .int (r 6), .int (r 7), .long la]
def ig_f1 (ad : Nat → Nat) : List Value := [.ref (ad 22)]
def ig_f2 (r : Nat → Int32) : List Value := [.int (r 0), .int (r 1), .int (r 2), .int (r 3), .int (r 4), .int (r 5), .int (r 6), .int (r 7), .int (r 8), .int (r 9), .int (r 10), .int (r 11)]
def ig_f3 (ad : Nat → Nat) (r : Nat → Int32) : List Value := [.ref (ad 2), .int (r 1), .ref (ad 11), .ref (ad 20), .int (r 4)]
def ig_f4 (ad : Nat → Nat) : List Value := [.ref (ad 1), .ref (ad 25), .ref (ad 32)]
def ig_f5 (ad : Nat → Nat) : List Value := [.ref (ad 1), .ref (ad 21), .ref (ad 23), .ref (ad 24)]
def ig_ar (cA : ClassId) (n : Nat) (r : Nat → Int32) : va_E := .inl (cA, n, .inl r)
def ig_ra (cA : ClassId) (n : Nat) (f : Nat → Option Nat) : va_E := .inl (cA, n, .inr (.inr (.inr (.inr f))))
/-- what the cell i of an object holds, r its row of the memory -/
def ig_c1 (kk : Nat → ClassId) (ad : Nat → Nat) (la : Int64) (r : Nat → Int32) (i : Nat) : va_E :=
  if i = 0 then .inr (5, ig_f5 ad)
  else if i = 1 then .inr (3, ig_f3 ad r)
  else if i = 2 then ig_ra (kk 3) 8 (ig_rf ad 8 3)
  else if i < 11 then .inr (2, ig_f2 r)
  else if i = 11 then ig_ra (kk 4) 8 (ig_rf ad 8 12)
  else if i < 20 then ig_ar (kk 0) 8 r
  else if i = 20 then ig_ar (kk 0) 6 r
  else if i = 21 then .inr (1, ig_f1 ad)
  else if i = 22 then ig_ar (kk 0) 5000 r
  else if i = 23 then .inr (0, ig_f0 ad la r)
  else if i = 24 then .inr (4, ig_f4 ad)
  else if i = 25 then ig_ra (kk 4) 6 (ig_rf ad 6 26)
  else if i < 32 then ig_ar (kk 0) 6 r
  else if i = 32 then ig_ra (kk 4) 64 (ig_rf ad 64 33)
  else ig_ar (kk 0) 6 r
/-- what the cell i of the pool holds (lo is of no use: a place that is kept free) -/
def ig_c (kk : Nat → ClassId) (ad : Nat → Nat) (la lb _lo : Int64) (r : Nat → Int32) (i : Nat) : va_E :=
  if i < 97 then ig_c1 kk ad la r i else ig_c1 kk (fun q => ad (97 + q)) lb r (i - 97)
theorem ig_c_a (kk : Nat → ClassId) (ad : Nat → Nat) (la lb lo : Int64) (r : Nat → Int32) {i : Nat} (h : i < 97) : ig_c kk ad la lb lo r i = ig_c1 kk ad la r i := if_pos h
theorem ig_c_ph (kk : Nat → ClassId) (ad : Nat → Nat) (la lb lo : Int64) (r : Nat → Int32) {k : Nat} (h : k < 8) : ig_c kk ad la lb lo r (3 + k) = .inr (2, ig_f2 r) := by
  rw [ig_c_a _ _ _ _ _ _ (by omega)]
  unfold ig_c1
  rw [if_neg (by omega), if_neg (by omega), if_neg (by omega), if_pos (by omega)]
theorem ig_c_rb (kk : Nat → ClassId) (ad : Nat → Nat) (la lb lo : Int64) (r : Nat → Int32) {k : Nat} (h : k < 8) : ig_c kk ad la lb lo r (12 + k) = ig_ar (kk 0) 8 r := by
  rw [ig_c_a _ _ _ _ _ _ (by omega)]
  unfold ig_c1
  rw [if_neg (by omega), if_neg (by omega), if_neg (by omega), if_neg (by omega), if_neg (by omega), if_pos (by omega)]
theorem ig_c_rc (kk : Nat → ClassId) (ad : Nat → Nat) (la lb lo : Int64) (r : Nat → Int32) {k : Nat} (h : k < 6) : ig_c kk ad la lb lo r (26 + k) = ig_ar (kk 0) 6 r := by
  rw [ig_c_a _ _ _ _ _ _ (by omega)]
  unfold ig_c1
  rw [if_neg (by omega), if_neg (by omega), if_neg (by omega), if_neg (by omega), if_neg (by omega), if_neg (by omega), if_neg (by omega), if_neg (by omega), if_neg (by omega), if_neg (by omega), if_neg (by omega), if_neg (by omega), if_pos (by omega)]
theorem ig_c_rh (kk : Nat → ClassId) (ad : Nat → Nat) (la lb lo : Int64) (r : Nat → Int32) {k : Nat} (h : k < 64) : ig_c kk ad la lb lo r (33 + k) = ig_ar (kk 0) 6 r := by
  rw [ig_c_a _ _ _ _ _ _ (by omega)]
  unfold ig_c1
  rw [if_neg (by omega), if_neg (by omega), if_neg (by omega), if_neg (by omega), if_neg (by omega), if_neg (by omega), if_neg (by omega), if_neg (by omega), if_neg (by omega), if_neg (by omega), if_neg (by omega), if_neg (by omega), if_neg (by omega), if_neg (by omega)]
theorem ig_c_la (kk : Nat → ClassId) (ad : Nat → Nat) (la la' lb lo : Int64) (r : Nat → Int32) {i : Nat} (h : i ≠ 23) : ig_c kk ad la' lb lo r i = ig_c kk ad la lb lo r i := by
  unfold ig_c ig_c1
  simp only [h, if_false]
def ig_A (bs : Nat) : Nat → Prop := fun q => bs ≤ q
def ig_w (g : Nat → va_E) (ad : Nat → Nat) : va_W := (List.range 194).map (fun i => (ad i, g i))
theorem ig_w_get (g : Nat → va_E) (ad : Nat → Nat) {i : Nat} (hi : i < 194) : (ig_w g ad)[i]? = some (ad i, g i) := by
  unfold ig_w
  rw [List.getElem?_map, List.getElem?_range hi]
  rfl
theorem ig_w_len (g : Nat → va_E) (ad : Nat → Nat) : (ig_w g ad).length = 194 := by
  unfold ig_w
  rw [List.length_map, List.length_range]
theorem ig_w_at {g : Nat → va_E} {ad : Nat → Nat} {k : Nat} {q : Nat × va_E} (h : (ig_w g ad)[k]? = some q) : k < 194 ∧ q = (ad k, g k) := by
  have hk : k < 194 := by
    have := (List.getElem?_eq_some_iff.mp h).1
    rwa [ig_w_len] at this
  rw [ig_w_get g ad hk] at h
  exact ⟨hk, (Option.some.inj h).symm⟩
theorem ig_w_set (g : Nat → va_E) (ad : Nat → Nat) {i : Nat} (hi : i < 194) (e : va_E) : (ig_w g ad).set i (ad i, e) = ig_w (fun j => if j = i then e else g j) ad := by
  apply List.ext_getElem?
  intro j
  by_cases hj : j < 194
  · rw [ig_w_get _ ad hj]
    by_cases h : j = i
    · subst h
      rw [List.getElem?_set_self (by rw [ig_w_len]; exact hj), if_pos rfl]
    · rw [List.getElem?_set_ne (Ne.symm h), ig_w_get g ad hj, if_neg h]
  · have h1 : (ig_w (fun j => if j = i then e else g j) ad)[j]? = none := List.getElem?_eq_none (by rw [ig_w_len]; omega)
    have h2 : ((ig_w g ad).set i (ad i, e))[j]? = none := List.getElem?_eq_none (by rw [List.length_set, ig_w_len]; omega)
    rw [h1, h2]
theorem ig_w_P {D : va_G} {g : Nat → va_E} {ad : Nat → Nat} {H : Heap} : (∀ i, i < 194 → va_at D vwCl (ad i, g i) H) ↔ va_P D vwCl (ig_w g ad) H := by
  constructor
  · intro h k q hk
    obtain ⟨h1, rfl⟩ := ig_w_at hk
    exact h k h1
  · intro h i hi
    exact h i _ (ig_w_get g ad hi)
theorem ig_w_D {A : Nat → Prop} {g : Nat → va_E} {ad : Nat → Nat} (h1 : ∀ i j : Nat, i < 194 → j < 194 → ad i = ad j → i = j) (h2 : ∀ i : Nat, i < 194 → A (ad i)) : va_D A (ig_w g ad) := by
  refine ⟨fun i j x y hx hy h => ?_, fun k q hk => ?_⟩
  · obtain ⟨a1, rfl⟩ := ig_w_at hx
    obtain ⟨a2, rfl⟩ := ig_w_at hy
    exact h1 i j a1 a2 h
  · obtain ⟨a1, rfl⟩ := ig_w_at hk
    exact h2 k a1
/-! ===== words: one list for all methods ===== -/
def ig_all : List Cond := lw_tbl.filter goodWord
theorem ig_in {w : Cond} (h : w ∈ lw_tbl) (hg : goodWord w = true) : w ∈ ig_all := List.mem_filter.mpr ⟨h, hg⟩
theorem ig_good {w : Cond} (h : w ∈ ig_all) : w ∈ ig_all ∧ ((w.onTables && w.keeps) = true ∨ ∃ ty, w = .arrayClass ty) := ⟨h, good_of_word (List.mem_filter.mp h).2⟩
def ig_ws (y : MethodName) (cc : ByteArray) (n : Nat) (ret : Option FieldType) : List Cond := .code y cc n ret :: ig_all
theorem ig_LG {y : MethodName} {cc : ByteArray} {n : Nat} {ret : Option FieldType} (h5 : Cond.code y cc n ret ∈ ig_all) : GoodIn ig_all (ig_ws y cc n ret) := by
  intro w hw
  rcases List.mem_cons.mp hw with rfl | h
  · exact ig_good h5
  · exact ig_good h
theorem ig_LV {own C : String} {idx n : Nat} {y : MethodName} {cc : ByteArray} {ret : Option FieldType} (h1 : Cond.methodLink own idx y ∈ ig_all) (h2 : Cond.instanceMethod y ∈ ig_all) (h3 : Cond.selects C y y ∈ ig_all) (h4 : Cond.initialized C ∈ ig_all) (h5 : Cond.code y cc n ret ∈ ig_all) : GoodIn ig_all (wsV own idx C y (ig_ws y cc n ret)) := by
  intro w hw
  rcases List.mem_append.mp hw with h | h
  · rcases List.mem_cons.mp h with rfl | h
    · exact ig_good h1
    rcases List.mem_cons.mp h with rfl | h
    · exact ig_good h2
    rcases List.mem_cons.mp h with rfl | h
    · exact ig_good h3
    rcases List.mem_cons.mp h with rfl | h
    · exact ig_good h4
    cases h
  · exact ig_LG h5 w h
theorem ig_LS {own : String} {idx n : Nat} {y : MethodName} {cc : ByteArray} {ret : Option FieldType} (h1 : Cond.methodLink own idx y ∈ ig_all) (h2 : Cond.static y ∈ ig_all) (h4 : Cond.initialized own ∈ ig_all) (h5 : Cond.code y cc n ret ∈ ig_all) : GoodIn ig_all (wsS own idx y (ig_ws y cc n ret)) := by
  intro w hw
  rcases List.mem_append.mp hw with h | h
  · rcases List.mem_cons.mp h with rfl | h
    · exact ig_good h1
    rcases List.mem_cons.mp h with rfl | h
    · exact ig_good h2
    rcases List.mem_cons.mp h with rfl | h
    · exact ig_good h4
    cases h
  · exact ig_LG h5 w h
def ig_nm : List (String × Nat × MethodName × String) := [("Intergreen$Plan", 26, ⟨"Intergreen$Phase", "<init>", "()V"⟩, "Intergreen"), ("Intergreen", 18, ⟨"Intergreen$Log", "<init>", "()V"⟩, "Intergreen"), ("Intergreen$Plan", 43, ⟨"Intergreen", "isWithin", "(III)Z"⟩, "Intergreen"), ("Intergreen$Plan", 51, ⟨"Intergreen", "has", "(II)Z"⟩, "Intergreen"), ("Intergreen$Rounds", 59, ⟨"Intergreen", "has", "(II)Z"⟩, "Intergreen"), ("Intergreen$Phase", 28, ⟨"Intergreen", "has", "(II)Z"⟩, "Intergreen"), ("Intergreen$Lights", 90, ⟨"Intergreen", "has", "(II)Z"⟩, "Intergreen"), ("Intergreen$Log", 15, ⟨"Intergreen", "isWithin", "(III)Z"⟩, "Intergreen")]
def ig_nd : List MethodName := [⟨"java/lang/RuntimeException", "<init>", "()V"⟩, ⟨"java/lang/RuntimeException", "<init>", "(Ljava/lang/String;)V"⟩, ⟨"java/lang/Exception", "<init>", "()V"⟩, ⟨"java/lang/Exception", "<init>", "(Ljava/lang/String;)V"⟩, ⟨"java/lang/Throwable", "<init>", "()V"⟩, ⟨"java/lang/Throwable", "<init>", "(Ljava/lang/String;)V"⟩]
def ig_nc : List String := ["java/lang/IllegalArgumentException", "java/lang/IllegalStateException", "java/lang/IndexOutOfBoundsException"]
def ig_nn : List (String × String) := [("java/lang/IllegalStateException", "java/lang/IllegalArgumentException"), ("java/lang/IllegalArgumentException", "java/lang/IndexOutOfBoundsException"), ("java/lang/IllegalStateException", "java/lang/IndexOutOfBoundsException")]
def ig_st : List (Nat × String) := [(47, "least, most or gap is out of range"), (62, "no phase can be told any more"), (207, "there is no such phase"), (73, "the same phase twice, or seconds out of range"), (79, "the lights were started, or a stage has both"), (85, "a stage of no phase, or of one that there is not"), (94, "no such stage can be told"), (209, "there is no such stage"), (107, "the lights are changing or on"), (115, "the lights are stopped"), (132, "vehicles is out of range"), (137, "the queue would be too long"), (142, "a phase is asked for"), (144, "nothing is asked for"), (146, "colour is out of range"), (155, "seconds is out of range"), (160, "there would be too many seconds"), (177, "what is out of range"), (170, "that second has not gone by"), (187, "the same phase twice"), (202, "there are not so many stages")]
/-! ===== what every method may lean on: the classes, the pool's addresses, the words that aren't in the one list, the statics and texts of a throw ===== -/
def ig_tys (kk : Nat → ClassId) : List (ClassId × FieldType) := [(kk 0, .int), (kk 1, .int), (kk 2, .int), (kk 3, .object "Intergreen$Phase"), (kk 4, .array .int)]
def ig_iae : String := "java/lang/IllegalArgumentException"
def ig_ise : String := "java/lang/IllegalStateException"
def ig_iob : String := "java/lang/IndexOutOfBoundsException"
def ig_N (s : State) : Prop := (∀ q ∈ ig_nm, va_Nw (.methodLinkNest q.1 q.2.1 q.2.2.1 q.2.2.2) s) ∧ (∀ x ∈ ig_nd, va_Nw (.declares x) s) ∧ (∀ q ∈ ig_nc, va_Nw (.castable q q) s) ∧ (∀ q ∈ ig_nn, va_Nc q.1 q.2 s) ∧ ∀ q ∈ ig_st, ∃ sa : Nat, vk_R RX5 q.1 q.2 sa s
theorem ig_N.warm {s U : State} (hW : s.WarmedH U.vm) (h : ig_N s) : ig_N U :=
  ⟨fun q hq => va_Nw.warmM hW (h.1 q hq), fun x hx => va_Nw.warmD hW (h.2.1 x hx), fun q hq => va_Nw.warmC hW (h.2.2.1 q hq), fun q hq => va_Nc.moved hW.alike (h.2.2.2.1 q hq), fun q hq => by
    obtain ⟨sa, h1⟩ := h.2.2.2.2 q hq
    exact ⟨sa, vk_R.warm hW h1⟩⟩
theorem ig_N.same {s U : State} (hv : s.vm = U.vm) (h : ig_N s) : ig_N U :=
  ⟨fun q hq => va_Nw.same rfl hv (h.1 q hq), fun x hx => va_Nw.same rfl hv (h.2.1 x hx), fun q hq => va_Nw.same rfl hv (h.2.2.1 q hq), fun q hq => va_Nc.moved (by rw [hv]; exact Vm.Alike.refl _) (h.2.2.2.1 q hq), fun q hq => by
    obtain ⟨sa, h1⟩ := h.2.2.2.2 q hq
    exact ⟨sa, vk_R.same hv.symm h1⟩⟩
def ig_X (bs : Nat) (s : State) : Prop := vx_Zq Bundle.tN "UNASSIGNED_STACK" Bundle.steD (ig_A bs) s s.heap ∧ vx_Zq Bundle.tN "SUPPRESSED_SENTINEL" Bundle.listD (ig_A bs) s s.heap
def ig_E (D : va_G) (kk : Nat → ClassId) (ad : Nat → Nat) (bs : Nat) (s : State) : Prop := va_K D vwCl (ig_tys kk) s ∧ ((∀ i j : Nat, i < 194 → j < 194 → ad i = ad j → i = j) ∧ ∀ i : Nat, i < 194 → bs ≤ ad i) ∧ bs ≤ s.heap.size ∧ ig_N s ∧ ig_X bs s
/-- the pool's contents in a heap -/
def ig_P (D : va_G) (kk : Nat → ClassId) (ad : Nat → Nat) (a : ig_M) (la : Int64) (b : ig_M) (lb lo : Int64) (H : Heap) : Prop := ∀ i : Nat, i < 194 → va_at D vwCl (ad i, ig_c kk ad la lb lo (ig_mm a b i) i) H
/-- the world at a state: how a method starts and ends -/
def ig_Wd (D : va_G) (kk : Nat → ClassId) (ad : Nat → Nat) (bs : Nat) (a : ig_M) (la : Int64) (b : ig_M) (lb lo : Int64) (U : State) : Prop := ig_E D kk ad bs U ∧ ig_P D kk ad a la b lb lo U.heap
/-- the world on the way -/
def ig_Z (D : va_G) (kk : Nat → ClassId) (ad : Nat → Nat) (bs : Nat) (s : State) (H : Heap) (locs : List Loc) (a : ig_M) (la : Int64) (b : ig_M) (lb lo : Int64) : Prop := ig_P D kk ad a la b lb lo H ∧ va_S (ig_A bs) s.heap H locs
section IGE
variable {D : va_G} {kk : Nat → ClassId} {ad : Nat → Nat} {bs : Nat} {a b : ig_M} {la lb lo : Int64} {s U : State} {H : Heap} {locs : List Loc}
theorem ig_X.go (h : ig_X bs s) (hS : va_S (ig_A bs) s.heap H locs) (hU : U.heap = H) (hv : s.vm.Alike U.vm) : ig_X bs U := by
  have hq : ∀ q : Nat, q < s.heap.size → ¬ ig_A bs q → U.heap[q]? = s.heap[q]? := fun q h1 h2 => by rw [hU]; exact hS.2.1 q h1 h2
  exact ⟨vx_Zq.moved hv (vx_Zq.kept h.1 hq), vx_Zq.moved hv (vx_Zq.kept h.2 hq)⟩
theorem ig_E.go (E : ig_E D kk ad bs s) (hS : va_S (ig_A bs) s.heap H locs) (hU : U.heap = H) (hW : s.WarmedH U.vm) : ig_E D kk ad bs U :=
  ⟨va_K.moved hW.alike E.1, E.2.1, by rw [hU]; exact Nat.le_trans E.2.2.1 hS.1, ig_N.warm hW E.2.2.2.1, ig_X.go E.2.2.2.2 hS hU hW.alike⟩
theorem ig_E.same (E : ig_E D kk ad bs s) (hv : s.vm = U.vm) (hh : s.heap = U.heap) : ig_E D kk ad bs U :=
  ⟨va_K.moved (by rw [hv]; exact Vm.Alike.refl _) E.1, E.2.1, by rw [← hh]; exact E.2.2.1, ig_N.same hv E.2.2.2.1, ig_X.go E.2.2.2.2 (H := s.heap) (locs := []) va_S.rf hh.symm (by rw [hv]; exact Vm.Alike.refl _)⟩
theorem ig_Wd.calling (h : ig_Wd D kk ad bs a la b lb lo U) (g : JFrame) (mk : MethodId) (av : Array Value) : ig_Wd D kk ad bs a la b lb lo (U.calling g mk av) := ⟨h.1.same rfl rfl, h.2⟩
theorem ig_blind (av : List Value) : FrameBlind (va_Pc av (ig_Wd D kk ad bs a la b lb lo)) := fun v U g mk h => ⟨h.1, h.2.calling g mk v⟩
theorem ig_Z.wd (Z : ig_Z D kk ad bs s H locs a la b lb lo) (E : ig_E D kk ad bs s) (hU : U.heap = H) (hW : s.WarmedH U.vm) : ig_Wd D kk ad bs a la b lb lo U := ⟨E.go Z.2 hU hW, by rw [hU]; exact Z.1⟩
theorem ig_Z.fr (Z : ig_Z D kk ad bs s H locs a la b lb lo) {t : State} (ht : t.heap = H) : va_F (ig_A bs) s t := Z.2.F ht
theorem ig_Z.rf (h : ig_P D kk ad a la b lb lo s.heap) : ig_Z D kk ad bs s s.heap [] a la b lb lo := ⟨h, va_S.rf⟩
theorem ig_E.hA (E : ig_E D kk ad bs s) : ∀ q : Nat, s.heap.size ≤ q → ig_A bs q := fun _ h => Nat.le_trans E.2.2.1 h
theorem ig_E.hD (E : ig_E D kk ad bs s) (g : Nat → va_E) : va_D (ig_A bs) (ig_w g ad) := ig_w_D E.2.1.1 E.2.1.2
end IGE
/-- a method's own class and how many parameters it has -/
abbrev ig_md (y : MethodName) (n : Nat) : Prop := y.cls ≠ "java/lang/invoke/MethodHandle" ∧ y.cls ≠ "java/lang/invoke/VarHandle" ∧ (parseMethodDescriptor y.desc).map (fun d => d.parameters.length) = some n
/-! ===== the rows of the machine over the pool ===== -/
section IGR
variable {p : Program} {l : Launch} {e : Env} {R : Room} {s : State} {m : MethodId} {args : Array Value} {below : List Frame} {meth : Method} {c : Code} {H : Heap} {locs : List Loc} {cells slots : Nat} {Q : State → Prop}
variable {D : va_G} {kk : Nat → ClassId} {ad : Nat → Nat} {bs : Nat} {a b : ig_M} {la lb lo : Int64}
variable {cc : ByteArray} {nL : Nat} {own : String} {pc : Nat} {ls : Array Slot} {rest : List Value}
theorem ig_get (F : CallFix p m c cc nL s args ig_all own) (E : ig_E D kk ad bs s) (Z : ig_Z D kk ad bs s H locs a la b lb lo) {C : String} {T : u_T} {N ci index i : Nat} {fs : List Value} (hi : i < 194) (he : ig_c kk ad la lb lo (ig_mm a b i) i = .inr (ci, fs)) (hc : vwCl[ci]? = some (C, T, N)) (hin : ∀ w ∈ u_ws C T N, w ∈ ig_all) (k : Nat) (hk : k < N) (hlink : Cond.fieldLink own index (T k).1 (T k).2.1 (T k).2.2.1 ∈ ig_all) {v : Value} (hv : fs[k]? = some v) (hdg : decode cc pc = .ok (.getfield index, 3))
    (kx : W p l e R s m args below meth c H locs cells slots Q (F0 m (pc + 3) ls (v :: rest))) : W p l e R s m args below meth c H locs cells slots Q (F0 m pc ls (.ref (ad i) :: rest)) := by
  obtain ⟨hx, hb, -, hown, hts⟩ := F
  exact va_get (D := D) (cl := vwCl) (C := C) (T := T) (N := N) (ci := ci) hx hb hts hin hown E.1 (ig_w_P.mp Z.1) i (by rw [ig_w_get _ _ hi, he]) hc k hk (hts _ hlink) (fun _ h => h) hv hdg kx
theorem ig_put (F : CallFix p m c cc nL s args ig_all own) (E : ig_E D kk ad bs s) (Z : ig_Z D kk ad bs s H locs a la b lb lo) {C : String} {T : u_T} {N ci index i : Nat} {fs : List Value} (hi : i < 194) (he : ig_c kk ad la lb lo (ig_mm a b i) i = .inr (ci, fs)) (hc : vwCl[ci]? = some (C, T, N)) (hin : ∀ w ∈ u_ws C T N, w ∈ ig_all) (ty0 : Nat → FieldType) (hty : ∀ k, k < N → parseFieldDescriptor (T k).2.2.1 = some (ty0 k)) (hnm : ∀ a, a < N → ∀ b, b < N → a ≠ b → (T a).2.1 ≠ (T b).2.1) (k : Nat) (hk : k < N) (hlink : Cond.fieldLink own index (T k).1 (T k).2.1 (T k).2.2.1 ∈ ig_all) (hfin : (T k).2.2.2 = false) {v : Value} {ty : FieldType} (hd : parseFieldDescriptor (T k).2.2.1 = some ty) (hn : narrow ty v = v) (hfit : fits ty v = true) (hl : k < fs.length)
    {a' b' : ig_M} {la' lb' : Int64} (hset : ig_c kk ad la' lb' lo (ig_mm a' b' i) i = .inr (ci, fs.set k v)) (hoff : ∀ j : Nat, j ≠ i → ig_c kk ad la' lb' lo (ig_mm a' b' j) j = ig_c kk ad la lb lo (ig_mm a b j) j) (hdg : decode cc pc = .ok (.putfield index, 3))
    (kx : ∀ (H1 : Heap) (locs1 : List Loc), ig_Z D kk ad bs s H1 locs1 a' la' b' lb' lo → W p l e R s m args below meth c H1 locs1 cells slots Q (F0 m (pc + 3) ls rest)) : W p l e R s m args below meth c H locs cells slots Q (F0 m pc ls (v :: .ref (ad i) :: rest)) := by
  obtain ⟨hx, hb, -, hown, hts⟩ := F
  refine va_put (D := D) (cl := vwCl) (A := ig_A bs) (C := C) (T := T) (N := N) (ci := ci) (ty := ty) hx hb hts hin ty0 hty hnm hown E.1 (ig_w_P.mp Z.1) (E.hD _) Z.2 i (by rw [ig_w_get _ _ hi, he]) hc k hk (hts _ hlink) (fun _ h => h) hfin hd hn hfit hl hdg (fun H1 locs1 hP hD hS => ?_)
  rw [ig_w_set _ _ hi] at hP
  refine kx H1 locs1 ⟨fun j hj => ?_, hS⟩
  have h1 := ig_w_P.mpr hP j hj
  by_cases hji : j = i
  · subst hji
    rw [if_pos rfl] at h1
    rw [hset]
    exact h1
  · rw [if_neg hji] at h1
    rw [hoff j hji]
    exact h1
theorem ig_iald (F : CallFix p m c cc nL s args ig_all own) (E : ig_E D kk ad bs s) (Z : ig_Z D kk ad bs s H locs a la b lb lo) {i n : Nat} {f : Nat → Int32} (hi : i < 194) (he : ig_c kk ad la lb lo (ig_mm a b i) i = ig_ar (kk 0) n f) {j : Int32} (hj : vp_in j n) (hdg : decode cc pc = .ok (.iaload, 1))
    (kx : W p l e R s m args below meth c H locs cells slots Q (F0 m (pc + 1) ls (.int (f j.toNatClampNeg) :: rest))) : W p l e R s m args below meth c H locs cells slots Q (F0 m pc ls (.int j :: .ref (ad i) :: rest)) :=
  va_iald F.1 F.2.1 E.1 (ig_w_P.mp Z.1) i 0 (by rw [ig_w_get _ _ hi, he]; rfl) rfl hj hdg kx
theorem ig_setZ (Z0 : ig_P D kk ad a la b lb lo H) {i : Nat} (hi : i < 194) {H1 : Heap} {x : va_E} (hP : va_P D vwCl ((ig_w (fun i => ig_c kk ad la lb lo (ig_mm a b i) i) ad).set i (ad i, x)) H1) {a' b' : ig_M} {la' lb' lo' : Int64} (hset : ig_c kk ad la' lb' lo' (ig_mm a' b' i) i = x) (hoff : ∀ j : Nat, j ≠ i → ig_c kk ad la' lb' lo' (ig_mm a' b' j) j = ig_c kk ad la lb lo (ig_mm a b j) j) : ig_P D kk ad a' la' b' lb' lo' H1 := by
  rw [ig_w_set _ _ hi] at hP
  intro j hj
  have h1 := ig_w_P.mpr hP j hj
  by_cases hji : j = i
  · subst hji
    rw [if_pos rfl] at h1
    rw [hset]
    exact h1
  · rw [if_neg hji] at h1
    rw [hoff j hji]
    exact h1
theorem ig_offA {i : Nat} (v : Int32) (k : Nat) : ∀ j : Nat, j ≠ i → ig_c kk ad la lb lo (ig_mm (ig_up a i k v) b j) j = ig_c kk ad la lb lo (ig_mm a b j) j := fun j hj => by
  unfold ig_mm
  rw [ig_up_off a i k v hj]
theorem ig_rowA {i : Nat} (h : i < 97) (v : Int32) (k : Nat) : ig_mm (ig_up a i k v) b i = upd (a i) k v := by rw [ig_mm_a _ _ h, ig_up_row]
/-- the class's int rows -/
theorem ig_iastA (F : CallFix p m c cc nL s args ig_all own) (E : ig_E D kk ad bs s) (Z : ig_Z D kk ad bs s H locs a la b lb lo) {i n : Nat} (hi : i < 97) (he : ∀ r, ig_c kk ad la lb lo r i = ig_ar (kk 0) n r) {j x : Int32} (hj : vp_in j n) (hdg : decode cc pc = .ok (.iastore, 1))
    (kx : ∀ (H1 : Heap) (locs1 : List Loc) (a1 : ig_M), a1 = ig_up a i j.toNatClampNeg x → ig_Z D kk ad bs s H1 locs1 a1 la b lb lo → W p l e R s m args below meth c H1 locs1 cells slots Q (F0 m (pc + 1) ls rest)) : W p l e R s m args below meth c H locs cells slots Q (F0 m pc ls (.int x :: .int j :: .ref (ad i) :: rest)) := by
  have hi2 : i < 194 := by omega
  refine va_iast F.1 F.2.1 E.1 (ig_w_P.mp Z.1) (E.hD _) Z.2 i 0 (f := a i) (n := n) (cA := kk 0) (by rw [ig_w_get _ _ hi2, he, ig_mm_a _ _ hi]; rfl) rfl hj hdg (fun H1 locs1 hP _ hS => kx H1 locs1 _ rfl ⟨ig_setZ Z.1 hi2 hP (by rw [ig_rowA hi, he]; rfl) (ig_offA _ _), hS⟩)
/-- an element of a row of references: the cell base + j -/
theorem ig_aald (F : CallFix p m c cc nL s args ig_all own) (E : ig_E D kk ad bs s) (Z : ig_Z D kk ad bs s H locs a la b lb lo) {i n t0 b0 : Nat} {cA : ClassId} {ty : FieldType} (ht : (ig_tys kk)[t0]? = some (cA, ty)) (hty : ty = .object "Intergreen$Phase" ∨ ty = .array .int) (hi : i < 194) (he : ig_c kk ad la lb lo (ig_mm a b i) i = ig_ra cA n (ig_rf ad n b0)) {j : Int32} (hj : vp_in j n) (hdg : decode cc pc = .ok (.aaload, 1))
    (kx : W p l e R s m args below meth c H locs cells slots Q (F0 m (pc + 1) ls (.ref (ad (b0 + j.toNatClampNeg)) :: rest))) : W p l e R s m args below meth c H locs cells slots Q (F0 m pc ls (.int j :: .ref (ad i) :: rest)) := by
  have hlt : j.toNatClampNeg < n := Nat.not_le.mp fun q => hj (Or.inr q)
  have hv : va_rf (ig_rf ad n b0 j.toNatClampNeg) = .ref (ad (b0 + j.toNatClampNeg)) := by unfold ig_rf; rw [if_pos hlt]; rfl
  have hcell := Z.1 i hi
  rw [he] at hcell
  rcases hty with rfl | rfl
  · exact W.aald (v := .ref (ad (b0 + j.toNatClampNeg))) (ty := .object "Intergreen$Phase") F.1 F.2.1 hcell ((E.1.2 t0 _ ht).1 n (fun q => va_rf (ig_rf ad n b0 q))) rfl (fun q => by cases q) (by show ¬ (j < 0 ∨ (arrV _ _ _).slots.size ≤ _); rw [arrV_size]; exact hj) (by show (arrV _ _ _).slots[_]? = _; rw [arrV_read _ _ hlt, hv]) rfl rfl hdg kx
  · exact W.aald (v := .ref (ad (b0 + j.toNatClampNeg))) (ty := .array .int) F.1 F.2.1 hcell ((E.1.2 t0 _ ht).1 n (fun q => va_rf (ig_rf ad n b0 q))) rfl (fun q => by cases q) (by show ¬ (j < 0 ∨ (arrV _ _ _).slots.size ≤ _); rw [arrV_size]; exact hj) (by show (arrV _ _ _).slots[_]? = _; rw [arrV_read _ _ hlt, hv]) rfl rfl hdg kx
theorem ig_alen (F : CallFix p m c cc nL s args ig_all own) (E : ig_E D kk ad bs s) (Z : ig_Z D kk ad bs s H locs a la b lb lo) {i n : Nat} {f : Nat → Int32} (hi : i < 194) (he : ig_c kk ad la lb lo (ig_mm a b i) i = ig_ar (kk 0) n f) {v : Int32} (hv : Int32.ofNat n = v) (hdg : decode cc pc = .ok (.arraylength, 1))
    (kx : W p l e R s m args below meth c H locs cells slots Q (F0 m (pc + 1) ls (.int v :: rest))) : W p l e R s m args below meth c H locs cells slots Q (F0 m pc ls (.ref (ad i) :: rest)) :=
  va_alen (ty := .int) F.1 F.2.1 E.1 (ig_w_P.mp Z.1) i 0 (by rw [ig_w_get _ _ hi, he]; rfl) rfl hv hdg kx
/-! calls -/
theorem ig_recv (E : ig_E D kk ad bs s) (Z : ig_Z D kk ad bs s H locs a la b lb lo) {i ci : Nat} {q : vw_C} {fs : List Value} (hi : i < 194) (he : ig_c kk ad la lb lo (ig_mm a b i) i = .inr (ci, fs)) (hc : vwCl[ci]? = some q) : ∃ cell : Cell, H[ad i]? = some cell ∧ cell.vm.isStatics = false ∧ s.vm.findClass q.1 = some cell.cls :=
  va_recv E.1 (ig_w_P.mp Z.1) hc (q0 := i) (by rw [ig_w_get _ _ hi, he])
theorem ig_preV (E : ig_E D kk ad bs s) (Z : ig_Z D kk ad bs s H locs a la b lb lo) {i ci : Nat} {q : vw_C} {fs As : List Value} (hi : i < 194) (he : ig_c kk ad la lb lo (ig_mm a b i) i = .inr (ci, fs)) (hc : vwCl[ci]? = some q) : PreV s H q.1 (ad i) (va_Pc (.ref (ad i) :: As) (ig_Wd D kk ad bs a la b lb lo)) As :=
  ⟨ig_blind _, ig_recv E Z hi he hc, fun _ hU hW => ⟨rfl, Z.wd E hU hW⟩⟩
theorem ig_preS (E : ig_E D kk ad bs s) (Z : ig_Z D kk ad bs s H locs a la b lb lo) {As : List Value} : PreS s H (va_Pc As (ig_Wd D kk ad bs a la b lb lo)) As :=
  ⟨ig_blind _, fun _ hU hW => ⟨rfl, Z.wd E hU hW⟩⟩
theorem ig_calli {S : Type} {post : Int32 → S → Prop} {fa fb : S → ig_M} {fla flb flo : S → Int64} {st0 : List Value} {mc ms : Nat} {av : Array Value} (E : ig_E D kk ad bs s) (Z : ig_Z D kk ad bs s H locs a la b lb lo) (hr : va_Run p l e R s m args below meth c H locs cells slots mc ms (F0 m pc ls st0) rest (va_Qi post (fun u t => ig_Wd D kk ad bs (fa u) (fla u) (fb u) (flb u) (flo u) t) (ig_A bs) av) (ig_A bs))
    (kx : ∀ (r : Int32) (u : S) (H1 : Heap) (locs1 : List Loc), post r u → ig_Z D kk ad bs s H1 locs1 (fa u) (fla u) (fb u) (flb u) (flo u) → W p l e R s m args below meth c H1 locs1 (cells + mc) (slots + ms) Q (F0 m (pc + 3) ls (.int r :: rest))) : W p l e R s m args below meth c H locs cells slots Q (F0 m pc ls st0) :=
  va_calli hr Z.2 (fun _ _ h => h) (fun _ h => h) (fun r u t H1 locs1 ht _ hp hB _ _ hS => kx r u H1 locs1 hp ⟨by rw [← ht]; exact hB.2, hS⟩)
theorem ig_calll {S : Type} {post : Int64 → S → Prop} {fa fb : S → ig_M} {fla flb flo : S → Int64} {st0 : List Value} {mc ms : Nat} {av : Array Value} (E : ig_E D kk ad bs s) (Z : ig_Z D kk ad bs s H locs a la b lb lo) (hr : va_Run p l e R s m args below meth c H locs cells slots mc ms (F0 m pc ls st0) rest (va_Ql post (fun u t => ig_Wd D kk ad bs (fa u) (fla u) (fb u) (flb u) (flo u) t) (ig_A bs) av) (ig_A bs))
    (kx : ∀ (r : Int64) (u : S) (H1 : Heap) (locs1 : List Loc), post r u → ig_Z D kk ad bs s H1 locs1 (fa u) (fla u) (fb u) (flb u) (flo u) → W p l e R s m args below meth c H1 locs1 (cells + mc) (slots + ms) Q (F0 m (pc + 3) ls (.long r :: rest))) : W p l e R s m args below meth c H locs cells slots Q (F0 m pc ls st0) :=
  va_calll hr Z.2 (fun _ _ h => h) (fun _ h => h) (fun r u t H1 locs1 ht _ hp hB _ _ hS => kx r u H1 locs1 hp ⟨by rw [← ht]; exact hB.2, hS⟩)
theorem ig_callv {S : Type} {post : S → Prop} {fa fb : S → ig_M} {fla flb flo : S → Int64} {st0 : List Value} {mc ms : Nat} {av : Array Value} (E : ig_E D kk ad bs s) (Z : ig_Z D kk ad bs s H locs a la b lb lo) (hr : va_Run p l e R s m args below meth c H locs cells slots mc ms (F0 m pc ls st0) rest (va_Qv post (fun u t => ig_Wd D kk ad bs (fa u) (fla u) (fb u) (flb u) (flo u) t) (ig_A bs) av) (ig_A bs))
    (kx : ∀ (u : S) (H1 : Heap) (locs1 : List Loc), post u → ig_Z D kk ad bs s H1 locs1 (fa u) (fla u) (fb u) (flb u) (flo u) → W p l e R s m args below meth c H1 locs1 (cells + mc) (slots + ms) Q (F0 m (pc + 3) ls rest)) : W p l e R s m args below meth c H locs cells slots Q (F0 m pc ls st0) :=
  va_callv hr Z.2 (fun _ _ h => h) (fun _ h => h) (fun u t H1 locs1 ht _ hp hB _ _ hS => kx u H1 locs1 hp ⟨by rw [← ht]; exact hB.2, hS⟩)
variable {y : MethodName} {bytes : ByteArray} {maxL mc ms n index : Nat} {ret : Option FieldType} {rm : Room} {Qc : Array Value → State → Outcome → State → Prop} {As : List Value}
/-- a virtual call of a method of the pool's object i -/
theorem ig_runV (F : CallFix p m c cc nL s args ig_all own) (E : ig_E D kk ad bs s) (Z : ig_Z D kk ad bs s H locs a la b lb lo) {lv : List (Nat × Value)} (hl : lv_has ls nL lv) {i ci : Nat} {q : vw_C} {fs : List Value} (G : GoodIn ig_all (wsV own index q.1 y (ig_ws y bytes maxL ret))) (hM : Met l y (ig_ws y bytes maxL ret) rm (va_Pc (.ref (ad i) :: As) (ig_Wd D kk ad bs a la b lb lo)) Qc mc ms (ig_A bs)) (hi : i < 194) (he : ig_c kk ad la lb lo (ig_mm a b i) i = .inr (ci, fs)) (hc : vwCl[ci]? = some q)
    (hcls : y.cls = q.1) {n0 : Nat} (hd : ig_md y n0) (hn : As.length = n0) (hrm : rm.cells = mc ∧ rm.slots = ms) (hR : rm.frames + 1 ≤ R.frames ∧ 8 + (maxL + 11) + rm.locals ≤ R.locals) (hrest : (rest.map fun v => v.category).sum ≤ 8) (hdg : decode cc pc = .ok (.invokevirtual index, 3)) (hf : cells + mc ≤ R.cells ∧ slots + ms ≤ R.slots) :
    va_Run p l e R s m args below meth c H locs cells slots mc ms (F0 m pc ls (As.reverse ++ .ref (ad i) :: rest)) rest (Qc (Value.ref (ad i) :: As).toArray) (ig_A bs) :=
  va_runV F hM (cwV n0 F.2.2.2.2 G rfl hrm.1 hrm.2 ⟨hcls, hd⟩ hR) (ig_preV E Z hi he hc) rfl hn hl.1 rfl (lv_room hrest) hdg hf
/-- a static call in the same class -/
theorem ig_runS (F : CallFix p m c cc nL s args ig_all own) (E : ig_E D kk ad bs s) (Z : ig_Z D kk ad bs s H locs a la b lb lo) {lv : List (Nat × Value)} (hl : lv_has ls nL lv) (G : GoodIn ig_all (wsS own index y (ig_ws y bytes maxL ret))) (hM : Met l y (ig_ws y bytes maxL ret) rm (va_Pc As (ig_Wd D kk ad bs a la b lb lo)) Qc mc ms (ig_A bs))
    (hcls : y.cls = own) {n0 : Nat} (hd : ig_md y n0) (hn : As.length = n0) (hrm : rm.cells = mc ∧ rm.slots = ms) (hR : rm.frames + 1 ≤ R.frames ∧ 8 + (maxL + 11) + rm.locals ≤ R.locals) (hrest : (rest.map fun v => v.category).sum ≤ 8) (hdg : decode cc pc = .ok (.invokestatic index, 3)) (hf : cells + mc ≤ R.cells ∧ slots + ms ≤ R.slots) :
    va_Run p l e R s m args below meth c H locs cells slots mc ms (F0 m pc ls (As.reverse ++ rest)) rest (Qc As.toArray) (ig_A bs) :=
  va_runS F hM (cwS n0 F.2.2.2.2 G rfl hrm.1 hrm.2 ⟨hcls, hd⟩ hR) (ig_preS E Z) rfl hn hl.1 rfl (lv_room hrest) hdg hf
/-- a static call of a nest mate's method -/
theorem ig_runSN (F : CallFix p m c cc nL s args ig_all own) (E : ig_E D kk ad bs s) (Z : ig_Z D kk ad bs s H locs a la b lb lo) {lv : List (Nat × Value)} (hl : lv_has ls nL lv) {host : String} (h0 : (own, index, y, host) ∈ ig_nm) (G : GoodIn ig_all (ig_ws y bytes maxL ret)) (hini : Cond.initialized y.cls ∈ ig_all) (hst : Cond.static y ∈ ig_all) (hM : Met l y (ig_ws y bytes maxL ret) rm (va_Pc As (ig_Wd D kk ad bs a la b lb lo)) Qc mc ms (ig_A bs))
    {n0 : Nat} (hd : ig_md y n0) (hn : As.length = n0) (hrm : rm.cells = mc ∧ rm.slots = ms) (hR : rm.frames + 1 ≤ R.frames ∧ 8 + (maxL + 11) + rm.locals ≤ R.locals) (hrest : (rest.map fun v => v.category).sum ≤ 8) (hdg : decode cc pc = .ok (.invokestatic index, 3)) (hf : cells + mc ≤ R.cells ∧ slots + ms ≤ R.slots) :
    va_Run p l e R s m args below meth c H locs cells slots mc ms (F0 m pc ls (As.reverse ++ rest)) rest (Qc As.toArray) (ig_A bs) :=
  va_runSN F hM ⟨va_cnB n0 F.2.2.2.2 G rfl hrm.1 hrm.2 (E.2.2.2.1.1 _ h0) (F.2.2.2.2 _ hini) hd hR, F.2.2.2.2 _ hst, trivial⟩ (ig_preS E Z) rfl hn hl.1 rfl (lv_room hrest) hdg hf
end IGR
theorem ig_narrow {v : Int32} (h : v = 0 ∨ v = 1) : narrow .boolean (.int v) = .int v := by
  rcases h with rfl | rfl <;> decide
