/-! ===== rounds: the model's side ===== -/
def fI : Option Nat → Int32
  | none => -1
  | some m => nI m
/-- whether m is better than what was found -/
def btr : Option Nat → Nat → Bool
  | none, _ => true
  | some q, m => decide (m < q)
def cpF (j : Nat) (s : ig_M) : ig_M := ig_up s 114 j (s 113 j)
theorem cp_off (b : ig_M) : ∀ n i, i ≠ 114 → foldN cpF n b i = b i
  | 0, _, _ => rfl
  | n + 1, i, h => by
    show ig_up (foldN cpF n b) 114 n (foldN cpF n b 113 n) i = b i
    rw [up_row h, cp_off b n i h]
theorem cp_on (b : ig_M) : ∀ n j, foldN cpF n b 114 j = if j < n then b 113 j else b 114 j
  | 0, j => by rw [if_neg (Nat.not_lt_zero j)]; rfl
  | n + 1, j => by
    show ig_up (foldN cpF n b) 114 n (foldN cpF n b 113 n) 114 j = _
    rw [up_app, if_pos rfl, cp_off b n 113 (by omega)]
    by_cases e : j = n
    · rw [if_pos e, if_pos (by omega), e]
    · rw [if_neg e, cp_on b n j]
      by_cases f : j < n
      · rw [if_pos f, if_pos (by omega)]
      · rw [if_neg f, if_neg (by omega)]
theorem neg_nI {n : Nat} (h : n < 2 ^ 31) : ¬ nI n = -1 := fun z => by
  have := nI_toInt h
  rw [z] at this
  have e : (-1 : Int32).toInt = -1 := by decide
  omega
section RNDB
variable {np ns t w : Nat} {a : ig_M} {la : Int64} {b b0 : ig_M} {lb lo : Int64}
theorem chv_same {b b' : ig_M} (h1 : b' 101 = b 101) (h2 : b' 102 = b 102) (np i j : Nat) : chv b' np i j = chv b np i j := by
  unfold chv chF
  rw [h1, h2]
theorem w_lsB (hnp : np ≤ 8) (h : b 97 2 = nI np) {s : Nat} (hs : s < 6) (post : Int32 → Prop) (hp : post (mbv (b 102 s) (b 98) np)) : wp_X6_leastOf b lb (nI s) post := by
  refine fold_loop (fun n k v => wp_X6_leastOf_4 b lb post n (nI s) v (nI k)) (mbF (b 102 s) (b 98)) np 0 (fun n => ⟨fun _ => hp, fun z => absurd (by rw [h]; exact le_self np) z⟩) ?_
  intro n k hk ih
  generalize foldN _ k _ = v at ih ⊢
  refine ⟨fun z => absurd (by rw [h] at z; exact z) (nle_of hk (by omega)), fun _ => ⟨vp_in_nI hs (by omega), ?_⟩⟩
  rw [w_has6, nI_1, nI_clamp (by omega), nI_clamp (by omega)]
  unfold mbF at ih
  cases c : hb (b 102 s) (nI k)
  · rw [c, if_neg (by decide)] at ih
    exact ⟨fun _ => ih, fun z => absurd rfl z⟩
  · rw [c, if_pos rfl, ← mxI_if] at ih
    refine ⟨fun z => absurd z ne10, fun _ => ⟨vp_in_nI (by omega) (by omega), fun z => ?_, fun z => ⟨vp_in_nI (by omega) (by omega), ?_⟩⟩⟩
    · rw [if_pos z] at ih; exact ih
    · rw [if_neg z] at ih; exact ih
theorem w_takes (hnp : np ≤ 8) (hns : ns ≤ 6) (hns0 : 0 < ns) (h2 : b 97 2 = nI np) (h7 : b 97 7 = nI ns) {c : Nat → Nat → Nat} {l : Nat → Nat} (hc : ∀ i j, chv b np i j = nI (c i j)) (hl : ∀ s, mbv (b 102 s) (b 98) np = nI (l s)) {row : Nat → Nat} (hrow : ∀ j, j < ns → b 113 j = nI (row j) ∧ row j < ns)
    (post : Int32 → Prop) (hp : post (nI (foldN (tkF l c row ns) ns 0))) : wp_X6_takes b lb post := by
  refine fold_loop (fun n k v => wp_X6_takes_4 b lb post n (nI v) (nI k)) (tkF l c row ns) ns 0 (fun n => ⟨fun _ => hp, fun z => absurd (by rw [h7]; exact le_self ns) z⟩) ?_
  intro n k hk ih
  generalize foldN _ k _ = v at ih ⊢
  have hm : (k + 1) % ns < ns := Nat.mod_lt _ hns0
  have hz : ¬ nI ns = 0 := fun z => absurd ((nI_eq (a := ns) (b := 0) (by omega) (by omega)).mp z) (by omega)
  have e1 : nI (k + 1) / nI ns = nI ((k + 1) / ns) := pk_div (by omega) hns0 (by omega)
  have e2 : nI (k + 1) - nI ((k + 1) / ns) * nI ns = nI ((k + 1) % ns) := by
    have hdm := Nat.div_add_mod (k + 1) ns
    have hcm := Nat.mul_comm ns ((k + 1) / ns)
    rw [pk_mul, pk_sub (a := k + 1) (b := (k + 1) / ns * ns) (by omega)]
    congr 1
    omega
  refine ⟨fun z => absurd (by rw [h7] at z; exact z) (nle_of hk (by omega)), fun _ => ⟨vp_in_nI (by omega) (by omega), ?_⟩⟩
  rw [nI_clamp (by omega), (hrow k hk).1, nI_1, h7, e1, e2, nI_clamp (by omega), (hrow _ hm).1]
  have r1 := (hrow k hk).2
  have r2 := (hrow _ hm).2
  refine w_lsB hnp h2 (by omega) _ ?_
  rw [hl]
  refine ⟨vp_in_nI (by omega) (by omega), hz, vp_in_nI (by omega) (by omega), w_chB hnp h2 (by omega) (by omega) _ ?_⟩
  rw [hc, nI_add, nI_add]
  exact ih
theorem w_new {k : Nat} (hk : k < 6) (post : Int32 → Prop) (hp : post (cond (anyN (fun j => decide (b 113 j = b 113 k)) k) 0 1)) : wp_X6_isNew b lb (nI k) post := by
  refine flag_loop (fun n j v => wp_X6_isNew_4 b lb post n (nI k) v (nI j)) post (fun j => decide (b 113 j = b 113 k)) 1 0 k ?_ ?_ ?_ hp
  · intro n v hv hpv
    exact ⟨fun _ => ⟨hv.symm, hpv⟩, fun z => absurd (le_self k) z⟩
  · intro n j hj ih
    refine ⟨fun z => absurd z (nle_of hj (by omega)), fun _ => ⟨fun z => absurd z ne10, fun _ => ⟨vp_in_nI (by omega) (by omega), vp_in_nI (by omega) (by omega), ?_⟩⟩⟩
    rw [nI_clamp (by omega), nI_clamp (by omega), nI_1]
    refine ⟨fun z => ?_, fun z => ?_⟩
    · rw [decide_eq_true z] at ih; exact ih
    · rw [decide_eq_false z] at ih; exact ih
  · intro n j hj ih
    refine ⟨fun z => absurd z (nle_of hj (by omega)), fun _ => ⟨fun _ => ?_, fun z => absurd rfl z⟩⟩
    rw [nI_1]
    exact ih
/-- what a node of the search leaves behind -/
def outc (c : Nat → Nat → Nat) (n : Nat) (b : ig_M) (F : Option Nat) (k V x M : Nat) (b' : ig_M) (F' : Option Nat) : Prop :=
  (∀ i, ¬ (i = 113 ∨ i = 114) → b' i = b i) ∧ (∀ j, j ≤ k → b' 113 j = b 113 j) ∧
  ((btr F M = true ∧ F' = some M ∧ ∀ j, j < n → b' 114 j = if j ≤ k then b 113 j else nI (itN c n (j - k) V x)) ∨ (btr F M = false ∧ F' = F ∧ ∀ j, j < n → b' 114 j = b 114 j))
def rowx (row : Nat → Nat) (k v : Nat) : Nat → Nat := fun j => if j = k then v else row j
theorem smN_x {g : Nat → Nat → Nat} (row : Nat → Nat) (k v : Nat) : ∀ n, n ≤ k → smN (fun j => g j (rowx row k v j)) n = smN (fun j => g j (row j)) n := fun n hn => smN_congr n (fun i hi => by unfold rowx; rw [if_neg (by omega)])
/-- what holds as a node is entered: rows 0..k are told, the last one is new among them -/
def nodeH (l : Nat → Nat) (n : Nat) (b : ig_M) (row : Nat → Nat) (k V : Nat) : Prop :=
  (∀ j, j ≤ k → b 113 j = nI (row j) ∧ row j < n) ∧ row 0 = 0 ∧ V < 2 ^ n ∧ rkN V n + k + 1 = n ∧ (∀ v, V.testBit v = true ↔ ∃ j, j ≤ k ∧ row j = v) ∧ smN (fun j => l (row j)) (k + 1) = smV l V n ∧ (∀ j, j < k → ¬ row j = row k)
/-- the seconds of the changes among the rows 0..k -/
def accN (c : Nat → Nat → Nat) (row : Nat → Nat) (k : Nat) : Nat := smN (fun j => c (row j) (row (j + 1))) k
theorem accN_x (c : Nat → Nat → Nat) (row : Nat → Nat) (k v : Nat) : accN c (rowx row (k + 1) v) (k + 1) = accN c row k + c (row k) v := by
  unfold accN
  rw [smN_s]
  congr 1
  · refine smN_congr k (fun i hi => ?_)
    unfold rowx
    rw [if_neg (by omega), if_neg (by omega)]
  · unfold rowx
    rw [if_neg (by omega), if_pos rfl]
theorem node_x {l : Nat → Nat} {n : Nat} {b b' : ig_M} {row : Nat → Nat} {k V v : Nat} (hk : k + 1 < n) (h : nodeH l n b row k V) (hv : v < n) (hnew : V.testBit v = false) (hb : ∀ j, j ≤ k → b' 113 j = b 113 j) (hb2 : b' 113 (k + 1) = nI v) : nodeH l n b' (rowx row (k + 1) v) (k + 1) (V ||| 2 ^ v) := by
  obtain ⟨h1, h2, h3, h4, h5, h6, h7⟩ := h
  have e0 : ∀ j, j ≤ k → rowx row (k + 1) v j = row j := fun j hj => by unfold rowx; rw [if_neg (by omega)]
  have e1 : rowx row (k + 1) v (k + 1) = v := by unfold rowx; rw [if_pos rfl]
  refine ⟨fun j hj => ?_, ?_, or_lt h3 hv, ?_, fun u => ?_, ?_, fun j hj => ?_⟩
  · by_cases e : j = k + 1
    · subst e; rw [e1]; exact ⟨hb2, hv⟩
    · rw [e0 j (by omega), hb j (by omega)]; exact h1 j (by omega)
  · rw [e0 0 (by omega)]; exact h2
  · have := rk_or hnew n hv; omega
  · rw [tb_or, Bool.or_eq_true, decide_eq_true_eq, h5 u]
    constructor
    · rintro (⟨j, j1, j2⟩ | e)
      · exact ⟨j, by omega, by rw [e0 j j1]; exact j2⟩
      · exact ⟨k + 1, Nat.le_refl _, by rw [e1]; exact e⟩
    · rintro ⟨j, j1, j2⟩
      by_cases e : j = k + 1
      · subst e; rw [e1] at j2; exact Or.inr j2
      · rw [e0 j (by omega)] at j2; exact Or.inl ⟨j, by omega, j2⟩
  · rw [smN_s, e1, smV_or l hnew n hv, ← h6]
    congr 1
    exact smN_congr (k + 1) (fun i hi => by rw [e0 i (by omega)])
  · rw [e1, e0 j (by omega)]
    intro z
    have : V.testBit v = true := (h5 v).mpr ⟨j, by omega, z⟩
    rw [hnew] at this
    cases this
theorem new_of {n : Nat} {l : Nat → Nat} {b : ig_M} {row : Nat → Nat} {k V : Nat} (hn : n ≤ 6) (h : nodeH l n b row k V) : anyN (fun j => decide (b 113 j = b 113 k)) k = false := by
  rw [anyN_f]
  intro j hj
  have r1 := h.1 j (by omega)
  have r2 := h.1 k (by omega)
  rw [r1.1, r2.1]
  exact decide_eq_false (fun z => h.2.2.2.2.2.2 j hj ((nI_eq (by omega) (by omega)).mp z))
theorem btr_lt {F : Option Nat} (hF : ∀ q, F = some q → q < 2 ^ 31) {M : Nat} (hM : M < 2 ^ 31) (P Q : Prop) (hP : btr F M = true → P) (hQ : btr F M = false → Q) : (fI F = -1 → P) ∧ (¬ fI F = -1 → ((fI F ≤ nI M → Q) ∧ (¬ fI F ≤ nI M → P))) := by
  cases F with
  | none => exact ⟨fun _ => hP rfl, fun z => absurd rfl z⟩
  | some q =>
    have hq := hF q rfl
    refine ⟨fun z => absurd z (neg_nI hq), fun _ => ⟨fun z => hQ ?_, fun z => hP ?_⟩⟩
    · exact decide_eq_false (fun y => absurd ((nI_leI hq hM).mp z) (by omega))
    · exact decide_eq_true (Nat.lt_of_not_le (fun y => z ((nI_leI hq hM).mpr y)))
theorem w_node (hnp : np ≤ 8) (hns : ns ≤ 6) (h2 : b0 97 2 = nI np) (h7 : b0 97 7 = nI ns) {c : Nat → Nat → Nat} {l : Nat → Nat} (hc0 : ∀ i j, c i j ≤ 20) (hl0 : ∀ s, l s ≤ 30) (hc : ∀ i j, chv b0 np i j = nI (c i j)) (hl : ∀ s, mbv (b0 102 s) (b0 98) np = nI (l s)) (post : Int32 → ig_M → Int64 → Prop) :
    ∀ r k, k + r + 1 = ns → ∀ (row : Nat → Nat) (V : Nat) (b : ig_M) (F : Option Nat), (∀ i, ¬ (i = 113 ∨ i = 114) → b i = b0 i) → nodeH l ns b row k V → (∀ q, F = some q → q < 2 ^ 31) → (∀ b' F', outc c ns b F k V (row k) (smN l ns + accN c row k + hV c ns V (row k)) b' F' → ∃ j, wp_X6_shortest_11 post j b' lb (fI F') (nI k)) →
      ∃ j, wp_X6_shortest_64 (fun z0 z1 z2 z3 => wp_X6_shortest_11 post j z0 z1 z2 z3) post b lb (fI F) (nI k)
  | 0, k, hk, row, V, b, F, hb, hN, hF, cont => by
    have hk6 : k < 6 := by omega
    have hr0 : rkN V ns = 0 := by have := hN.2.2.2.1; omega
    have e7 : b 97 7 = nI ns := by rw [hb 97 (by omega)]; exact h7
    have e2 : b 97 2 = nI np := by rw [hb 97 (by omega)]; exact h2
    have hkn : nI k = nI ns - 1 := by
      rw [← hk]
      exact (pk_sub (a := k + 0 + 1) (b := 1) (by omega)).symm
    have hsl := smN_le (l := l) (M := 30) ns (fun i _ => hl0 i)
    have hacc : accN c row k ≤ 20 * k := smN_le (M := 20) k (fun i _ => hc0 _ _)
    have hM : foldN (tkF l c row ns) ns 0 = smN l ns + accN c row k + hV c ns V (row k) := by
      rw [← hk]
      rw [show k + 0 + 1 = k + 1 from rfl, tk_all l c row k]
      rw [show k + 1 = ns by omega, hV_full hr0, hN.2.1, ← smV_full l hr0, ← hN.2.2.2.2.2.1, show k + 1 = ns by omega]
      rfl
    obtain ⟨M, eM⟩ : ∃ M, M = smN l ns + accN c row k + hV c ns V (row k) := ⟨_, rfl⟩
    have hVb := hV_bound hc0 hns V (row k)
    have hMb : M < 2 ^ 31 := by omega
    rw [← eM] at hM cont
    have upd : btr F M = true → ∃ j, wp_X6_shortest_11 post j (foldN cpF ns b) lb (nI M) (nI k) := fun hB => cont _ (some M) ⟨fun i hi => cp_off b ns i (by omega), fun j _ => by rw [cp_off b ns 113 (by omega)], Or.inl ⟨hB, rfl, fun j hj => by rw [cp_on, if_pos hj, if_pos (by omega)]⟩⟩
    have keep : btr F M = false → ∃ j, wp_X6_shortest_11 post j b lb (fI F) (nI k) := fun hB => cont b F ⟨fun _ _ => rfl, fun _ _ => rfl, Or.inr ⟨hB, rfl, fun _ _ => rfl⟩⟩
    have body : ∀ jj, (btr F M = true → wp_X6_shortest_11 post jj (foldN cpF ns b) lb (nI M) (nI k)) → (btr F M = false → wp_X6_shortest_11 post jj b lb (fI F) (nI k)) → wp_X6_shortest_64 (fun z0 z1 z2 z3 => wp_X6_shortest_11 post jj z0 z1 z2 z3) post b lb (fI F) (nI k) := by
      intro jj hU hK
      unfold wp_X6_shortest_64
      refine w_new hk6 _ ?_
      rw [new_of hns hN]
      refine ⟨fun z => absurd z ne10, fun _ => ⟨fun z => absurd (by rw [e7]; exact hkn) z, fun _ => ?_⟩⟩
      refine w_takes hnp hns (by omega) e2 e7 (c := c) (l := l) (fun i j => by rw [chv_same (hb 101 (by omega)) (hb 102 (by omega))]; exact hc i j) (fun s => by rw [hb 102 (by omega), hb 98 (by omega)]; exact hl s) (row := row) (fun j hj => hN.1 j (by omega)) _ ?_
      rw [hM]
      refine btr_lt hF hMb _ _ (fun hB => ?_) (fun hB => ?_)
      · have hU := hU hB
        refine fold_loop (fun n j s => wp_X6_shortest_107 _ post n s lb (fI F) (nI k) (nI M) 1 (nI j)) cpF ns b ?_ ?_
        · intro n
          refine ⟨fun _ => ⟨fun z => absurd z ne10, fun _ => hU⟩, fun z => absurd ?_ z⟩
          rw [cp_off b ns 97 (by omega), e7]
          exact le_self ns
        · intro n j hj ih
          refine ⟨fun z => absurd ?_ (nle_of hj (show ns ≤ 10000 by omega)), fun _ => ⟨fun z => absurd z ne10, fun _ => ⟨vp_in_nI (by omega) (by omega), vp_in_nI (by omega) (by omega), fun b23 e23 => ?_⟩⟩⟩
          · rw [cp_off b j 97 (by omega), e7] at z
            exact z
          · rw [nI_clamp (by omega)] at e23
            rw [nI_1, e23]
            exact ih
      · have hK := hK hB
        refine ⟨1, fun _ => ⟨fun _ => hK, fun z => absurd rfl z⟩, fun _ => ⟨fun _ => ⟨fun _ => hK, fun z => absurd rfl z⟩, fun z => absurd rfl z⟩⟩
    cases hB : btr F M
    · obtain ⟨jj, hj⟩ := keep hB
      exact ⟨jj, body jj (fun z => by rw [hB] at z; cases z) (fun _ => hj)⟩
    · obtain ⟨jj, hj⟩ := upd hB
      exact ⟨jj, body jj (fun _ => hj) (fun z => by rw [hB] at z; cases z)⟩
  | r + 1, k, hk, row, V, b, F, hb, hN, hF, cont => by
    have hk6 : k < 6 := by omega
    have hr0 : ¬ rkN V ns = 0 := by have := hN.2.2.2.1; omega
    have e7 : b 97 7 = nI ns := by rw [hb 97 (by omega)]; exact h7
    have hkn : ¬ nI k = nI ns - 1 := by
      rw [show nI ns - 1 = nI (ns - 1) from pk_sub (a := ns) (b := 1) (by omega)]
      exact fun z => absurd ((nI_eq (by omega) (by omega)).mp z) (by omega)
    have hsl := smN_le (l := l) (M := 30) ns (fun i _ => hl0 i)
    have hacc : accN c row k ≤ 20 * k := smN_le (M := 20) k (fun i _ => hc0 _ _)
    obtain ⟨K, eK⟩ : ∃ K, K = smN l ns + accN c row k := ⟨_, rfl⟩
    obtain ⟨x, ex⟩ : ∃ x, x = row k := ⟨_, rfl⟩
    rw [← eK, ← ex] at cont
    obtain ⟨cd, ecd⟩ : ∃ cd : Nat → Nat, cd = fun v => c x v + hV c ns (V ||| 2 ^ v) v := ⟨_, rfl⟩
    have ecd' : ∀ v, cd v = c x v + hV c ns (V ||| 2 ^ v) v := fun v => by rw [ecd]
    -- the level: v is tried next
    have level : ∀ d v, v + d = ns → ∀ (bb : ig_M) (G : Option Nat), (∀ i, ¬ (i = 113 ∨ i = 114) → bb i = b0 i) → (∀ j, j ≤ k → bb 113 j = b 113 j) → bb 113 (k + 1) = nI v + (-1) → (∀ q, G = some q → q < 2 ^ 31) →
        ((G = F ∧ (∀ j, j < ns → bb 114 j = b 114 j) ∧ ∀ u, u < v → V.testBit u = false → btr F (K + cd u) = false) ∨
          (∃ g, g < v ∧ V.testBit g = false ∧ btr F (K + cd g) = true ∧ G = some (K + cd g) ∧ (∀ u, u < v → V.testBit u = false → cd g ≤ cd u) ∧ (∀ u, u < g → V.testBit u = false → cd g < cd u) ∧ ∀ j, j < ns → bb 114 j = if j ≤ k then b 113 j else nI (itN c ns (j - (k + 1)) (V ||| 2 ^ g) g))) →
        ∃ j, wp_X6_shortest_11 post j bb lb (fI G) (nI (k + 1)) := by
      intro d
      induction d with
      | zero =>
        intro v hv bb G hbb hrows hcell hG hinv
        have hvn : v = ns := by omega
        subst hvn
        have fin : ∃ j, wp_X6_shortest_11 post j (ig_up bb 113 (k + 1) (nI v)) lb (fI G) (nI k) := by
          refine cont _ G ⟨fun i hi => by rw [up_row (by omega), hbb i hi, hb i hi], fun j hj => by rw [up_col (by omega)]; exact hrows j hj, ?_⟩
          rcases hinv with ⟨q1, q2, q3⟩ | ⟨g, g1, g2, g3, g4, g5, g6, g7⟩
          · refine Or.inr ⟨?_, q1, fun j hj => by rw [up_col (by omega)]; exact q2 j hj⟩
            obtain ⟨i, i1, i2, i3⟩ := hV_at (x := x) hc0 hns hr0
            rw [i3, ← ecd' i]
            exact q3 i i1 i2
          · have hg := gst_eq (x := x) hc0 hns g1 g2 (fun u u1 u2 => by rw [← ecd', ← ecd']; exact g5 u u1 u2) (fun u u1 u2 => by rw [← ecd', ← ecd']; exact g6 u u1 u2)
            rw [hg.2, ← ecd' g]
            refine Or.inl ⟨g3, g4, fun j hj => ?_⟩
            rw [up_col (by omega), g7 j hj]
            by_cases e : j ≤ k
            · rw [if_pos e, if_pos e]
            · rw [if_neg e, if_neg e]
              obtain ⟨u, hu⟩ : ∃ u, j - k = u + 1 := ⟨j - k - 1, by omega⟩
              rw [hu, show j - (k + 1) = u by omega]
              show _ = nI (itN c v u (V ||| 2 ^ (gst c v V x)) (gst c v V x))
              rw [hg.1]
        obtain ⟨j, hj⟩ := fin
        have ep : nI v + (-1) + 1 = nI v := by rw [Int32.add_assoc, show (-1 : Int32) + 1 = 0 from rfl, Int32.add_zero]
        have hp1 : ¬ nI (k + 1) < 0 := nI_pos (by omega)
        have hs1 : ¬ nI v ≤ 0 := nI_ge (a := 0) (b := v) (by omega) (by omega)
        have vk : vp_in (nI (k + 1)) 6 := vp_in_nI (by omega) (by omega)
        refine ⟨j + 1, fun z => absurd z hp1, fun _ => ⟨fun z => absurd (by rw [hbb 97 (by omega), h7] at z; exact z) hs1, fun _ => ⟨vk, vk, fun b7 e => ?_⟩⟩⟩
        rw [nI_clamp (by omega), hcell, ep] at e
        rw [nI_clamp (by omega), nI_m1]
        have c1 : b7 113 (k + 1) = nI v := by rw [e]; simp [up_app]
        have c2 : b7 97 7 = nI v := by rw [e, up_row (by omega), hbb 97 (by omega), h7]
        rw [c1, c2]
        refine ⟨vk, fun _ => ?_, fun z => absurd rfl z⟩
        rw [e]
        exact hj
      | succ d ih =>
        intro v hv bb G hbb hrows hcell hG hinv
        have hvn : v < ns := by omega
        obtain ⟨b7, e7'⟩ : ∃ b7, b7 = ig_up bb 113 (k + 1) (nI v) := ⟨_, rfl⟩
        have ep : nI v + (-1) + 1 = nI v := by rw [Int32.add_assoc, show (-1 : Int32) + 1 = 0 from rfl, Int32.add_zero]
        have hp1 : ¬ nI (k + 1) < 0 := nI_pos (by omega)
        have hs1 : ¬ nI ns ≤ 0 := nI_ge (a := 0) (b := ns) (by omega) (by omega)
        have vk : vp_in (nI (k + 1)) 6 := vp_in_nI (by omega) (by omega)
        have c1 : b7 113 (k + 1) = nI v := by rw [e7']; simp [up_app]
        have cO : ∀ i, ¬ (i = 113 ∨ i = 114) → b7 i = b0 i := fun i hi => by rw [e7', up_row (by omega)]; exact hbb i hi
        have cR : ∀ j, j ≤ k → b7 113 j = b 113 j := fun j hj => by rw [e7', up_col (by omega)]; exact hrows j hj
        have cB : ∀ j, b7 114 j = bb 114 j := fun j => by rw [e7', up_col (by omega)]
        have c2 : b7 97 7 = nI ns := by rw [cO 97 (by omega)]; exact h7
        have hne : ¬ nI v = nI ns := fun z => absurd ((nI_eq (by omega) (by omega)).mp z) (by omega)
        have hk1 : ¬ nI (k + 1) = 0 := fun z => absurd ((nI_eq (a := k + 1) (b := 0) (by omega) (by omega)).mp z) (by omega)
        -- it is enough to go on from the step's middle
        suffices hmid : ∃ j, wp_X6_shortest_64 (fun z0 z1 z2 z3 => wp_X6_shortest_11 post j z0 z1 z2 z3) post b7 lb (fI G) (nI (k + 1)) by
          obtain ⟨j, hj⟩ := hmid
          refine ⟨j + 1, fun z => absurd z hp1, fun _ => ⟨fun z => absurd (by rw [hbb 97 (by omega), h7] at z; exact z) hs1, fun _ => ⟨vk, vk, fun b7x e => ?_⟩⟩⟩
          rw [nI_clamp (by omega), hcell, ep, ← e7'] at e
          subst e
          rw [nI_clamp (by omega), c1, c2]
          exact ⟨vk, fun z => absurd z hne, fun _ => ⟨fun _ => hj, fun z => absurd z hk1⟩⟩
        have hN7 : ∀ j, j ≤ k → b7 113 j = nI (row j) ∧ row j < ns := fun j hj => by rw [cR j hj]; exact hN.1 j hj
        cases hvV : V.testBit v
        · -- new: the node below
          have hNx : nodeH l ns b7 (rowx row (k + 1) v) (k + 1) (V ||| 2 ^ v) := node_x (by omega) hN hvn hvV cR c1
          have hx1 : rowx row (k + 1) v (k + 1) = v := by unfold rowx; rw [if_pos rfl]
          refine w_node hnp hns h2 h7 hc0 hl0 hc hl post r (k + 1) (by omega) (rowx row (k + 1) v) (V ||| 2 ^ v) b7 G cO hNx hG (fun b' G' ho => ?_)
          have eM : smN l ns + accN c (rowx row (k + 1) v) (k + 1) + hV c ns (V ||| 2 ^ v) (rowx row (k + 1) v (k + 1)) = K + cd v := by
            rw [hx1, accN_x, ← ex, ecd' v, eK]
            omega
          rw [eM, hx1] at ho
          obtain ⟨o1, o2, o3⟩ := ho
          have hcv : cd v ≤ 160 := by
            have b1 := hc0 x v
            have b2 := hV_bound hc0 hns (V ||| 2 ^ v) v
            rw [ecd' v]; omega
          have hKb : K ≤ 400 := by omega
          refine ih (v + 1) (by omega) b' G' (fun i hi => by rw [o1 i hi]; exact cO i hi) (fun j hj => by rw [o2 j (by omega)]; exact cR j hj) (by rw [o2 (k + 1) (Nat.le_refl _), c1, nI_m1]) ?_ ?_
          · intro q hq
            rcases o3 with ⟨_, p2, _⟩ | ⟨_, p2, _⟩
            · rw [p2] at hq; have := Option.some.inj hq; omega
            · rw [p2] at hq; exact hG q hq
          · rcases o3 with ⟨p1, p2, p3⟩ | ⟨p1, p2, p3⟩
            · -- v is better than all before
              have best : ∀ j, j < ns → b' 114 j = if j ≤ k then b 113 j else nI (itN c ns (j - (k + 1)) (V ||| 2 ^ v) v) := by
                intro j hj
                rw [p3 j hj]
                by_cases e : j ≤ k
                · rw [if_pos e, if_pos (by omega), cR j e]
                · rw [if_neg e]
                  by_cases e2 : j = k + 1
                  · subst e2
                    rw [if_pos (Nat.le_refl _), c1, Nat.sub_self]
                    rfl
                  · rw [if_neg (by omega)]
              rcases hinv with ⟨q1, q2, q3⟩ | ⟨g, g1, g2, g3, g4, g5, g6, g7⟩
              · rw [q1] at p1
                refine Or.inr ⟨v, by omega, hvV, p1, p2, fun u u1 u2 => ?_, fun u u1 u2 => ?_, best⟩
                · by_cases e : u = v
                  · rw [e]; exact Nat.le_refl _
                  · have hn := q3 u (by omega) u2
                    cases F with
                    | none => cases hn
                    | some q =>
                      have n1 := of_decide_eq_false hn
                      have n2 := of_decide_eq_true p1
                      omega
                · have hn := q3 u (by omega) u2
                  cases F with
                  | none => cases hn
                  | some q =>
                    have n1 := of_decide_eq_false hn
                    have n2 := of_decide_eq_true p1
                    omega
              · rw [g4] at p1
                have n2 := of_decide_eq_true p1
                have hlt : cd v < cd g := by omega
                have p1' : btr F (K + cd v) = true := by
                  cases F with
                  | none => rfl
                  | some q =>
                    have n1 := of_decide_eq_true g3
                    exact decide_eq_true (by omega)
                refine Or.inr ⟨v, by omega, hvV, p1', p2, fun u u1 u2 => ?_, fun u u1 u2 => ?_, best⟩
                · by_cases e : u = v
                  · rw [e]; exact Nat.le_refl _
                  · have := g5 u (by omega) u2; omega
                · have := g5 u (by omega) u2; omega
            · -- it isn't
              rcases hinv with ⟨q1, q2, q3⟩ | ⟨g, g1, g2, g3, g4, g5, g6, g7⟩
              · refine Or.inl ⟨p2.trans q1, fun j hj => by rw [p3 j hj, cB j, q2 j hj], fun u u1 u2 => ?_⟩
                by_cases e : u = v
                · rw [e, ← q1]; exact p1
                · exact q3 u (by omega) u2
              · rw [g4] at p1
                have n2 := of_decide_eq_false p1
                refine Or.inr ⟨g, by omega, g2, g3, p2.trans g4, fun u u1 u2 => ?_, g6, fun j hj => by rw [p3 j hj, cB j, g7 j hj]⟩
                by_cases e : u = v
                · rw [e]; omega
                · exact g5 u (by omega) u2
        · -- not new: the next one
          obtain ⟨j, hj⟩ := ih (v + 1) (by omega) b7 G cO cR (by rw [c1, nI_m1]) hG (by
            rcases hinv with ⟨q1, q2, q3⟩ | ⟨g, g1, g2, g3, g4, g5, g6, g7⟩
            · refine Or.inl ⟨q1, fun j hj => by rw [cB j, q2 j hj], fun u u1 u2 => ?_⟩
              by_cases e : u = v
              · rw [e, hvV] at u2; cases u2
              · exact q3 u (by omega) u2
            · refine Or.inr ⟨g, by omega, g2, g3, g4, fun u u1 u2 => ?_, g6, fun j hj => by rw [cB j, g7 j hj]⟩
              by_cases e : u = v
              · rw [e, hvV] at u2; cases u2
              · exact g5 u (by omega) u2)
          have hany : anyN (fun j => decide (b7 113 j = b7 113 (k + 1))) (k + 1) = true := by
            obtain ⟨i, i1, i2⟩ := (hN.2.2.2.2.1 v).mp hvV
            refine anyN_hit (k := i) (by omega) (decide_eq_true ?_)
            rw [c1, (hN7 i i1).1, i2]
          refine ⟨j, ?_⟩
          unfold wp_X6_shortest_64
          refine w_new (by omega) _ ?_
          rw [hany]
          refine ⟨fun _ => ?_, fun z => absurd rfl z⟩
          unfold wp_X6_shortest_155
          refine w_new (by omega) _ ?_
          rw [hany]
          exact ⟨fun _ => hj, fun z => absurd rfl z⟩
    -- the node opens the level
    have cK : (ig_up b 113 (k + 1) (-1)) 113 (k + 1) = nI 0 + (-1) := by rw [up_app, if_pos rfl, if_pos rfl]; rfl
    obtain ⟨j, hj⟩ := level ns 0 (by omega) (ig_up b 113 (k + 1) (-1)) F (fun i hi => by rw [up_row (by omega)]; exact hb i hi) (fun j hj => by rw [up_col (by omega)]) cK hF (Or.inl ⟨rfl, fun j _ => by rw [up_col (by omega)], fun u hu => absurd hu (Nat.not_lt_zero u)⟩)
    refine ⟨j, ?_⟩
    unfold wp_X6_shortest_64
    refine w_new hk6 _ ?_
    rw [new_of hns hN]
    refine ⟨fun z => absurd z ne10, fun _ => ⟨fun _ => ?_, fun z => absurd (by rw [e7] at z; exact z) hkn⟩⟩
    unfold wp_X6_shortest_155
    refine w_new hk6 _ ?_
    rw [new_of hns hN]
    refine ⟨fun z => absurd z ne10, fun _ => ⟨by rw [nI_1]; exact vp_in_nI (by omega) (by omega), fun b28 e => ?_⟩⟩
    rw [nI_1, nI_clamp (by omega)] at e
    rw [nI_1, e]
    exact hj
theorem w_shortB (h : ig_Q np ns t w a la b lb) (post : Int32 → ig_M → Int64 → Prop) (hp : ∀ b', (∀ i, ¬ (i = 113 ∨ i = 114) → b' i = b i) → (∀ j, j < ns → b' 114 j = nI (itN (cN b np) ns j 1 0)) → post (rdV b np ns) b' lb) : wp_X6_shortest b lb post := by
  have hns := Q_ns h
  have hnp := Q_np h
  have h7 : b 97 7 = nI ns := h.1.2.2.2.2.1
  have e00 : (0 : Int32).toNatClampNeg = 0 := by decide
  refine ⟨vin_0_6, fun b2 e => ?_⟩
  rw [e00] at e
  have b27 : b2 97 7 = nI ns := by rw [e, up_row (by omega)]; exact h7
  have hz0 : ¬ (0 : Int32) < 0 := by decide
  by_cases h0 : ns = 0
  · have er : rdV b np ns = -1 := if_pos h0
    rw [er] at hp
    refine ⟨1, fun z => absurd z hz0, fun _ => ⟨fun _ => hp b2 (fun i hi => by rw [e, up_row (by omega)]) (fun j hj => by omega), fun z => absurd ?_ z⟩⟩
    rw [b27, h0]
    exact Int32.le_refl _
  · have er : rdV b np ns = nI (smN (lgN b np) ns + hV (cN b np) ns 1 0) := if_neg h0
    have hs1 : ¬ nI ns ≤ 0 := nI_ge (a := 0) (b := ns) (by omega) (by omega)
    have h2 : 1 < 2 ^ ns := Nat.one_lt_two_pow h0
    have hr1 := rk_one (n := ns) (by omega)
    obtain ⟨b7, e7⟩ : ∃ b7, b7 = ig_up b2 113 0 0 := ⟨_, rfl⟩
    have c1 : b7 113 0 = 0 := by rw [e7]; simp [up_app]
    have cO : ∀ i, ¬ (i = 113 ∨ i = 114) → b7 i = b i := fun i hi => by rw [e7, up_row (by omega), e, up_row (by omega)]
    have c2 : b7 97 7 = nI ns := by rw [cO 97 (by omega)]; exact h7
    have hbz : b2 113 0 + 1 = 0 := by rw [e, up_app, if_pos rfl, if_pos rfl]; rfl
    have hn0 : ¬ (0 : Int32) = nI ns := fun z => absurd ((nI_eq (a := 0) (b := ns) (by omega) (by omega)).mp z) (by omega)
    suffices hmid : ∃ j, wp_X6_shortest_64 (fun z0 z1 z2 z3 => wp_X6_shortest_11 post j z0 z1 z2 z3) post b7 lb (fI none) (nI 0) by
      obtain ⟨j, hj⟩ := hmid
      refine ⟨j + 1, fun z => absurd z hz0, fun _ => ⟨fun z => absurd (by rw [b27] at z; exact z) hs1, fun _ => ⟨vin_0_6, vin_0_6, fun b7x e2 => ?_⟩⟩⟩
      rw [e00, hbz, ← e7] at e2
      subst e2
      rw [e00, c1, c2]
      exact ⟨vin_0_6, fun z => absurd z hn0, fun _ => ⟨fun _ => hj, fun _ => ⟨vin_0_6, fun _ => hj, fun z => absurd (Int32.le_refl _) z⟩⟩⟩
    have hN : nodeH (lgN b np) ns b7 (fun _ => 0) 0 1 := by
      refine ⟨fun j hj => ?_, rfl, h2, by omega, fun v => ?_, ?_, fun j hj => absurd hj (Nat.not_lt_zero j)⟩
      · have : j = 0 := by omega
        subst this
        exact ⟨c1, show 0 < ns by omega⟩
      · constructor
        · intro hv
          refine ⟨0, Nat.le_refl _, ?_⟩
          have h1 := tb_or 0 0 v
          rw [Nat.zero_testBit, Bool.false_or] at h1
          have h2 : (0 ||| 2 ^ 0 : Nat) = 1 := rfl
          rw [h2, hv] at h1
          exact of_decide_eq_true h1.symm
        · rintro ⟨j, _, e⟩
          have e : 0 = v := e
          subst e
          decide
      · have h1 := smV_or (lgN b np) (V := 0) (v := 0) (Nat.zero_testBit 0) ns (by omega)
        have h2 : (0 ||| 2 ^ 0 : Nat) = 1 := rfl
        rw [h2, smV_zero] at h1
        rw [h1]
        rfl
    refine w_node (b0 := b) hnp hns (Q_b2 h) h7 (c := cN b np) (l := lgN b np) (fun i j => (cN_eq h i j).2) (fun s => (lgN_eq h s).2) (fun i j => (cN_eq h i j).1) (fun s => (lgN_eq h s).1) post (ns - 1) 0 (by omega) (fun _ => 0) 1 b7 none cO hN (fun q hq => by cases hq) (fun b' F' ho => ?_)
    obtain ⟨o1, o2, o3⟩ := ho
    rcases o3 with ⟨p1, p2, p3⟩ | ⟨p1, _, _⟩
    · rw [p2]
      have eM : nI (smN (lgN b np) ns + accN (cN b np) (fun _ => 0) 0 + hV (cN b np) ns 1 0) = rdV b np ns := by rw [er]; rfl
      have d1 : b' 113 0 = 0 := by rw [o2 0 (Nat.le_refl _)]; exact c1
      have d2 : b' 97 7 = nI ns := by rw [o1 97 (by omega)]; exact c2
      have fin : ∀ b'', b'' = ig_up b' 113 0 1 → wp_X6_shortest_11 post 1 b'' lb (fI (some (smN (lgN b np) ns + accN (cN b np) (fun _ => 0) 0 + hV (cN b np) ns 1 0))) (nI 0 + (-1)) := by
        intro b'' e2
        refine ⟨fun _ => ?_, fun z => absurd (by decide) z⟩
        show post (nI (smN (lgN b np) ns + accN (cN b np) (fun _ => 0) 0 + hV (cN b np) ns 1 0)) b'' lb
        rw [eM]
        refine hp b'' (fun i hi => by rw [e2, up_row (by omega), o1 i hi, cO i hi]) (fun j hj => ?_)
        rw [e2, up_col (by omega), p3 j hj]
        by_cases e : j ≤ 0
        · have : j = 0 := by omega
          subst this
          rw [if_pos e, c1]
          rfl
        · rw [if_neg e]
          rfl
      refine ⟨2, fun z => absurd z hz0, fun _ => ⟨fun z => absurd (by rw [d2] at z; exact z) hs1, fun _ => ⟨vin_0_6, vin_0_6, fun b'' e2 => ?_⟩⟩⟩
      have ez : (nI 0).toNatClampNeg = 0 := by decide
      rw [ez, d1] at e2
      have e2' : b'' = ig_up b' 113 0 1 := e2
      have q1 : b'' 113 0 = 1 := by rw [e2']; simp [up_app]
      rw [ez, e00, q1]
      refine ⟨vin_0_6, fun _ => fin b'' e2', fun _ => ⟨fun z => absurd rfl z, fun _ => ⟨vin_0_6, fun z => absurd z (by decide), fun _ => fin b'' e2'⟩⟩⟩
    · cases p1
end RNDB
