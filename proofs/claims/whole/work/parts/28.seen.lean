/-! ===== change, seen ===== -/
theorem i_eqT {x y : Int32} (h : x.toInt = y.toInt) : x = y := Int32.toInt_inj.mp h
theorem mxI_if (u v : Int32) : (if v ≤ u then u else v) = mxI u v := by
  unfold mxI
  by_cases h : v ≤ u
  · rw [if_pos h, if_neg (fun z => i_le.mpr z h)]
  · rw [if_neg h, if_pos (i_le.mp h)]
theorem mxI_0 {v : Int32} (h : 0 ≤ v) : mxI v 0 = v := by
  unfold mxI
  rw [if_neg (fun z => i_le.mpr z h)]
theorem mxI_as (u v w : Int32) : mxI (mxI u v) w = mxI u (mxI v w) := by
  apply i_eqT
  simp only [mxI_t]
  repeat' split
  all_goals omega
theorem mxI_pos {u v : Int32} (h : 0 ≤ u) : 0 ≤ mxI u v := by
  rw [Int32.le_iff_toInt_le] at *
  rw [mxI_t]
  split <;> omega
def chI (L C : Int32) (r : Nat → Int32) (p q : Nat) (u : Int32) : Int32 := if hb L (nI p) = true ∧ hb C (nI q) = true then (if r q ≤ u then u else r q) else u
theorem ch_in (L C : Int32) (r : Nat → Int32) (p : Nat) (n : Nat) {v : Int32} (hv : 0 ≤ v) : foldN (chI L C r p) n v = if hb L (nI p) = true then mxI v (mbv C r n) else v := by
  by_cases c : hb L (nI p) = true
  · rw [if_pos c]
    induction n with
    | zero => exact (mxI_0 hv).symm
    | succ n ih =>
      show chI L C r p n (foldN (chI L C r p) n v) = _
      rw [ih]
      unfold chI
      rw [mxI_if]
      have e : mbv C r (n + 1) = mbF C r n (mbv C r n) := rfl
      rw [e]
      unfold mbF
      by_cases d : hb C (nI n) = true
      · rw [if_pos ⟨c, d⟩, if_pos d, mxI_as]
      · rw [if_neg (fun z => d z.2), if_neg d]
  · rw [if_neg c]
    induction n with
    | zero => rfl
    | succ n ih =>
      show chI L C r p n (foldN (chI L C r p) n v) = _
      rw [ih]
      unfold chI
      rw [if_neg (fun z => c z.1)]
theorem chF_pos (b : ig_M) (np : Nat) (L C : Int32) : ∀ n, 0 ≤ foldN (chF b np L C) n 0
  | 0 => Int32.le_refl _
  | n + 1 => by
    show 0 ≤ chF b np L C n (foldN (chF b np L C) n 0)
    have := chF_pos b np L C n
    unfold chF
    split
    · exact mxI_pos this
    · exact this
section SEEN
variable {np ns t w : Nat} {a : ig_M} {la : Int64} {b : ig_M} {lb lo : Int64}
theorem w_chA (h : ig_Q np ns t w a la b lb) {s1 s2 : Nat} (hs1 : s1 < ns) (hs2 : s2 < ns) (post : Int32 → Prop) (hp : post (chv b np s1 s2)) : wp_X3_secondsToChange a la (nI s1) (nI s2) post := by
  have hnp := Q_np h
  have e1 := Q_a1 h
  have hns : ns ≤ 6 := h.1.1.2.1
  have e3 : a 1 4 = nI ns := h.1.2.2.2.1
  unfold wp_X3_secondsToChange
  rw [w_setOf a la ns s1 hns hs1 e3, w_setOf a la ns s2 hns hs2 e3, w_setOf a la ns s2 hns hs2 e3, w_setOf a la ns s1 hns hs1 e3, h.2.2.2.1 s1 (by omega), h.2.2.2.1 s2 (by omega)]
  unfold chv at hp
  generalize b 102 s1 &&& (b 102 s2 ^^^ (-1)) = L at hp ⊢
  generalize b 102 s2 &&& (b 102 s1 ^^^ (-1)) = C at hp ⊢
  refine fold_loop (fun n k v => wp_X3_secondsToChange_35 a la post n L C v (nI k)) (chF b np L C) np 0 ?_ ?_
  · intro n
    exact ⟨fun _ => hp, fun z => absurd (by rw [e1]; exact le_self np) z⟩
  · intro n k hk ih
    refine ⟨fun z => absurd (by rw [e1] at z; exact z) (nle_of hk (by omega)), fun _ => ?_⟩
    rw [w_has, nI_1]
    unfold chF at ih
    cases c : hb L (nI k)
    · rw [c, if_neg (by decide)] at ih
      exact ⟨fun _ => ih, fun z => absurd rfl z⟩
    · rw [c, if_pos rfl] at ih
      refine ⟨fun z => absurd z ne10, fun _ => w_mb hnp e1 (by omega) C _ ?_⟩
      rw [mbv_congr (fun q hq => (h.2.2.1 k q (by omega) (by omega)).1)]
      exact ih
theorem w_chB (hnp : np ≤ 8) (h : b 97 2 = nI np) {s1 s2 : Nat} (hs1 : s1 < 6) (hs2 : s2 < 6) (post : Int32 → Prop) (hp : post (chv b np s1 s2)) : wp_X6_changeOf b lb (nI s1) (nI s2) post := by
  have v1 : vp_in (nI s1) 6 := vp_in_nI hs1 (by omega)
  have v2 : vp_in (nI s2) 6 := vp_in_nI hs2 (by omega)
  refine fold_loop (fun n k v => wp_X6_changeOf_5 b lb post n (nI s1) (nI s2) v (nI k)) _ np 0 (fun n => ⟨fun _ => hp, fun z => absurd (by rw [h]; exact le_self np) z⟩) ?_
  intro n p hk ih
  have hpos := chF_pos b np (b 102 s1 &&& (b 102 s2 ^^^ (-1))) (b 102 s2 &&& (b 102 s1 ^^^ (-1))) p
  generalize foldN (chF b np _ _) p 0 = v at hpos ih ⊢
  refine ⟨fun z => absurd (by rw [h] at z; exact z) (nle_of hk (by omega)), fun _ => ?_⟩
  have ih2 : wp_X6_changeOf_5 b lb post n (nI s1) (nI s2) (foldN (chI (b 102 s1 &&& (b 102 s2 ^^^ (-1))) (b 102 s2 &&& (b 102 s1 ^^^ (-1))) (fun q => b 101 (8 * p + q)) p) np v) (nI (p + 1)) := by
    rw [ch_in (b 102 s1 &&& (b 102 s2 ^^^ (-1))) (b 102 s2 &&& (b 102 s1 ^^^ (-1))) (fun q => b 101 (8 * p + q)) p np hpos]
    exact ih
  refine fold_loop (fun m k v => wp_X6_changeOf_17 b lb (fun (z0 : Int32) (z1 : Int32) (z2 : Int32) (z3 : Int32) => wp_X6_changeOf_5 b lb post n z0 z1 z2 z3) post m (nI s1) (nI s2) v (nI p) (nI k)) (chI (b 102 s1 &&& (b 102 s2 ^^^ (-1))) (b 102 s2 &&& (b 102 s1 ^^^ (-1))) (fun q => b 101 (8 * p + q)) p) np v (fun m => ⟨fun _ => by rw [nI_1]; exact ih2, fun z => absurd (by rw [h]; exact le_self np) z⟩) ?_
  intro m q hq ih3
  generalize foldN (chI _ _ _ p) q v = u at ih3 ⊢
  unfold chI at ih3
  refine ⟨fun z => absurd (by rw [h] at z; exact z) (nle_of hq (by omega)), fun _ => ⟨v1, v2, ?_⟩⟩
  rw [w_has6, nI_clamp (by omega), nI_clamp (by omega)]
  unfold wp_X6_changeOf_76 wp_X6_changeOf_77
  cases c : hb (b 102 s1 &&& (b 102 s2 ^^^ (-1))) (nI p)
  · rw [c, if_neg (fun z => absurd z.1 (by decide))] at ih3
    refine ⟨fun _ => ⟨fun _ => by rw [nI_1]; exact ih3, fun z => absurd rfl z⟩, fun z => absurd rfl z⟩
  · refine ⟨fun z => absurd z ne10, fun _ => ⟨v2, v1, ?_⟩⟩
    rw [w_has6]
    cases d : hb (b 102 s2 &&& (b 102 s1 ^^^ (-1))) (nI q)
    · rw [c, d, if_neg (fun z => absurd z.2 (by decide))] at ih3
      refine ⟨fun _ => ⟨fun _ => by rw [nI_1]; exact ih3, fun z => absurd rfl z⟩, fun z => absurd rfl z⟩
    · rw [c, d, if_pos ⟨rfl, rfl⟩] at ih3
      have v3 : vp_in (nI (8 * p + q)) 64 := vp_in_nI (by omega) (by omega)
      refine ⟨fun z => absurd z ne10, fun _ => ⟨fun z => absurd z ne10, fun _ => ?_⟩⟩
      rw [idx8, nI_clamp (by omega), nI_1]
      refine ⟨v3, fun z => ?_, fun z => ⟨v3, ?_⟩⟩
      · rw [if_pos z] at ih3; exact ih3
      · rw [if_neg z] at ih3; exact ih3
theorem d_change (h : ig_R np ns t a la b lb) (x1 x2 : Int32) : ig_two (wp_L_change a la lo x1 x2) (wp_X6_change b lb x1 x2) := by
  have hR := h
  obtain ⟨h1, h2, h3, h4, h5, h6⟩ := h
  obtain ⟨⟨hnp, hns, ht⟩, e1, e2, e3, e4, e5, e6, e7, rfl⟩ := h1
  cases g1 : iw x1 0 (nI ns - 1)
  · refine ⟨1, a, la, lo, 0, ig_up b 97 0 1, la, fun post hp => ?_, fun post hp => ?_, thr_at _ _, fun z => absurd z (by decide), _, _, _, R_thr hR 1⟩
    · simp [wp_L_change, wp_X5_change, w_needStage, e3, g1, hp]
    · simp [wp_X6_change, wp_X6_change_21, wp_X6_change_22, w_isStage, w_well, e4, g1, hp]
  · cases g2 : iw x2 0 (nI ns - 1)
    · refine ⟨1, a, la, lo, 0, ig_up b 97 0 1, la, fun post hp => ?_, fun post hp => ?_, thr_at _ _, fun z => absurd z (by decide), _, _, _, R_thr hR 1⟩
      · simp [wp_L_change, wp_X5_change, w_needStage, e3, g1, g2, hp]
      · simp [wp_X6_change, wp_X6_change_21, wp_X6_change_22, w_isStage, w_well, e4, g1, g2, hp]
    · obtain ⟨s1, hs1, rfl⟩ := iw_nat (by omega) g1
      obtain ⟨s2, hs2, rfl⟩ := iw_nat (by omega) g2
      refine ⟨0, a, la, (chv b np s1 s2).toInt64, chv b np s1 s2, ig_up b 97 0 0, la, fun post hp => ?_, fun post hp => ?_, thr_at _ _, fun _ => rfl, _, _, _, R_thr hR 0⟩
      · simp only [wp_L_change, wp_X5_change, w_needStage, e3, g1, g2, cond_true]
        exact w_chA (w := t) hR hs1 hs2 _ hp
      · simp only [wp_X6_change, wp_X6_change_22, w_isStage, w_well, e4, g1, g2, cond_true]
        have ec : chv (ig_up b 97 0 0) np s1 s2 = chv b np s1 s2 := by
          have q2 : (ig_up b 97 0 0) 102 = b 102 := up_row (by omega)
          have q1 : (ig_up b 97 0 0) 101 = b 101 := up_row (by omega)
          unfold chv chF
          rw [q2, q1]
        refine ⟨fun z => absurd z ne10, fun _ => ⟨fun z => absurd z ne10, fun _ => ⟨fun z => absurd z (by decide), fun _ => w_chB hnp (by simp [up_app, e2]) (by omega) (by omega) _ (by rw [ec]; exact hp)⟩⟩⟩
/-- which colour a second shows, and what the search for the least seconds keeps -/
def snG (b : ig_M) (x : Int32) (k : Nat) : Bool := decide (((b 112 k >>> ((2 * x) &&& 31)) &&& 3) = 1)
def snW (b : ig_M) (x : Int32) : Nat → Bool
  | 0 => false
  | k + 1 => snG b x k
def snF (b : ig_M) (x1 x2 : Int32) (k : Nat) (v : Int32 × Int32) : Int32 × Int32 :=
  (if snG b x2 k = true ∧ snW b x2 k = false ∧ ¬ v.2 = -1 then (if v.1 = -1 then (nI k - v.2) - 1 else if (nI k - v.2) - 1 < v.1 then (nI k - v.2) - 1 else v.1) else v.1, if snG b x1 k = true then nI k else v.2)
theorem snW_s (b : ig_M) (x : Int32) (k : Nat) : snW b x (k + 1) = snG b x k := rfl
theorem sn_a (u v w : Int32) (P : Int32 → Prop) (h : P (if v < u then v else u)) : (u ≤ v → P u) ∧ (¬ u ≤ v → P v) := by
  constructor
  · intro z
    rw [if_neg (fun y => i_le.mpr y z)] at h
    exact h
  · intro z
    rw [if_pos (i_le.mp z)] at h
    exact h
theorem w_seenA (h : ig_Q np ns t w a la b lb) (hw : t ≤ w) (x1 x2 : Int32) (post : Int32 → Prop) (hp : post (foldN (snF b x1 x2) t (-1, -1)).1) : wp_X1_leastBetween a la x1 x2 (a 23 6) post := by
  have ht : t ≤ 5000 := h.1.1.2.2
  have e5 : a 23 6 = nI t := h.1.2.2.2.2.2.1
  rw [e5]
  refine fold_loop (fun n k (v : Int32 × Int32) => wp_X1_leastBetween_12 a la post n x1 x2 (nI t) v.1 v.2 (cond (snW b x2 k) 1 0) (nI k)) (snF b x1 x2) t (-1, -1) (fun n => ⟨fun _ => hp, fun z => absurd (le_self t) z⟩) ?_
  intro n k hk ih
  generalize foldN _ k _ = v at ih ⊢
  obtain ⟨v1, v2⟩ := v
  have n5 : ¬ (5000 : Int32) ≤ nI k := nle_of (i := k) (n := 5000) (by omega) (by omega)
  refine ⟨fun z => absurd z (nle_of hk (by omega)), fun _ => ⟨fun z => absurd z n5, fun _ => ⟨vp_in_nI (by omega) (by omega), ?_⟩⟩⟩
  rw [nI_clamp (by omega), h.2.2.2.2.2 k (by omega)]
  unfold wp_X1_colourIn wp_X1_leastBetween_52 wp_X1_leastBetween_97 wp_X1_leastBetween_99 wp_X1_colourIn
  rw [nI_1]
  simp only [snF, snW_s] at ih
  unfold snG at ih
  by_cases c : ((b 112 k >>> ((2 * x2) &&& 31)) &&& 3) = 1
  · refine ⟨fun z => absurd c z, fun _ => ⟨fun z => absurd z ne10, fun _ => ?_⟩⟩
    cases d : snW b x2 k
    · refine ⟨fun z => absurd rfl z, fun _ => ?_⟩
      by_cases e : v2 = -1
      · refine ⟨fun _ => ?_, fun z => absurd e z⟩
        simp only [c, d, e, decide_true, not_true_eq_false, and_false, if_false, cond_true] at ih
        refine ⟨fun z => ?_, fun z => ?_⟩
        · simp only [z, decide_false, if_false] at ih; rw [e]; simpa using ih
        · simp only [z, decide_true, if_true] at ih; simpa using ih
      · refine ⟨fun z => absurd z e, fun _ => ?_⟩
        simp only [c, d, e, decide_true, not_false_eq_true, and_self, if_true, cond_true] at ih
        by_cases f : v1 = -1
        · simp only [f, if_true] at ih
          refine ⟨fun z => absurd f z, fun _ => ⟨fun z => ?_, fun z => ?_⟩⟩
          · simpa [z] using ih
          · simpa [z] using ih
        · simp only [f, if_false] at ih
          refine ⟨fun _ => ⟨fun z => ?_, fun z => ?_⟩, fun z => absurd z f⟩
          · simpa [z] using ih
          · simpa [z] using ih
    · refine ⟨fun _ => ?_, fun z => absurd z ne10⟩
      simp only [c, d, decide_true] at ih
      refine ⟨fun z => ?_, fun z => ?_⟩
      · simpa [z] using ih
      · simpa [z] using ih
  · refine ⟨fun _ => ⟨fun _ => ?_, fun z => absurd rfl z⟩, fun z => absurd z c⟩
    refine ⟨fun z => ?_, fun z => ?_⟩
    · simpa [z, c] using ih
    · simpa [z, c] using ih
theorem sn_beg (K : Int32 → Prop) (v1 v2 z : Int32) {A B : Bool} (hA : A = true) (hB : B = false) (fin : ∀ u : Int32, u = (if A = true ∧ B = false ∧ ¬ v2 = -1 then (if v1 = -1 then z else if z < v1 then z else v1) else v1) → K u) :
    ((1 : Int32) = 0 → K v1) ∧ (¬ (1 : Int32) = 0 → ((v2 = ((-1)) → K v1) ∧ (¬ v2 = ((-1)) → ((v1 = ((-1)) → K z) ∧ (¬ v1 = ((-1)) → ((v1 ≤ z → K v1) ∧ (¬ (v1 ≤ z) → K z))))))) := by
  refine ⟨fun y => absurd y ne10, fun _ => ⟨fun e => fin _ (by rw [if_neg (fun y => y.2.2 e)]), fun e => ⟨fun f => fin _ (by rw [if_pos ⟨hA, hB, e⟩, if_pos f]), fun f => ?_⟩⟩⟩
  refine ⟨fun g => fin _ ?_, fun g => fin _ ?_⟩
  · rw [if_pos ⟨hA, hB, e⟩, if_neg f, if_neg (fun y => i_le.mpr y g)]
  · rw [if_pos ⟨hA, hB, e⟩, if_neg f, if_pos (i_le.mp g)]
theorem w_seenB (ht : t ≤ 5000) (h : b 97 11 = nI t) (x1 x2 : Int32) (post : Int32 → ig_M → Int64 → Prop) (hp : post (foldN (snF b x1 x2) t (-1, -1)).1 b lb) : ∃ j, wp_X6_seen_58 post j b lb x1 x2 (-1) (-1) 0 := by
  refine fold_loop (fun n k (v : Int32 × Int32) => wp_X6_seen_58 post n b lb x1 x2 v.1 v.2 (nI k)) (snF b x1 x2) t (-1, -1) (fun n => ⟨fun _ => hp, fun z => absurd (by rw [h]; exact le_self t) z⟩) ?_
  intro n k hk ih
  generalize foldN _ k _ = v at ih ⊢
  obtain ⟨v1, v2⟩ := v
  refine ⟨fun z => absurd (by rw [h] at z; exact z) (nle_of hk (by omega)), fun _ => ?_⟩
  unfold wp_X6_seen_100 wp_X6_seen_96 wp_X6_seen_101 wp_X6_seen_136 wp_X6_seen_141 wp_X6_seen_143 wp_X6_shown
  have vk : vp_in (nI k) 5000 := vp_in_nI (by omega) (by omega)
  rw [nI_clamp (show k < 2 ^ 31 by omega), nI_1]
  simp only [snF] at ih
  have fin : ∀ u : Int32, u = (if snG b x2 k = true ∧ snW b x2 k = false ∧ ¬ v2 = -1 then (if v1 = -1 then (nI k - v2) - 1 else if (nI k - v2) - 1 < v1 then (nI k - v2) - 1 else v1) else v1) →
      vp_in (nI k) 5000 ∧ ((¬ ((b 112 k >>> ((2 * x1) &&& 31)) &&& 3) = 1 → wp_X6_seen_58 post n b lb x1 x2 u v2 (nI (k + 1))) ∧ (((b 112 k >>> ((2 * x1) &&& 31)) &&& 3) = 1 → wp_X6_seen_58 post n b lb x1 x2 u (nI k) (nI (k + 1)))) := by
    intro u hu
    rw [← hu] at ih
    unfold snG at ih
    refine ⟨vk, fun z => ?_, fun z => ?_⟩
    · simpa [z] using ih
    · simpa [z] using ih
  refine ⟨vk, fun c => ⟨fun _ => fin v1 ?_, fun z => absurd rfl z⟩, fun c => ?_⟩
  · rw [if_neg]
    intro z
    have := z.1
    unfold snG at this
    exact c (by simpa using this)
  · have cg : snG b x2 k = true := by unfold snG; simpa using c
    have beg := fun (d : snW b x2 k = false) => sn_beg (fun u => vp_in (nI k) 5000 ∧ ((¬ ((b 112 k >>> ((2 * x1) &&& 31)) &&& 3) = 1 → wp_X6_seen_58 post n b lb x1 x2 u v2 (nI (k + 1))) ∧ (((b 112 k >>> ((2 * x1) &&& 31)) &&& 3) = 1 → wp_X6_seen_58 post n b lb x1 x2 u (nI k) (nI (k + 1))))) v1 v2 ((nI k - v2) - 1) cg d fin
    refine ⟨fun z => ?_, fun z => ?_⟩
    · have hk0 : k = 0 := (nI_eq (a := k) (b := 0) (by omega) (by omega)).mp z
      subst hk0
      exact beg rfl
    · have hk0 : ¬ k = 0 := fun y => z (by rw [y]; rfl)
      obtain ⟨k1, rfl⟩ : ∃ k1, k = k1 + 1 := ⟨k - 1, by omega⟩
      have ek : nI (k1 + 1) - 1 = nI k1 := pk_sub (a := k1 + 1) (b := 1) (by omega)
      rw [ek, nI_clamp (show k1 < 2 ^ 31 by omega)]
      refine ⟨vp_in_nI (by omega) (by omega), fun d => ⟨fun _ => fin v1 ?_, fun y => absurd rfl y⟩, fun d => beg ?_⟩
      · rw [if_neg]
        intro y
        have := y.2.1
        unfold snW snG at this
        simp [d] at this
      · unfold snW snG
        simp [d]
end SEEN
