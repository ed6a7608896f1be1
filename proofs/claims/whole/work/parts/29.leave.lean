section SEEND
variable {np ns t w : Nat} {a : ig_M} {la : Int64} {b : ig_M} {lb lo : Int64}
theorem d_seen (h : ig_R np ns t a la b lb) (x1 x2 : Int32) : ig_two (wp_L_seen a la lo x1 x2) (wp_X6_seen b lb x1 x2) := by
  have hR := h
  obtain ⟨h1, h2, h3, h4, h5, h6⟩ := h
  obtain ⟨⟨hnp, hns, ht⟩, e1, e2, e3, e4, e5, e6, e7, rfl⟩ := h1
  cases g1 : iw x1 0 (nI np - 1)
  · refine ⟨1, a, la, lo, 0, ig_up b 97 0 1, la, fun post hp => ?_, fun post hp => ?_, thr_at _ _, fun z => absurd z (by decide), _, _, _, R_thr hR 1⟩
    · simp [wp_L_seen, wp_X5_seen, w_needPhase, e1, g1, hp]
    · simp [wp_X6_seen, wp_X6_seen_20, wp_X6_seen_21, wp_X6_seen_41, w_isPhase, w_well, e2, g1, hp]
  · cases g2 : iw x2 0 (nI np - 1)
    · refine ⟨1, a, la, lo, 0, ig_up b 97 0 1, la, fun post hp => ?_, fun post hp => ?_, thr_at _ _, fun z => absurd z (by decide), _, _, _, R_thr hR 1⟩
      · simp [wp_L_seen, wp_X5_seen, w_needPhase, e1, g1, g2, hp]
      · simp [wp_X6_seen, wp_X6_seen_20, wp_X6_seen_21, wp_X6_seen_41, w_isPhase, w_well, e2, g1, g2, hp]
    · by_cases g3 : x1 = x2
      · refine ⟨2, a, la, lo, 0, ig_up b 97 0 2, la, fun post hp => ?_, fun post hp => ?_, thr_at _ _, fun z => absurd z (by decide), _, _, _, R_thr hR 2⟩
        · subst g3; simp [wp_L_seen, wp_X5_seen, w_needPhase, e1, g1, hp]
        · subst g3; simp [wp_X6_seen, wp_X6_seen_20, wp_X6_seen_21, wp_X6_seen_41, w_isPhase, w_well, e2, g1, hp]
      · have er : foldN (snF (ig_up b 97 0 0) x1 x2) t (-1, -1) = foldN (snF b x1 x2) t (-1, -1) := by
          refine foldN_congr (fun k hk v => ?_)
          have q : (ig_up b 97 0 0) 112 = b 112 := up_row (by omega)
          cases k <;> (unfold snF snW snG; rw [q])
        refine ⟨0, a, la, (foldN (snF b x1 x2) t (-1, -1)).1.toInt64, (foldN (snF b x1 x2) t (-1, -1)).1, ig_up b 97 0 0, la, fun post hp => ?_, fun post hp => ?_, thr_at _ _, fun _ => rfl, _, _, _, R_thr hR 0⟩
        · simp only [wp_L_seen, wp_X5_seen, w_needPhase, e1, g1, g2, cond_true]
          exact ⟨fun _ => w_seenA (w := t) hR (Nat.le_refl _) x1 x2 _ hp, fun z => absurd z g3⟩
        · simp only [wp_X6_seen, wp_X6_seen_21, wp_X6_seen_41, w_isPhase, w_well, e2, g1, g2, cond_true]
          refine ⟨fun z => absurd z ne10, fun _ => ⟨fun z => absurd z ne10, fun _ => ⟨fun _ => ⟨fun _ => ⟨fun _ => w_seenB ht (by simp [up_app, e6]) x1 x2 post (by rw [er]; exact hp), fun z => absurd z ne10⟩, fun z => absurd z g3⟩, fun z => absurd z ne10⟩⟩⟩
end SEEND
/-! ===== go: what is demanded, which stage is wanted ===== -/
def ig_PP (np ns t w : Nat) (a : ig_M) (la : Int64) (b : ig_M) (lb : Int64) : Prop := ig_Q np ns t w a la b lb ∧ b 97 0 = 0
def dsF (b : ig_M) (p : Nat) (x : Int32) : Int32 := if dmB b p = true then x ||| (1 <<< (nI p &&& 31)) else x
theorem ds_bt (b : ig_M) : ∀ n, n ≤ 32 → ∀ i, i < 32 → bt (foldN (dsF b) n 0) i = (decide (i < n) && dmB b i)
  | 0, _, i, _ => by show bt 0 i = _; rw [b_0]; simp
  | n + 1, hn, i, hi => by
    show bt (dsF b n (foldN (dsF b) n 0)) i = _
    have ih := ds_bt b n (by omega) i hi
    generalize foldN (dsF b) n 0 = X at ih ⊢
    unfold dsF
    by_cases c : dmB b n = true
    · rw [if_pos c, b_or, ih, b_shl n (by omega) _ hi, b_1]
      by_cases e : i = n
      · subst e; simp [c]
      · by_cases f : i < n
        · simp [f, show i < n + 1 by omega, show ¬ n ≤ i by omega]
        · simp [f, show ¬ i < n + 1 by omega, show n ≤ i by omega, show ¬ i - n = 0 by omega]
    · rw [if_neg c, ih]
      by_cases e : i = n
      · subst e; simp at c; simp [c]
      · by_cases f : i < n
        · simp [f, show i < n + 1 by omega]
        · simp [f, show ¬ i < n + 1 by omega]
/-- the stage i has a phase that is demanded and that the stage s doesn't have -/
def wsB (b : ig_M) (np s i : Nat) : Bool := anyN (fun p => hb (b 102 i &&& (b 102 s ^^^ (-1))) (nI p) && dmB b p) np
theorem ws_iff (b : ig_M) {np : Nat} (hnp : np ≤ 8) (s i : Nat) : (b 102 i &&& (foldN (dsF b) np 0 &&& (b 102 s ^^^ (-1)))) = 0 ↔ wsB b np s i = false := by
  unfold wsB
  constructor
  · intro h
    rw [anyN_f]
    intro p hp
    have h2 : bt (b 102 i &&& (foldN (dsF b) np 0 &&& (b 102 s ^^^ (-1)))) p = bt 0 p := by rw [h]
    rw [b_and, b_and, b_0, ds_bt b np (by omega) p (by omega)] at h2
    rw [hb_bt _ (by omega), b_and]
    simp only [hp, decide_true, Bool.true_and] at h2
    rw [← h2]
    cases bt (b 102 i) p <;> cases bt (b 102 s ^^^ (-1)) p <;> cases dmB b p <;> rfl
  · intro h
    rw [anyN_f] at h
    apply b_ext
    intro p hp
    rw [b_and, b_and, b_0, ds_bt b np (by omega) p hp]
    by_cases c : p < np
    · have h2 := h p c
      rw [hb_bt _ (by omega), b_and] at h2
      simp only [c, decide_true, Bool.true_and]
      rw [← h2]
      cases bt (b 102 i) p <;> cases bt (b 102 s ^^^ (-1)) p <;> cases dmB b p <;> rfl
    · simp [c]
theorem isFst_lt {f : Nat → Bool} {n : Nat} {g : Nat → Int32} {v : Int32} (h : isFst f n g v) : v = -1 ∨ ∃ i, i < n ∧ v = g i := by
  rcases h with ⟨q, _⟩ | ⟨i, h1, h2, _⟩
  · exact Or.inl q
  · exact Or.inr ⟨i, h1, h2⟩
theorem nI_neg {n : Nat} (h : n < 2 ^ 31) : ¬ nI n = -1 := by
  intro z
  have := nI_toInt h
  rw [z] at this
  have e : ((-1 : Int32)).toInt = -1 := by decide
  omega
section LEAVE
variable {np ns t w : Nat} {a : ig_M} {la : Int64} {b : ig_M} {lb lo : Int64}
def trB (b : ig_M) (i : Nat) : Bool := hb (b 102 i) (b 97 21)
def isTram (b : ig_M) (ns s : Nat) (v : Int32) : Prop := (b 97 21 = -1 ∧ v = -1) ∨ (¬ b 97 21 = -1 ∧ ((trB b s = true ∧ v = nI s) ∨ (trB b s = false ∧ isFst (trB b) ns nI v)))
theorem ex_tram (b : ig_M) (ns s : Nat) : ∃ v, isTram b ns s v := by
  by_cases c : b 97 21 = -1
  · exact ⟨-1, Or.inl ⟨c, rfl⟩⟩
  · cases d : trB b s
    · obtain ⟨v, hv⟩ := ex_fst (trB b) ns nI
      exact ⟨v, Or.inr ⟨c, Or.inr ⟨d, hv⟩⟩⟩
    · exact ⟨nI s, Or.inr ⟨c, Or.inl ⟨d, rfl⟩⟩⟩
theorem tram_lt {s : Nat} (hs : s < ns) {v : Int32} (h : isTram b ns s v) : v = -1 ∨ ∃ i, i < ns ∧ v = nI i := by
  rcases h with ⟨_, q⟩ | ⟨_, ⟨_, q⟩ | ⟨_, q⟩⟩
  · exact Or.inl q
  · exact Or.inr ⟨s, hs, q⟩
  · exact isFst_lt q
theorem w_tramA (h : ig_Q np ns t w a la b lb) {s : Nat} (hs : s < ns) (h3 : a 23 3 = nI s) {v : Int32} (hv : isTram b ns s v) (post : Int32 → Prop) (hp : post v) : wp_X0_stageForTram a la post := by
  have hns : ns ≤ 6 := h.1.1.2.1
  have e3 : a 1 4 = nI ns := h.1.2.2.2.1
  have h4 := h.2.2.2.1
  have f3 : a 23 5 = b 97 21 := h.2.2.2.2.1.2.2.1
  unfold wp_X0_stageForTram
  rw [h3, f3]
  refine ⟨fun c => ?_, fun c => ?_⟩
  · rcases hv with ⟨z, _⟩ | ⟨_, hv⟩
    · exact absurd z c
    rw [w_setOf a la ns s hns hs e3, w_has, h4 s (by omega)]
    rcases hv with ⟨d, rfl⟩ | ⟨d, hv⟩
    · unfold trB at d
      rw [d]
      exact ⟨fun z => absurd z ne10, fun _ => hp⟩
    · unfold trB at d
      rw [d]
      refine ⟨fun _ => ?_, fun z => absurd rfl z⟩
      refine pk_loop (σ := Unit) (fun n k _ => wp_X0_stageForTram_38 a la post n (nI k)) (fun k _ => ∀ i, i < k → trB b i = false) ns 0 () (Nat.zero_le _) (fun i hi => absurd hi (Nat.not_lt_zero i)) ?_ ?_
      · intro n _ hI
        refine ⟨fun _ => ?_, fun z => absurd (by rw [e3]; exact le_self ns) z⟩
        rw [← isFst_none hv hI]
        exact hp
      · intro n k _ hk hI ih
        refine ⟨fun z => absurd (by rw [e3] at z; exact z) (nle_of hk (by omega)), fun _ => ?_⟩
        rw [w_setOf a la ns k hns hk e3, w_has, h4 k (by omega), f3]
        cases e : trB b k
        · have e2 := e
          unfold trB at e2
          rw [e2, nI_1]
          exact ⟨fun _ => ih () (fun i hi => by
            rcases Nat.lt_succ_iff_lt_or_eq.mp hi with q | rfl
            · exact hI i q
            · exact e), fun z => absurd rfl z⟩
        · have e2 := e
          unfold trB at e2
          rw [e2, ← isFst_at hv hk e hI]
          exact ⟨fun z => absurd z ne10, fun _ => hp⟩
  · rcases hv with ⟨_, z⟩ | ⟨z, _⟩
    · rw [← z]; exact hp
    · exact absurd c z
theorem w_tramB (hns : ns ≤ 6) (e4 : b 97 7 = nI ns) {s : Nat} (hs : s < ns) (h3 : b 97 10 = nI s) {v : Int32} (hv : isTram b ns s v) (post : Int32 → Prop) (hp : post v) : wp_X6_askedStage b lb post := by
  unfold wp_X6_askedStage
  rw [h3]
  refine ⟨fun c => ⟨vp_in_nI (by omega) (by omega), ?_⟩, fun c => ?_⟩
  · rcases hv with ⟨z, _⟩ | ⟨_, hv⟩
    · exact absurd z c
    rw [w_has6, nI_clamp (by omega)]
    rcases hv with ⟨d, rfl⟩ | ⟨d, hv⟩
    · unfold trB at d
      rw [d]
      exact ⟨fun z => absurd z ne10, fun _ => hp⟩
    · unfold trB at d
      rw [d]
      refine ⟨fun _ => ?_, fun z => absurd rfl z⟩
      rw [e4, show nI ns - 1 = nI ns + (-1) by rw [Int32.sub_eq_add_neg]]
      have main := pk_loopD (σ := Int32) (fun n k x => wp_X6_askedStage_43 b lb post n x (nI k + (-1))) (fun k x => k ≤ ns ∧ ((x = -1 ∧ ∀ i, k ≤ i → i < ns → trB b i = false) ∨ ∃ i, k ≤ i ∧ i < ns ∧ x = nI i ∧ trB b i = true ∧ ∀ j, k ≤ j → j < i → trB b j = false)) ?_ ?_ ns (-1) ⟨Nat.le_refl _, Or.inl ⟨rfl, fun i h1 h2 => absurd h1 (by omega)⟩⟩
      · exact ⟨_, main⟩
      · intro n x hI
        refine ⟨fun _ => ?_, fun z => absurd (by decide) z⟩
        rcases hI.2 with ⟨rfl, q⟩ | ⟨i, _, q2, rfl, q4, q5⟩
        · rw [← isFst_none hv (fun i hi => q i (Nat.zero_le _) hi)]; exact hp
        · rw [← isFst_at hv q2 q4 (fun j hj => q5 j (Nat.zero_le _) hj)]; exact hp
      · intro n k x hI ih
        obtain ⟨hk, hI⟩ := hI
        rw [pk_m1]
        refine ⟨fun z => absurd z (nI_pos (by omega)), fun _ => ⟨vp_in_nI (by omega) (by omega), ?_⟩⟩
        rw [w_has6, nI_clamp (by omega)]
        cases e : trB b k
        · have e2 := e
          unfold trB at e2
          rw [e2]
          refine ⟨fun _ => ih x ⟨by omega, ?_⟩, fun z => absurd rfl z⟩
          rcases hI with ⟨q1, q2⟩ | ⟨i, q1, q2, q3, q4, q5⟩
          · refine Or.inl ⟨q1, fun i h1 h2 => ?_⟩
            rcases Nat.eq_or_lt_of_le h1 with rfl | h3
            · exact e
            · exact q2 i (by omega) h2
          · refine Or.inr ⟨i, by omega, q2, q3, q4, fun j h1 h2 => ?_⟩
            rcases Nat.eq_or_lt_of_le h1 with rfl | h3
            · exact e
            · exact q5 j (by omega) h2
        · have e2 := e
          unfold trB at e2
          rw [e2]
          exact ⟨fun z => absurd z ne10, fun _ => ih (nI k) ⟨by omega, Or.inr ⟨k, Nat.le_refl _, by omega, rfl, e, fun j h1 h2 => absurd h1 (by omega)⟩⟩⟩
  · rcases hv with ⟨_, z⟩ | ⟨z, _⟩
    · rw [← z]; exact hp
    · exact absurd c z
/-- the k-th stage behind s -/
def nxS (ns s k : Nat) : Nat := (s + k + 1) % ns
def isDem (b : ig_M) (np ns s : Nat) (v : Int32) : Prop := isFst (fun k => wsB b np s (nxS ns s k)) (ns - 1) (fun k => nI (nxS ns s k)) v
theorem w_dsA (h : ig_Q np ns t w a la b lb) (post : Int32 → Prop) (hp : post (foldN (dsF b) np 0)) : wp_X3_demandedSet a la post := by
  have hnp := Q_np h
  have e1 := Q_a1 h
  refine fold_loop (fun n k x => wp_X3_demandedSet_4 a la post n x (nI k)) (dsF b) np 0 (fun n => ⟨fun _ => hp, fun z => absurd (by rw [e1]; exact le_self np) z⟩) ?_
  intro n k hk ih
  refine ⟨fun z => absurd (by rw [e1] at z; exact z) (nle_of hk (by omega)), fun _ => ⟨vp_in_nI (by omega) (by omega), ?_⟩⟩
  rw [nI_clamp (by omega), w_dmA (h.2.1 k (by omega)), nI_1]
  unfold dsF at ih
  cases c : dmB b k
  · rw [c, if_neg (by decide)] at ih
    exact ⟨fun _ => ih, fun z => absurd rfl z⟩
  · rw [c, if_pos rfl] at ih
    exact ⟨fun z => absurd z ne10, fun _ => ih⟩
theorem w_demA (h : ig_Q np ns t w a la b lb) {s : Nat} (hs : s < ns) (h3 : a 23 3 = nI s) {v : Int32} (hv : isDem b np ns s v) (post : Int32 → Prop) (hp : post v) : wp_X0_stageOnDemand a la post := by
  have hnp := Q_np h
  have hns : ns ≤ 6 := h.1.1.2.1
  have e3 : a 1 4 = nI ns := h.1.2.2.2.1
  have h4 := h.2.2.2.1
  refine w_dsA h _ ?_
  rw [h3, w_setOf a la ns s hns hs e3, h4 s (by omega), nI_1]
  have hit : ∀ i, i < ns → ∀ (A B : Prop), (wsB b np s i = false → A) → (wsB b np s i = true → B) → ((a 20 i &&& (foldN (dsF b) np 0 &&& (b 102 s ^^^ (-1)))) = 0 → A) ∧ (¬ (a 20 i &&& (foldN (dsF b) np 0 &&& (b 102 s ^^^ (-1)))) = 0 → B) := by
    intro i hi A B hA hB
    rw [h4 i (by omega), ws_iff b hnp s i]
    exact ⟨hA, fun z => hB (by simpa using z)⟩
  refine pk_loop (σ := Unit) (fun n k _ => wp_X0_stageOnDemand_29 a la post n (foldN (dsF b) np 0 &&& (b 102 s ^^^ (-1))) (nI k)) (fun k _ => s + 1 ≤ k ∧ ∀ j, j < k - (s + 1) → wsB b np s (nxS ns s j) = false) ns (s + 1) () (by omega) ⟨Nat.le_refl _, fun j hj => absurd hj (by omega)⟩ ?_ ?_
  · intro n _ hI
    refine ⟨fun _ => ?_, fun z => absurd (by rw [e3]; exact le_self ns) z⟩
    refine pk_loop (σ := Unit) (fun n k _ => wp_X0_stageOnDemand_63 a la post n (foldN (dsF b) np 0 &&& (b 102 s ^^^ (-1))) (nI k)) (fun k _ => ∀ j, j < ns - (s + 1) + k → wsB b np s (nxS ns s j) = false) s 0 () (Nat.zero_le _) hI.2 ?_ ?_
    · intro n _ hI2
      refine ⟨fun _ => ?_, fun z => absurd (by rw [h3]; exact le_self s) z⟩
      rw [← isFst_none hv (fun j hj => hI2 j (by omega))]
      exact hp
    · intro n k _ hk hI2 ih
      refine ⟨fun z => absurd (by rw [h3] at z; exact z) (nle_of hk (by omega)), fun _ => ?_⟩
      rw [w_setOf a la ns k hns (by omega) e3, nI_1]
      have ek : nxS ns s (ns - (s + 1) + k) = k := by
        unfold nxS
        rw [show s + (ns - (s + 1) + k) + 1 = k + ns by omega, Nat.add_mod_right, Nat.mod_eq_of_lt (by omega)]
      refine hit k (by omega) _ _ (fun z => ih () (fun j hj => ?_)) (fun z => ?_)
      · by_cases c : j = ns - (s + 1) + k
        · rw [c, ek]; exact z
        · exact hI2 j (by omega)
      · have := isFst_at hv (k := ns - (s + 1) + k) (by omega) (by simp only [ek]; exact z) hI2
        rw [ek] at this
        rw [← this]
        exact hp
  · intro n k _ hk hI ih
    obtain ⟨hks, hI⟩ := hI
    refine ⟨fun z => absurd (by rw [e3] at z; exact z) (nle_of hk (by omega)), fun _ => ?_⟩
    rw [w_setOf a la ns k hns (by omega) e3, nI_1]
    have ek : nxS ns s (k - (s + 1)) = k := by
      unfold nxS
      rw [show s + (k - (s + 1)) + 1 = k by omega, Nat.mod_eq_of_lt (by omega)]
    refine hit k (by omega) _ _ (fun z => ih () ⟨by omega, fun j hj => ?_⟩) (fun z => ?_)
    · by_cases c : j = k - (s + 1)
      · rw [c, ek]; exact z
      · exact hI j (by omega)
    · have := isFst_at hv (k := k - (s + 1)) (by omega) (by simp only [ek]; exact z) hI
      rw [ek] at this
      rw [← this]
      exact hp
theorem w_wish (hnp : np ≤ 8) (e2 : b 97 2 = nI np) {s i : Nat} (hs : s < 6) (hi : i < 6) (h3 : b 97 10 = nI s) (post : Int32 → Prop) (hp : post (cond (wsB b np s i) 1 0)) : wp_X6_isWished b lb (nI i) post := by
  refine flag_loop (fun n k v => wp_X6_isWished_4 b lb post n (nI i) v (nI k)) post _ 0 1 np ?_ ?_ ?_ hp
  · intro n v hv hpv
    exact ⟨fun _ => ⟨hv, hpv⟩, fun z => absurd (by rw [e2]; exact le_self np) z⟩
  · intro n k hk ih
    refine ⟨fun z => absurd (by rw [e2] at z; exact z) (nle_of hk (by omega)), fun _ => ⟨fun z => absurd rfl z, fun _ => ⟨vp_in_nI hi (by omega), ?_⟩⟩⟩
    rw [h3, w_has6, nI_clamp (by omega), nI_clamp (by omega), nI_1]
    refine ⟨vp_in_nI hs (by omega), ?_⟩
    cases c : hb (b 102 i &&& (b 102 s ^^^ (-1))) (nI k)
    · rw [c] at ih
      exact ⟨fun _ => ih, fun z => absurd rfl z⟩
    · rw [c] at ih
      refine ⟨fun z => absurd z ne10, fun _ => ?_⟩
      rw [w_dmB _ _ (by omega)]
      cases d : dmB b k
      · rw [d] at ih
        exact ⟨fun _ => ih, fun z => absurd rfl z⟩
      · rw [d] at ih
        exact ⟨fun z => absurd z ne10, fun _ => ih⟩
  · intro n k hk ih
    exact ⟨fun z => absurd (by rw [e2] at z; exact z) (nle_of hk (by omega)), fun _ => ⟨fun _ => by rw [nI_1]; exact ih, fun z => absurd z ne10⟩⟩
theorem w_demB (hnp : np ≤ 8) (hns : ns ≤ 6) (e2 : b 97 2 = nI np) (e4 : b 97 7 = nI ns) {s : Nat} (hs : s < ns) (h3 : b 97 10 = nI s) {v : Int32} (hv : isDem b np ns s v) (post : Int32 → Prop) (hp : post v) : wp_X6_demandedStage b lb post := by
  have hn0 : ¬ nI ns = 0 := nI_ne0 (by omega) (by omega)
  refine pk_loop (σ := Unit) (fun n k _ => wp_X6_demandedStage_2 b lb post n (nI (k + 1))) (fun k _ => ∀ j, j < k → wsB b np s (nxS ns s j) = false) (ns - 1) 0 () (Nat.zero_le _) (fun j hj => absurd hj (Nat.not_lt_zero j)) ?_ ?_
  · intro n _ hI
    rw [show ns - 1 + 1 = ns by omega]
    refine ⟨fun _ => ?_, fun z => absurd (by rw [e4]; exact le_self ns) z⟩
    rw [← isFst_none hv hI]
    exact hp
  · intro n k _ hk hI ih
    refine ⟨fun z => absurd (by rw [e4] at z; exact z) (nle_of (i := k + 1) (by omega) (by omega)), fun _ => ?_⟩
    rw [e4, h3, nI_add, pk_rem (by omega) (by omega) (by omega), nI_1]
    refine ⟨hn0, ?_⟩
    have hx : nxS ns s k < ns := Nat.mod_lt _ (by omega)
    rw [show (s + (k + 1)) % ns = nxS ns s k from rfl]
    refine w_wish hnp e2 (by omega) (by omega) h3 _ ?_
    cases c : wsB b np s (nxS ns s k)
    · exact ⟨fun _ => ih () (fun j hj => by
        rcases Nat.lt_succ_iff_lt_or_eq.mp hj with q | rfl
        · exact hI j q
        · exact c), fun z => absurd rfl z⟩
    · refine ⟨fun z => absurd z ne10, fun _ => ?_⟩
      rw [← isFst_at hv hk c hI]
      exact hp
end LEAVE
