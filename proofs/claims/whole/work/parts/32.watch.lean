/-! ===== go: fading, watching ===== -/
def fdA (k : Nat) (a : ig_M) : ig_M := if a (3 + k) 3 = 2 ∧ ¬ (a 23 6 - a (3 + k) 9 < 3) then ig_up a (3 + k) 3 0 else a
def fdB (k : Nat) (b : ig_M) : ig_M := if b 103 k = 2 ∧ ¬ (b 97 11 - b 104 k < 3) then ig_up b 103 k 0 else b
def dgI (b : ig_M) (p q : Nat) : Bool := decide (b 103 p = 0) && (!decide (b 111 (3 * p) = 0) && (!decide (b 101 (8 * p + q) ≤ 0) && !decide (b 103 q = 0)))
def dgB (b : ig_M) (np : Nat) : Bool := anyN (fun p => anyN (fun q => dgI b p q) np) np
section WATCH
variable {np ns t w : Nat} {a : ig_M} {la : Int64} {b : ig_M} {lb lo : Int64}
theorem Q_fd (h : ig_Q np ns t w a la b lb) {k : Nat} (hk : k < 8) : ig_Q np ns t w (fdA k a) la (fdB k b) lb := by
  have hph := h.2.1 k hk
  obtain ⟨_, e1, e2, e3, e4, e5, e6, e7, _⟩ := h.1
  obtain ⟨⟨q0, q1, q2, q3, q4, q5, q6, q7, q8, q9, q10⟩, qb, qc, qd, qe, qf⟩ := hph
  unfold fdA fdB
  rw [q3, q9, e5, e6]
  by_cases c : b 103 k = 2 ∧ ¬ (nI t - b 104 k < 3)
  · rw [if_pos c, if_pos c]
    refine Q_phase h hk _ _ (fun i hi => up_row hi) (fun i j hij => up_col (by omega)) ?_
    simp [ig_ph, up_app, q0, q1, q2, q3, q4, q5, q6, q7, q8, q9, q10]
    simp [q0, q6, q7, q8, q10] at qd qe qf
    exact ⟨by simpa using qb, qd, qe, qf⟩
  · rw [if_neg c, if_neg c]
    exact h
theorem s_fade (h : ig_PP np ns t w a la b lb) : ∃ a' b', (∀ post : ig_M → Int64 → Prop, post a' la → wp_X0_fadeAmbers a la post) ∧
    (∀ post : ig_M → Int64 → Prop, (((b' 97 9) = 2 → wp_X6_goOne_97 (wp_X6_goOne_109 post) post b' lb) ∧ (¬ (b' 97 9) = 2 → ((¬ (b' 97 9) = 1 → wp_X6_goOne_109 post b' lb) ∧ ((b' 97 9) = 1 → wp_X6_goOne_97 (wp_X6_goOne_109 post) post b' lb)))) → ∃ j, wp_X6_goOne_26 post j b lb 0) ∧ ig_PP np ns t w a' la b' lb := by
  obtain ⟨h, h0⟩ := h
  have hnp := Q_np h
  have hQ := Q_fold h (fun k x y hk hq => Q_fd hq (by omega)) (F := fdA) (G := fdB)
  refine ⟨foldN fdA np a, foldN fdB np b, fun post hp => ?_, fun post hp => ?_, hQ np (Nat.le_refl _), ?_⟩
  · refine fold_loop (fun n k s => wp_X0_fadeAmbers_2 post n s la (nI k)) fdA np a (fun n => ⟨fun _ => hp, fun z => absurd (by rw [Q_a1 (hQ np (Nat.le_refl _))]; exact le_self np) z⟩) ?_
    intro n k hk ih
    refine ⟨fun z => absurd (by rw [Q_a1 (hQ k (by omega))] at z; exact z) (nle_of hk (by omega)), fun _ => ⟨vp_in_nI (by omega) (by omega), ?_⟩⟩
    rw [nI_clamp (by omega), nI_1]
    generalize foldN fdA k a = x at ih ⊢
    unfold fdA at ih
    refine ⟨fun c => ?_, fun c => ⟨fun d => ?_, fun d a3 e => ?_⟩⟩
    · rw [if_neg (fun z => c z.1)] at ih; exact ih
    · rw [if_neg (fun z => z.2 d)] at ih; exact ih
    · rw [if_pos ⟨c, d⟩] at ih; rw [e]; exact ih
  · refine fold_loop (fun n k s => wp_X6_goOne_26 post n s lb (nI k)) fdB np b (fun n => ⟨fun _ => hp, fun z => absurd (by rw [Q_b2 (hQ np (Nat.le_refl _))]; exact le_self np) z⟩) ?_
    intro n k hk ih
    have vk : vp_in (nI k) 8 := vp_in_nI (by omega) (by omega)
    refine ⟨fun z => absurd (by rw [Q_b2 (hQ k (by omega))] at z; exact z) (nle_of hk (by omega)), fun _ => ⟨vk, ?_⟩⟩
    unfold wp_X6_goOne_68 wp_X6_goOne_74
    rw [nI_clamp (by omega), nI_1]
    generalize foldN fdB k b = x at ih ⊢
    unfold fdB at ih
    refine ⟨fun c => ⟨vk, vk, fun b1 e => ?_⟩, fun c => ⟨vk, fun d => ⟨vk, vk, fun b1 e => ?_⟩, fun d => ⟨vk, fun b1 e => ?_⟩⟩⟩
    · rw [if_neg (fun z => c z.1)] at ih; rw [e, up_self]; exact ih
    · rw [if_neg (fun z => z.2 d)] at ih; rw [e, up_self]; exact ih
    · rw [if_pos ⟨c, d⟩] at ih; rw [e]; exact ih
  · rw [fold_keep (fun k x => ?_)]
    · exact h0
    · unfold fdB; split
      · rw [up_row (by omega)]
      · rfl
theorem w_litA (h : ig_Q np ns t w a la b lb) {p : Nat} (hp8 : p < 8) (post : Int32 → Prop) (hp : post (cond (anyN (fun q => !decide (b 101 (8 * p + q) ≤ 0) && !decide (b 103 q = 0)) np) 1 0)) : wp_X0_isAgainstLit a la (nI p) post := by
  have hnp := Q_np h
  have e1 := Q_a1 h
  have vp : vp_in (nI p) 8 := vp_in_nI hp8 (by omega)
  refine any_loop (fun n k => wp_X0_isAgainstLit_2 a la post n (nI p) (nI k)) post _ np ?_ ?_ hp
  · intro n hp0
    exact ⟨fun _ => hp0, fun z => absurd (by rw [e1]; exact le_self np) z⟩
  · intro n k hk h1 h2
    have vk : vp_in (nI k) 8 := vp_in_nI (by omega) (by omega)
    refine ⟨fun z => absurd (by rw [e1] at z; exact z) (nle_of hk (by omega)), fun _ => ⟨vp, vk, ?_⟩⟩
    rw [nI_clamp (show k < 2 ^ 31 by omega), nI_clamp (show p < 2 ^ 31 by omega), (h.2.2.1 p k hp8 (by omega)).1, (h.2.1 k (by omega)).1.2.2.2.1, nI_1]
    refine ⟨fun c => ⟨fun _ => h2 (by simp [c]), fun z => absurd rfl z⟩, fun c => ⟨fun z => absurd z ne10, fun _ => ⟨vk, fun d => h2 (by simp [d]), fun d => h1 (by simp [c, d])⟩⟩⟩
theorem w_bool {x : Bool} {A B : Prop} (h1 : x = true → A) (h0 : x = false → B) : (cond x (1 : Int32) 0 = 1 → A) ∧ (cond x (1 : Int32) 0 = 0 → B) := by
  cases x
  · exact ⟨fun z => absurd z.symm ne10, fun _ => h0 rfl⟩
  · exact ⟨fun _ => h1 rfl, fun z => absurd z ne10⟩
theorem w_dgA (h : ig_Q np ns t w a la b lb) (post : ig_M → Int64 → Prop) (h1 : dgB b np = true → wp_X0_fallBack a la 3 post) (h0 : dgB b np = false → post a la) : ∃ j, wp_X0_watch_10 post j a la 0 := by
  have hnp := Q_np h
  have e1 := Q_a1 h
  have e : dgB b np = anyN (fun p => decide (b 103 p = 0) && (!decide (b 111 (3 * p) = 0) && anyN (fun q => !decide (b 101 (8 * p + q) ≤ 0) && !decide (b 103 q = 0)) np)) np := by
    refine anyN_congr (fun p hp => ?_)
    unfold dgI
    cases c : decide (b 103 p = 0)
    · rw [(anyN_f _ _).mpr (fun q _ => by simp)]; rfl
    · cases d : !decide (b 111 (3 * p) = 0)
      · rw [(anyN_f _ _).mpr (fun q _ => by simp)]; rfl
      · simp
  rw [e] at h1 h0
  refine any_loop (fun n k => wp_X0_watch_10 post n a la (nI k)) (fun r => (r = 1 → wp_X0_fallBack a la 3 post) ∧ (r = 0 → post a la)) (fun p => decide (b 103 p = 0) && (!decide (b 111 (3 * p) = 0) && anyN (fun q => !decide (b 101 (8 * p + q) ≤ 0) && !decide (b 103 q = 0)) np)) np ?_ ?_ (w_bool h1 h0)
  · intro n hp0
    exact ⟨fun _ => hp0.2 rfl, fun z => absurd (by rw [e1]; exact le_self np) z⟩
  · intro n k hk g1 g2
    have vk : vp_in (nI k) 8 := vp_in_nI (by omega) (by omega)
    have hph := h.2.1 k (by omega)
    have hb0 := hph.2.1 0 (by omega)
    rw [Nat.add_zero] at hb0
    refine ⟨fun z => absurd (by rw [e1] at z; exact z) (nle_of hk (by omega)), fun _ => ⟨vk, ?_⟩⟩
    rw [nI_clamp (by omega), hph.1.2.2.2.1, nI_1]
    refine ⟨fun c => g2 (by simp [c]), fun c => ?_⟩
    rw [w_isBroken]
    rw [show nI 0 = 0 from rfl] at hb0
    cases d : hb (a (3 + k) 11) 0
    · rw [d] at hb0
      exact ⟨fun _ => g2 (by simp [hb0]), fun z => absurd rfl z⟩
    · rw [d] at hb0
      refine ⟨fun z => absurd z ne10, fun _ => w_litA h (by omega) _ ?_⟩
      cases g : anyN (fun q => !decide (b 101 (8 * k + q) ≤ 0) && !decide (b 103 q = 0)) np
      · exact ⟨fun _ => g2 (by rw [g]; simp), fun z => absurd rfl z⟩
      · exact ⟨fun z => absurd z ne10, fun _ => (g1 (by rw [g]; simp [c, hb0])).1 rfl⟩
theorem w_dgB (hnp : np ≤ 8) (e2 : b 97 2 = nI np) (post : Int32 → Prop) (hp : post (cond (dgB b np) 1 0)) : wp_X6_isDangerous b lb post := by
  refine flag_loop (fun n k v => wp_X6_isDangerous_4 b lb post n v (nI k)) post _ 0 1 np ?_ ?_ ?_ hp
  · intro n v hv hpv
    exact ⟨fun _ => ⟨hv, hpv⟩, fun z => absurd (by rw [e2]; exact le_self np) z⟩
  · intro n p hk ih
    refine ⟨fun z => absurd (by rw [e2] at z; exact z) (nle_of hk (by omega)), fun _ => ?_⟩
    refine flag_loop (fun m k v => wp_X6_isDangerous_14 b lb (fun (z0 : Int32) (z1 : Int32) => wp_X6_isDangerous_4 b lb post n z0 z1) post m v (nI p) (nI k)) (fun v => wp_X6_isDangerous_4 b lb post n v (nI (p + 1))) _ 0 1 np ?_ ?_ ?_ ih
    · intro m v _ hpv
      exact ⟨fun _ => by rw [nI_1]; exact hpv, fun z => absurd (by rw [e2]; exact le_self np) z⟩
    · intro m k hk2 ih2
      have vk : vp_in (nI k) 8 := vp_in_nI (by omega) (by omega)
      have vp : vp_in (nI p) 8 := vp_in_nI (by omega) (by omega)
      have i3 : 3 * nI p = nI (3 * p) := by
        show nI 3 * nI p = _
        rw [pk_mul]
      refine ⟨fun z => absurd (by rw [e2] at z; exact z) (nle_of hk2 (by omega)), fun _ => ⟨fun z => absurd rfl z, fun _ => ⟨vp, ?_⟩⟩⟩
      rw [i3, idx8, nI_clamp (show p < 2 ^ 31 by omega), nI_clamp (show k < 2 ^ 31 by omega), nI_clamp (show 3 * p < 2 ^ 31 by omega), nI_clamp (show 8 * p + k < 2 ^ 31 by omega), nI_1]
      unfold dgI at ih2
      refine ⟨fun c => ?_, fun c => ⟨vp_in_nI (by omega) (by omega), fun d => ?_, fun d => ⟨vp_in_nI (by omega) (by omega), fun e => ?_, fun e => ⟨vk, fun f => ?_, fun f => ?_⟩⟩⟩⟩
      · simpa [c] using ih2
      · simpa [d] using ih2
      · rw [decide_eq_true e] at ih2; simpa using ih2
      · simpa [f] using ih2
      · rw [decide_eq_false e] at ih2; simpa [c, d, f] using ih2
    · intro m k hk2 ih2
      exact ⟨fun z => absurd (by rw [e2] at z; exact z) (nle_of hk2 (by omega)), fun _ => ⟨fun _ => by rw [nI_1]; exact ih2, fun z => absurd z ne10⟩⟩
  · intro n p hp ih
    refine ⟨fun z => absurd (by rw [e2] at z; exact z) (nle_of hp (by omega)), fun _ => ?_⟩
    refine stay_loop (fun m k => wp_X6_isDangerous_14 b lb (fun (z0 : Int32) (z1 : Int32) => wp_X6_isDangerous_4 b lb post n z0 z1) post m 1 (nI p) (nI k)) np ?_ ?_
    · intro m
      exact ⟨fun _ => by rw [nI_1]; exact ih, fun z => absurd (by rw [e2]; exact le_self np) z⟩
    · intro m k hk ih2
      exact ⟨fun z => absurd (by rw [e2] at z; exact z) (nle_of hk (by omega)), fun _ => ⟨fun _ => by rw [nI_1]; exact ih2, fun z => absurd z ne10⟩⟩
theorem s_watch (h : ig_PP np ns t w a la b lb) : ∃ a' b', (∀ post : ig_M → Int64 → Prop, post a' la → wp_X0_watch a la post) ∧
    (∀ (K : ig_M → Int64 → Prop) (post : ig_M → Int64 → Prop), K b' lb → (((b 97 9) = 2 → wp_X6_goOne_97 K post b lb) ∧ (¬ (b 97 9) = 2 → ((¬ (b 97 9) = 1 → K b lb) ∧ ((b 97 9) = 1 → wp_X6_goOne_97 K post b lb))))) ∧ ig_PP np ns t w a' la b' lb := by
  obtain ⟨h, h0⟩ := h
  have hnp := Q_np h
  have f1 : a 23 2 = b 97 9 := h.2.2.2.2.1.1
  by_cases c : b 97 9 = 1 ∨ b 97 9 = 2
  · have A : ∀ post : ig_M → Int64 → Prop, (dgB b np = true → wp_X0_fallBack a la 3 post) → (dgB b np = false → post a la) → wp_X0_watch a la post := by
      intro post g1 g0
      have one : (fun r1 : Int32 => ((¬ r1 = 0 → ∃ j : Nat, wp_X0_watch_10 post j a la 0) ∧ (r1 = 0 → post a la))) 1 := ⟨fun _ => w_dgA h post g1 g0, fun z => absurd z ne10⟩
      unfold wp_X0_watch wp_X0_areWorking
      rw [f1]
      exact ⟨fun _ => one, fun d => ⟨fun e => absurd (c.resolve_left d) e, fun _ => one⟩⟩
    have B : ∀ (K : ig_M → Int64 → Prop) (post : ig_M → Int64 → Prop), wp_X6_goOne_97 K post b lb → (((b 97 9) = 2 → wp_X6_goOne_97 K post b lb) ∧ (¬ (b 97 9) = 2 → ((¬ (b 97 9) = 1 → K b lb) ∧ ((b 97 9) = 1 → wp_X6_goOne_97 K post b lb)))) := by
      intro K post hp
      exact ⟨fun _ => hp, fun d => ⟨fun e => absurd (c.resolve_right d) e, fun _ => hp⟩⟩
    cases g : dgB b np
    · refine ⟨a, b, fun post hp => A post (fun z => absurd (g.symm.trans z) (by decide)) (fun _ => hp), fun K post hK => B K post (w_dgB hnp (Q_b2 h) _ ?_), h, h0⟩
      rw [g]
      exact ⟨fun _ => hK, fun z => absurd rfl z⟩
    · have hQ := Q_back h (Or.inr rfl : (3 : Int32) = 0 ∨ (3 : Int32) = 3)
      have hQ2 := Q_fold hQ (fun k x y hk hq => Q_red hq (by omega)) (F := redA) (G := redB) np (Nat.le_refl _)
      refine ⟨_, _, fun post hp => A post (fun _ => ?_) (fun z => absurd (g.symm.trans z) (by decide)), fun K post hK => B K post (w_dgB hnp (Q_b2 h) _ ?_), hQ2, ?_⟩
      · intro a1 e1 a2 e2
        rw [e2, e1]
        exact w_fallA hQ _ hp
      · rw [g]
        refine ⟨fun z => absurd z ne10, fun _ b1 e1 => ?_⟩
        rw [e1]
        exact w_fallB hQ _ hK
      · rw [fold_keep (fun k x => ?_)]
        · rw [up_col (by omega)]; exact h0
        · unfold redB
          rw [up_row (by omega), up_row (by omega)]
  · have c1 : ¬ b 97 9 = 1 := fun z => c (Or.inl z)
    have c2 : ¬ b 97 9 = 2 := fun z => c (Or.inr z)
    refine ⟨a, b, fun post hp => ?_, fun K post hK => ⟨fun z => absurd z c2, fun _ => ⟨fun _ => hK, fun z => absurd z c1⟩⟩, h, h0⟩
    unfold wp_X0_watch wp_X0_areWorking
    rw [f1]
    exact ⟨fun z => absurd z c1, fun _ => ⟨fun _ => ⟨fun z => absurd rfl z, fun _ => hp⟩, fun z => absurd z c2⟩⟩
end WATCH
