/-! ===== go ===== -/
def sumA (r : Nat → Int32) (k : Nat) (l : Int64) : Int64 := l + (r k).toInt64
def mqB (k : Nat) (s : ig_M × Int64) : ig_M × Int64 := (mvB k s.1, s.2 + ((mvB k s.1) 107 k).toInt64)
theorem mvB_col {b : ig_M} {k m : Nat} (h : ¬ m = k) : mvB k b 107 m = b 107 m := mvB_off b k 107 m (by omega)
theorem mq_fst (b : ig_M) (l : Int64) : ∀ n, (foldN mqB n (b, l)).1 = foldN mvB n b
  | 0 => rfl
  | n + 1 => by
    show mvB n (foldN mqB n (b, l)).1 = mvB n (foldN mvB n b)
    rw [mq_fst b l n]
theorem sum_congr {r s : Nat → Int32} (l : Int64) (n : Nat) (h : ∀ k, k < n → r k = s k) : foldN (sumA r) n l = foldN (sumA s) n l :=
  foldN_congr (fun k hk v => by unfold sumA; rw [h k hk])
theorem mq_snd (b : ig_M) (l : Int64) : ∀ n, (foldN mqB n (b, l)).2 = foldN (sumA (foldN mvB n b 107)) n l
  | 0 => rfl
  | n + 1 => by
    have ih := mq_snd b l n
    show (foldN mqB n (b, l)).2 + (mvB n (foldN mqB n (b, l)).1 107 n).toInt64 = foldN (sumA (mvB n (foldN mvB n b) 107)) n l + (mvB n (foldN mvB n b) 107 n).toInt64
    rw [ih, mq_fst b l n, sum_congr l n (fun k hk => (mvB_col (by omega : ¬ k = n)).symm)]
section GO
variable {np ns t w : Nat} {a : ig_M} {la : Int64} {b : ig_M} {lb lo : Int64}
theorem s_move (h : ig_PP np ns t (t + 1) a la b lb) (ht : t < 5000) : ∃ a' la' b' lb', (∀ post : ig_M → Int64 → Prop, post a' la' → wp_X0_movePhases a la (fun a11 la12 => wp_X0_addQueues a11 la12 (fun a13 la14 => (∀ a15 : ig_M, a15 = ig_up a13 23 6 ((a13 23 6) + 1) → post a15 la14)))) ∧
    (∀ post : ig_M → Int64 → Prop, post b' lb' → ∃ j, wp_X6_goOne_115 post j b lb 0) ∧ ig_PP np ns (t + 1) (t + 1) a' la' b' lb' := by
  obtain ⟨h, h0⟩ := h
  have hnp := Q_np h
  have hQ := Q_fold h (fun k x y hk hq => Q_mv hq (by omega)) (F := mvA) (G := mvB)
  have hQn := hQ np (Nat.le_refl _)
  have ell : la = lb := h.1.2.2.2.2.2.2.2.2
  refine ⟨ig_up (foldN mvA np a) 23 6 (nI (t + 1)), foldN (sumA (foldN mvB np b 107)) np la, ig_up (foldN mvB np b) 97 11 (nI (t + 1)), foldN (sumA (foldN mvB np b 107)) np la, fun post hp => ?_, fun post hp => ?_, ?_, ?_⟩
  · refine fold_loop (fun n k s => wp_X0_movePhases_2 _ n s la (nI k)) mvA np a ?_ ?_
    · intro n
      refine ⟨fun _ => ?_, fun z => absurd (by rw [Q_a1 hQn]; exact le_self np) z⟩
      refine fold_loop (fun n k l => wp_X0_addQueues_2 _ n (foldN mvA np a) l (nI k)) (sumA (foldN mvB np b 107)) np la ?_ ?_
      · intro n
        refine ⟨fun _ a15 e15 => ?_, fun z => absurd (by rw [Q_a1 hQn]; exact le_self np) z⟩
        have e6 : foldN mvA np a 23 6 = nI t := hQn.1.2.2.2.2.2.1
        rw [e15, e6, nI_1]
        exact hp
      · intro n k hk ih
        refine ⟨fun z => absurd (by rw [Q_a1 hQn] at z; exact z) (nle_of hk (by omega)), fun _ => ⟨vp_in_nI (by omega) (by omega), ?_⟩⟩
        rw [nI_clamp (by omega), nI_1, (hQn.2.1 k (by omega)).1.2.2.2.2.2.2.1]
        exact ih
    · intro n k hk ih
      refine ⟨fun z => absurd (by rw [Q_a1 (hQ k (by omega))] at z; exact z) (nle_of hk (by omega)), fun _ => ⟨vp_in_nI (by omega) (by omega), ?_⟩⟩
      rw [nI_clamp (by omega), nI_1]
      exact w_mvA _ la k _ ih
  · rw [← mq_snd b la np, ← mq_fst b la np] at hp
    have hQm : ∀ k, k ≤ np → (foldN mqB k (b, la)).1 97 2 = nI np := fun k hk => by rw [mq_fst]; exact Q_b2 (hQ k hk)
    have eQ11 : (foldN mqB np (b, la)).1 97 11 = nI t := by rw [mq_fst]; exact hQn.1.2.2.2.2.2.2.1
    rw [← ell]
    refine fold_loop (fun n k (s : ig_M × Int64) => wp_X6_goOne_115 post n s.1 s.2 (nI k)) mqB np (b, la) ?_ ?_
    · intro n
      refine ⟨fun _ b24 e24 => ?_, fun z => absurd (by rw [hQm np (Nat.le_refl _)]; exact le_self np) z⟩
      rw [e24, eQ11, nI_1]
      exact hp
    · intro n k hk ih
      refine ⟨fun z => absurd (by rw [hQm k (by omega)] at z; exact z) (nle_of hk (by omega)), fun _ => w_mvB _ _ (by omega) _ ?_⟩
      refine ⟨vp_in_nI (by omega) (by omega), ?_⟩
      rw [nI_clamp (by omega), nI_1]
      exact ih
  · obtain ⟨⟨hnp, hns, ht0⟩, e1, e2, e3, e4, e5, e6, e7, e8⟩ := hQn.1
    refine Q_lights hQn _ _ (fun i hi => up_row hi) (fun i hi => up_row hi) ?_ ?_
    · simp [ig_R1, up_app, hnp, hns, e1, e2, e3, e4, e7, show t + 1 ≤ 5000 by omega]
    · simpa [ig_R5, ig_wk, up_app] using hQn.2.2.2.2.1
  · rw [up_col (by omega), fold_keep (fun k x => mvB_off x k 97 0 (by omega))]
    exact h0
theorem s_sec (h : ig_PP np ns t t a la b lb) (ht : t < 5000) : ∃ a' la' b' lb', (∀ post : ig_M → Int64 → Prop, post a' la' → wp_X0_passSecond a la post) ∧ (∀ post : ig_M → Int64 → Prop, post b' lb' → wp_X6_goOne b lb post) ∧ ig_PP np ns (t + 1) (t + 1) a' la' b' lb' := by
  obtain ⟨a1, b1, A1, B1, h1⟩ := s_leave h
  obtain ⟨a2, b2, A2, B2, h2⟩ := s_enter h1
  obtain ⟨a3, b3, A3, B3, h3⟩ := s_fade h2
  obtain ⟨a4, b4, A4, B4, h4⟩ := s_watch h3
  obtain ⟨a5, b5, A5, B5, h5⟩ := s_write h4 ht
  obtain ⟨a6, la6, b6, lb6, A6, B6, h6⟩ := s_move h5 ht
  refine ⟨a6, la6, b6, lb6, fun post hp => A1 _ (A2 _ (A3 _ (A4 _ (A5 _ (A6 _ hp))))), fun post hp => ?_, h6⟩
  have q5 : wp_X6_goOne_109 post b4 lb := B5 _ (B6 _ hp)
  have q3 : ∃ j, wp_X6_goOne_26 post j b2 lb 0 := B3 _ (B4 _ _ q5)
  have q2 : wp_X6_goOne_12 post b1 lb := B2 (fun b5 lb6 => ∃ j, wp_X6_goOne_26 post j b5 lb6 0) q3
  exact B1 (fun b2 lb3 => wp_X6_goOne_12 post b2 lb3) q2
theorem s_secs {n : Nat} (hn : n ≤ 1000) : ∀ (r k t : Nat) (a : ig_M) (la : Int64) (b : ig_M) (lb : Int64), k + r = n → t + r ≤ 5000 → ig_PP np ns t t a la b lb → ∃ a' la' b' lb',
    (∀ (post : Int32 → ig_M → Int64 → Prop) (px : Nat → Prop) (x2 : Int32), post ((a' 23 7) - x2) a' la' → ∃ j, wp_X5_go_56 post px j a la (nI n) x2 (nI k)) ∧ (∀ (post : Int32 → ig_M → Int64 → Prop) (x3 : Int32), post ((b' 97 22) - x3) b' lb' → ∃ j, wp_X6_go_51 post j b lb (nI n) x3 (nI k)) ∧ ig_PP np ns (t + r) (t + r) a' la' b' lb'
  | 0, k, t, a, la, b, lb, hk, ht, h => by
    have e : k = n := by omega
    subst e
    exact ⟨a, la, b, lb, fun post px x2 hp => ⟨1, fun _ => hp, fun z => absurd (le_self k) z⟩, fun post x3 hp => ⟨1, fun _ => hp, fun z => absurd (le_self k) z⟩, h⟩
  | r + 1, k, t, a, la, b, lb, hk, ht, h => by
    obtain ⟨a1, la1, b1, lb1, A1, B1, h1⟩ := s_sec h (by omega)
    obtain ⟨a2, la2, b2, lb2, A2, B2, h2⟩ := s_secs hn r (k + 1) (t + 1) a1 la1 b1 lb1 (by omega) (by omega) h1
    rw [show t + 1 + r = t + (r + 1) by omega] at h2
    refine ⟨a2, la2, b2, lb2, fun post px x2 hp => ?_, fun post x3 hp => ?_, h2⟩
    · obtain ⟨j, hj⟩ := A2 post px x2 hp
      refine ⟨j + 1, fun z => absurd z (nle_of (by omega) (by omega)), fun _ => A1 _ ?_⟩
      rw [nI_1]
      exact hj
    · obtain ⟨j, hj⟩ := B2 post x3 hp
      refine ⟨j + 1, fun z => absurd z (nle_of (by omega) (by omega)), fun _ => B1 _ ?_⟩
      rw [nI_1]
      exact hj
theorem d_go (h : ig_R np ns t a la b lb) (x1 : Int32) : ig_two (wp_L_go a la lo x1) (wp_X6_go b lb x1) := by
  have hR := h
  obtain ⟨h1, h2, h3, h4, h5, h6⟩ := h
  obtain ⟨⟨hnp, hns, ht⟩, e1, e2, e3, e4, e5, e6, e7, e8⟩ := h1
  cases g1 : iw x1 1 1000
  · refine ⟨1, a, la, lo, 0, ig_up b 97 0 1, lb, fun post hp => ?_, fun post hp => ?_, thr_at _ _, fun z => absurd z (by decide), _, _, _, R_thr hR 1⟩
    · simp [wp_L_go, wp_X5_go, w_with, g1, hp]
    · simp [wp_X6_go, wp_X6_go_35, w_in, w_well, g1, hp]
  · obtain ⟨n, hn1, hn2, rfl⟩ := iw_le (m := 1) (n := 1000) (by omega) (by omega) g1
    have key : nI t + nI n ≤ 5000 ↔ t + n ≤ 5000 := by
      rw [nI_add]
      exact nI_leI (a := t + n) (b := 5000) (by omega) (by omega)
    by_cases g2 : t + n ≤ 5000
    · obtain ⟨a', la', b', lb', A, B, h'⟩ := s_secs hn2 n 0 t a la (ig_up b 97 0 0) lb (by omega) g2 (⟨R_thr hR 0, by simp [up_app]⟩ : ig_PP np ns t t a la (ig_up b 97 0 0) lb)
      have eg : a' 23 7 = b' 97 22 := h'.1.1.2.2.2.2.2.2.2.1
      refine ⟨0, a', la', ((b' 97 22) - b 97 22).toInt64, (b' 97 22) - b 97 22, b', lb', fun post hp => ?_, fun post hp => ?_, h'.2, fun _ => rfl, np, ns, t + n, h'.1⟩
      · simp only [wp_L_go, wp_X5_go, w_with, g1, cond_true]
        refine ⟨fun _ => ⟨fun _ => A _ _ _ ?_, fun z => absurd (by rw [e5]; exact key.mpr g2) z⟩, fun z => absurd z ne10⟩
        rw [eg, e7]
        exact hp
      · unfold wp_X6_go wp_X6_go_35
        rw [w_in, g1]
        refine ⟨fun _ => ⟨fun _ => ?_, fun z => absurd (by rw [e6]; exact key.mpr g2) z⟩, fun z => absurd z ne10⟩
        rw [w_well]
        refine ⟨fun _ => B _ _ ?_, fun z => absurd z (by decide)⟩
        rw [show ig_up b 97 0 0 97 22 = b 97 22 by simp [up_app]]
        exact hp
    · refine ⟨2, a, la, lo, 0, ig_up b 97 0 2, lb, fun post hp => ?_, fun post hp => ?_, thr_at _ _, fun z => absurd z (by decide), _, _, _, R_thr hR 2⟩
      · simp only [wp_L_go, wp_X5_go, w_with, g1, cond_true]
        refine ⟨fun _ => ⟨fun z => absurd (key.mp (by rw [e5] at z; exact z)) g2, fun _ => Or.inr ⟨trivial, hp⟩⟩, fun z => absurd z ne10⟩
      · unfold wp_X6_go wp_X6_go_35
        rw [w_in, g1]
        refine ⟨fun _ => ⟨fun z => absurd (key.mp (by rw [e6] at z; exact z)) g2, fun _ => ?_⟩, fun z => absurd z ne10⟩
        rw [w_well]
        exact ⟨fun z => absurd rfl z, fun _ => hp⟩
end GO
