/-! ===== the log, the vehicles; seconds ===== -/
section ZGO
variable {np ns t w : Nat} {a a' : ig_M} {la : Int64} {b : ig_M}
theorem lg_V {d : Nat → Nat} (h : ∀ p, d p < 4) {p : Nat} (hp : p < 8) : ((nI (mmR d 8) >>> ((2 * nI p) &&& 31)) &&& 3) = nI (d p) := by
  apply b_ext
  intro i hi
  have e2 : (2 : Int32) * nI p = nI (2 * p) := pk_mul 2 p
  rw [e2, b_and, b_sshr (2 * p) (by omega) _ hi, b_3, bt_nI _ hi]
  have hd := h p
  by_cases c : i < 2
  · rw [decide_eq_true c, Bool.and_true, if_pos (by omega), bt_nI _ (by omega), mmR_bt h 8 (by omega), show (2 * p + i) / 2 = p by omega, show (2 * p + i) % 2 = i by omega, if_pos hp, show 8 - 8 + p = p by omega]
  · rw [decide_eq_false c, Bool.and_false]
    symm
    apply Nat.testBit_lt_two_pow
    have : 2 ^ 2 ≤ 2 ^ i := Nat.pow_le_pow_right (by omega) (by omega)
    omega
theorem z_write (h : zQ np ns t t a la b) (ht : t < 5000) : ∃ a' b', (∀ post : ig_M → Int64 → Prop, post a' la → wp_X0_writeLog a la post) ∧ zQ np ns t (t + 1) a' la b' ∧ zKeep a a' := by
  have h0 := h
  obtain ⟨h, hS, hD, hK⟩ := h
  obtain ⟨⟨hnp, hns, ht0⟩, e1, e2, e3, e4, e5, e6, e7, e8⟩ := h.1
  have f1 : a 23 2 = b 97 9 := h.2.2.2.2.1.1
  have f4 := h.2.2.2.2.1.2.2.2.1
  rw [f1] at f4
  have hd := wrD_lt h
  have h3 : ∀ p, np ≤ p → wrD b np p = 3 := fun p hp => by unfold wrD; rw [if_neg (fun z => absurd z.1 (by omega))]
  have hV := wr_eq hd hnp h3
  have g1 : iw (nI t) 0 (5000 - 1) = true := iw_k (m := 0) (n := 4999) (by omega) (by omega) (by omega)
  have vt : vp_in (nI t) 5000 := vp_in_nI ht (by omega)
  refine ⟨ig_up a 22 t (nI (mmR (wrD b np) 8)), ig_up b 112 t (nI (mmR (wrD b np) 8)), fun post hp => ?_, ⟨?_, ?_, ?_, ?_⟩, fun i g1 g2 => up_row (by omega)⟩
  · unfold wp_X0_writeLog wp_X1_darken
    rw [w_with, e5, g1, nI_clamp (by omega)]
    refine ⟨fun z => absurd z ne10, fun _ => ⟨vt, fun a4 u4 => ?_⟩⟩
    rw [u4]
    unfold wp_X0_areWorking
    have r2 : ig_up a 22 t 65535 23 2 = b 97 9 := by rw [up_row (by omega)]; exact f1
    simp only [r2]
    by_cases c : b 97 9 = 1 ∨ b 97 9 = 2
    · have main : ∃ j, wp_X0_writeLog_21 post j (ig_up a 22 t 65535) la 0 := by
        refine fold_loop (fun n k v => wp_X0_writeLog_21 post n (ig_up a 22 t v) la (nI k)) (wvF (wrD b np)) np 65535 ?_ ?_
        · intro n
          refine ⟨fun _ => ?_, fun z => absurd (by rw [up_row (by omega), e1]; exact le_self np) z⟩
          rw [hV]
          exact hp
        · intro n k hk ih
          generalize foldN (wvF (wrD b np)) k 65535 = v at ih ⊢
          have hph := h.2.1 k (by omega)
          obtain ⟨q, hq, eq⟩ := col_of h (p := k) (by omega)
          have hbq := hph.2.1 q hq
          have n0 : ∀ j, ig_up a 22 t v 1 j = a 1 j := fun j => by rw [up_row (by omega)]
          have n1 : ∀ j, ig_up a 22 t v (3 + k) j = a (3 + k) j := fun j => by rw [up_row (by omega)]
          have n2 : ∀ j, ig_up a 22 t v 23 j = a 23 j := fun j => by rw [up_row (by omega)]
          have n3 : ig_up a 22 t v 22 t = v := by simp [up_app]
          refine ⟨fun z => absurd (by rw [n0, e1] at z; exact z) (nle_of hk (by omega)), fun _ => ⟨vp_in_nI (by omega) (by omega), ?_⟩⟩
          unfold wp_X2_shown
          rw [nI_clamp (show k < 2 ^ 31 by omega), w_isBroken, n1, n1, n2, e5, hph.1.2.2.2.1, eq]
          have fin : ∀ r : Int32, r = nI (wrD b np k) → wp_X1_show (ig_up a 22 t v) la (nI k) (nI t) r (fun a8 la9 => wp_X0_writeLog_21 post n a8 la9 (nI k + 1)) := by
            intro r hr
            unfold wp_X1_show
            rw [w_with, g1, nI_clamp (by omega), n3, show (2 : Int32) * nI k = nI (2 * k) from pk_mul 2 k, hr, nI_1]
            refine ⟨fun z => absurd z ne10, fun _ => ⟨vt, vt, fun a5 u5 => ?_⟩⟩
            rw [u5, up_up]
            exact ih
          unfold wrD at fin
          rw [eq, nI_clamp (by omega)] at fin
          cases d : hb (a (3 + k) 11) (nI q)
          · rw [d] at hbq
            refine ⟨fun _ => fin _ ?_, fun z => absurd rfl z⟩
            rw [if_pos ⟨hk, c, hbq⟩]
          · rw [d] at hbq
            refine ⟨fun z => absurd z ne10, fun _ => fin _ ?_⟩
            rw [if_neg (fun z => absurd (hbq.symm.trans z.2.2) ne10)]
            rfl
      exact ⟨fun _ => ⟨fun _ => main, fun z => absurd z ne10⟩, fun d => ⟨fun e => absurd (c.resolve_left d) e, fun _ => ⟨fun _ => main, fun z => absurd z ne10⟩⟩⟩
    · have c1 : ¬ b 97 9 = 1 := fun z => c (Or.inl z)
      have c2 : ¬ b 97 9 = 2 := fun z => c (Or.inr z)
      have e9 : foldN (wvF (wrD b np)) 0 65535 = nI (mmR (wrD b np) 8) := wr_eq hd (by omega) (fun p _ => by unfold wrD; rw [if_neg (fun z => c z.2.1)])
      refine ⟨fun z => absurd z c1, fun _ => ⟨fun _ => ⟨fun z => absurd trivial z, fun _ => ?_⟩, fun z => absurd z c2⟩⟩
      rw [← e9] at hp
      exact hp
  · refine ⟨by simpa [ig_R1, up_app] using h.1, ?_, ?_, ?_, by simpa [ig_R5, ig_wk, up_app] using h.2.2.2.2.1, ?_⟩
    · intro p hp
      simpa [ig_ph, up_app, show ¬ 3 + p = 22 by omega] using h.2.1 p hp
    · intro p q hp hq
      simpa [up_app, show ¬ 12 + p = 22 by omega] using h.2.2.1 p q hp hq
    · intro s hs
      simpa [up_app] using h.2.2.2.1 s hs
    · intro u hu
      by_cases c : u = t
      · simp [up_app, c]
      · simpa [up_app, c] using h.2.2.2.2.2 u (by omega)
  · exact zS_congr hS (fun p _ => by rw [up_row (by omega)]) hnp hns (fun p q _ _ => by rw [up_row (by omega)]) (fun q _ => by rw [up_row (by omega)])
  · refine zD_write hD (fun p hp hl => ?_)
    rw [lg_V hd hp] at hl
    have hl2 : wrD b np p = 1 := (nI_eq (a := wrD b np p) (b := 1) (by have := hd p; omega) (by omega)).mp hl
    unfold wrD at hl2
    split at hl2
    · obtain ⟨q, hq, eq⟩ := col_of h (p := p) hp
      rw [eq, nI_clamp (by omega)] at hl2
      rw [(h.2.1 p hp).1.2.2.2.1, eq, hl2]
      rfl
    · exact absurd hl2 (by decide)
  · unfold zK
    rw [up_row (by omega)]
    exact hK
/-! moving -/
theorem mvA_in (a : ig_M) (k p : Nat) {j : Nat} (hk : ¬ 3 + k = 23) (hj : j = 0 ∨ j = 3 ∨ j = 9) : mvA k a (3 + p) j = a (3 + p) j := by
  unfold mvA
  repeat' split
  all_goals (repeat rw [up_col (by omega)])
theorem mvA_gone (a : ig_M) (k : Nat) (hk : k < 8) (h0 : 0 ≤ (a 23 7).toInt) (h1 : (a 23 7).toInt ≤ 100000) : (a 23 7).toInt ≤ (mvA k a 23 7).toInt ∧ (mvA k a 23 7).toInt ≤ (a 23 7).toInt + 1 := by
  have e0 : (a 23 7 + 0) = a 23 7 := i_add0 _
  have e1 : (a 23 7 + 1).toInt = (a 23 7).toInt + 1 := by
    rw [w_add (by omega) (by omega) (by decide) (by decide)]
    rfl
  have g : mvA k a 23 7 = a 23 7 ∨ mvA k a 23 7 = a 23 7 + 1 := by
    unfold mvA
    rw [e0]
    repeat' split
    all_goals first | (left; simp [up_app]; done) | (right; simp [up_app]; done)
  rcases g with g | g
  · rw [g]; omega
  · rw [g, e1]; omega
theorem mv_gone (a : ig_M) : ∀ n, n ≤ 8 → 0 ≤ (a 23 7).toInt → (a 23 7).toInt ≤ 90000 → (a 23 7).toInt ≤ (foldN mvA n a 23 7).toInt ∧ (foldN mvA n a 23 7).toInt ≤ (a 23 7).toInt + n
  | 0, _, _, _ => ⟨Int.le_refl _, by show (a 23 7).toInt ≤ (a 23 7).toInt + ((0 : Nat) : Int); omega⟩
  | n + 1, hn, h0, h1 => by
    have ih := mv_gone a n (by omega) h0 h1
    have st := mvA_gone (foldN mvA n a) n (by omega) (by omega) (by omega)
    show (a 23 7).toInt ≤ (mvA n (foldN mvA n a) 23 7).toInt ∧ (mvA n (foldN mvA n a) 23 7).toInt ≤ (a 23 7).toInt + ((n + 1 : Nat) : Int)
    omega
theorem sum_rng (r : Nat → Int32) (l : Int64) : ∀ n, n ≤ 8 → (∀ k, k < n → 0 ≤ (r k).toInt ∧ (r k).toInt ≤ 1000) → 0 ≤ l.toInt → l.toInt ≤ 2 ^ 40 → l.toInt ≤ (foldN (sumA r) n l).toInt ∧ (foldN (sumA r) n l).toInt ≤ l.toInt + 1000 * (n : Int)
  | 0, _, _, _, _ => ⟨Int.le_refl _, by show _ ≤ _ + 1000 * ((0 : Nat) : Int); simp; exact Int.le_refl _⟩
  | n + 1, hn, hr, h0, h1 => by
    have ih := sum_rng r l n (by omega) (fun k hk => hr k (by omega)) h0 h1
    have hn2 := hr n (by omega)
    show l.toInt ≤ (foldN (sumA r) n l + (r n).toInt64).toInt ∧ (foldN (sumA r) n l + (r n).toInt64).toInt ≤ l.toInt + 1000 * ((n + 1 : Nat) : Int)
    rw [l_add (by omega) (by omega) (by rw [Int32.toInt_toInt64]; omega) (by rw [Int32.toInt_toInt64]; omega), Int32.toInt_toInt64]
    omega
theorem z_move (h : zQ np ns t (t + 1) a la b) (ht : t < 5000) : ∃ a' la' b', (∀ post : ig_M → Int64 → Prop, post a' la' → wp_X0_movePhases a la (fun a11 la12 => wp_X0_addQueues a11 la12 (fun a13 la14 => (∀ a15 : ig_M, a15 = ig_up a13 23 6 ((a13 23 6) + 1) → post a15 la14)))) ∧ zQ np ns (t + 1) (t + 1) a' la' b' ∧ zKeep a a' := by
  obtain ⟨h, hS, hD, hK⟩ := h
  have hnp := Q_np h
  have hns : ns ≤ 6 := h.1.1.2.1
  have hQ := Q_fold h (fun k x y hk hq => Q_mv hq (by omega)) (F := mvA) (G := mvB)
  have hQn := hQ np (Nat.le_refl _)
  obtain ⟨X, hX⟩ : ∃ X, X = foldN mvA np a := ⟨_, rfl⟩
  obtain ⟨Y, hY⟩ : ∃ Y, Y = foldN mvB np b := ⟨_, rfl⟩
  obtain ⟨L, hL⟩ : ∃ L, L = foldN (sumA (Y 107)) np la := ⟨_, rfl⟩
  have in3 : ∀ p j, p < 8 → (j = 0 ∨ j = 3 ∨ j = 9) → X (3 + p) j = a (3 + p) j := fun p j hp hj => by
    rw [hX]
    refine fold_keep (fun k x => ?_) np a
    by_cases c : 3 + k = 23
    · exact mvA_off x k (3 + p) j (by omega)
    · exact mvA_in x k p c hj
  have keep : ∀ i j, ¬ (3 ≤ i ∧ i ≤ 10) → ¬ (i = 23 ∧ j = 7) → X i j = a i j := fun i j g1 g2 => by
    have key : ∀ n, n ≤ 8 → foldN mvA n a i j = a i j := by
      intro n
      induction n with
      | zero => exact fun _ => rfl
      | succ n ih =>
        intro hn
        show mvA n (foldN mvA n a) i j = a i j
        rw [mvA_off _ _ _ _ (by omega), ih (by omega)]
    rw [hX]
    exact key np hnp
  have row : ∀ i, ¬ (3 ≤ i ∧ i ≤ 10) → i ≠ 23 → X i = a i := fun i g1 g2 => funext (fun j => keep i j g1 (by omega))
  have hgone := mv_gone a np hnp hK.2.2.1 (by have := hK.2.2.2; omega)
  rw [← hX] at hgone
  have hsum := sum_rng (Y 107) la np hnp (fun k hk => by
    have hph := hQn.2.1 k (by omega)
    rw [← hY] at hph
    have q6 := hph.1.2.2.2.2.2.2.1
    have qd := hph.2.2.2.1
    rw [q6] at qd
    have g1 := Int32.le_iff_toInt_le.mp qd.1
    have g2 := Int32.le_iff_toInt_le.mp qd.2
    have z0 : (0 : Int32).toInt = 0 := by decide
    have z1 : (1000 : Int32).toInt = 1000 := by decide
    omega) hK.1 (by have := hK.2.1; omega)
  rw [← hL] at hsum
  have e6 : X 23 6 = nI t := by rw [hX]; exact hQn.1.2.2.2.2.2.1
  rw [← hX, ← hY] at hQn
  refine ⟨ig_up X 23 6 (nI (t + 1)), L, ig_up Y 97 11 (nI (t + 1)), fun post hp => ?_, ⟨?_, ?_, ?_, ?_⟩, fun i g1 g2 => by rw [up_row (by omega)]; exact row i (by omega) (by omega)⟩
  · refine fold_loop (fun n k s => wp_X0_movePhases_2 _ n s la (nI k)) mvA np a ?_ ?_
    · intro n
      rw [← hX]
      refine ⟨fun _ => ?_, fun z => absurd (by rw [Q_a1 hQn]; exact le_self np) z⟩
      refine fold_loop (fun n k l => wp_X0_addQueues_2 _ n X l (nI k)) (sumA (Y 107)) np la ?_ ?_
      · intro n
        rw [← hL]
        refine ⟨fun _ a15 e15 => ?_, fun z => absurd (by rw [Q_a1 hQn]; exact le_self np) z⟩
        rw [e15, e6, nI_1]
        exact hp
      · intro n k hk ih
        refine ⟨fun z => absurd (by rw [Q_a1 hQn] at z; exact z) (nle_of hk (by omega)), fun _ => ⟨vp_in_nI (by omega) (by omega), ?_⟩⟩
        rw [nI_clamp (by omega), nI_1, (hQn.2.1 k (by omega)).1.2.2.2.2.2.2.1]
        exact ih
    · intro n k hk ih
      refine ⟨fun z => absurd (by rw [Q_a1 (hQ k (by omega))] at z; exact z) (nle_of hk (by omega)), fun _ => ⟨vp_in_nI (by omega) (by omega), ?_⟩⟩
      rw [nI_clamp (by omega), nI_1]
      exact w_mvA _ la k _ ih
  · have hQL : ig_Q np ns t (t + 1) X L Y L := by
      obtain ⟨⟨q1, q2, q3, q4, q5, q6, q7, q8, q9⟩, q10⟩ := hQn
      exact ⟨⟨q1, q2, q3, q4, q5, q6, q7, q8, rfl⟩, q10⟩
    obtain ⟨⟨hnp, hns, ht0⟩, e1, e2, e3, e4, e5, e6, e7, e8⟩ := hQL.1
    refine Q_lights hQL _ _ (fun i hi => up_row hi) (fun i hi => up_row hi) ?_ ?_
    · simp [ig_R1, up_app, hnp, hns, e1, e2, e3, e4, e7, show t + 1 ≤ 5000 by omega]
    · simpa [ig_R5, ig_wk, up_app] using hQL.2.2.2.2.1
  · refine zS_congr hS (fun p hp => ?_) hnp hns (fun p q _ _ => by rw [up_row (by omega), row (12 + p) (by omega) (by omega)]) (fun q _ => by rw [up_row (by omega), row 20 (by omega) (by omega)])
    rw [up_row (by omega)]
    exact in3 p 0 hp (Or.inl rfl)
  · refine zD_tick (zD_congr hD (keep 23 2 (by omega) (by omega)) (keep 23 4 (by omega) (by omega)) (fun p hp => in3 p 3 hp (Or.inr (Or.inl rfl))) (fun p hp => in3 p 9 hp (Or.inr (Or.inr rfl))) (fun p q _ _ => by rw [row (12 + p) (by omega) (by omega)]) (fun u _ => by rw [row 22 (by omega) (by omega)])) _
  · unfold zK at *
    rw [show ig_up X 23 6 (nI (t + 1)) 23 7 = X 23 7 by simp [up_app]]
    have hnp2 : (np : Int) ≤ 8 := by omega
    have e8 : ((t + 1 : Nat) : Int) = (t : Int) + 1 := by omega
    rw [e8]
    omega
theorem z_sec (h : zQ np ns t t a la b) (ht : t < 5000) : ∃ a' la' b', (∀ post : ig_M → Int64 → Prop, post a' la' → wp_X0_passSecond a la post) ∧ zQ np ns (t + 1) (t + 1) a' la' b' ∧ zKeep a a' := by
  obtain ⟨a1, b1, A1, h1, k1⟩ := z_leave h
  obtain ⟨a2, b2, A2, h2, k2⟩ := z_enter h1
  obtain ⟨a3, b3, A3, h3, k3⟩ := z_fade h2
  obtain ⟨a4, b4, A4, h4, k4⟩ := z_watch h3
  obtain ⟨a5, b5, A5, h5, k5⟩ := z_write h4 ht
  obtain ⟨a6, la6, b6, A6, h6, k6⟩ := z_move h5 ht
  exact ⟨a6, la6, b6, fun post hp => A1 _ (A2 _ (A3 _ (A4 _ (A5 _ (A6 _ hp))))), h6, zKeep_tr k1 (zKeep_tr k2 (zKeep_tr k3 (zKeep_tr k4 (zKeep_tr k5 k6))))⟩
theorem z_secs {n : Nat} (hn : n ≤ 1000) : ∀ (r k t : Nat) (a : ig_M) (la : Int64) (b : ig_M), k + r = n → t + r ≤ 5000 → zQ np ns t t a la b → ∃ a' la' b',
    (∀ (post : Int32 → ig_M → Int64 → Prop) (px : Nat → Prop) (x2 : Int32), post ((a' 23 7) - x2) a' la' → ∃ j, wp_X5_go_56 post px j a la (nI n) x2 (nI k)) ∧ zQ np ns (t + r) (t + r) a' la' b' ∧ zKeep a a'
  | 0, k, t, a, la, b, hk, ht, h => by
    have e : k = n := by omega
    subst e
    exact ⟨a, la, b, fun post px x2 hp => ⟨1, fun _ => hp, fun z => absurd (le_self k) z⟩, h, zKeep_rf a⟩
  | r + 1, k, t, a, la, b, hk, ht, h => by
    obtain ⟨a1, la1, b1, A1, h1, k1⟩ := z_sec h (by omega)
    obtain ⟨a2, la2, b2, A2, h2, k2⟩ := z_secs hn r (k + 1) (t + 1) a1 la1 b1 (by omega) (by omega) h1
    rw [show t + 1 + r = t + (r + 1) by omega] at h2
    refine ⟨a2, la2, b2, fun post px x2 hp => ?_, h2, zKeep_tr k1 k2⟩
    obtain ⟨j, hj⟩ := A2 post px x2 hp
    refine ⟨j + 1, fun z => absurd z (nle_of (by omega) (by omega)), fun _ => A1 _ ?_⟩
    rw [nI_1]
    exact hj
theorem d_go (hI : zI a la) (x1 : Int32) : zOut (wp_L_go a la x1) a la := by
  have hI0 := hI
  obtain ⟨np, ns, t, b, h4, h3, h, hM⟩ := hI
  have e5 : a 23 6 = nI t := h.1.1.2.2.2.2.2.1
  have ht : t ≤ 5000 := h.1.1.1.2.2
  cases g1 : iw x1 1 1000
  · refine zThrow hI0 (fun post hp => ?_)
    simp [wp_L_go, wp_X5_go, w_with, g1, hp]
  · obtain ⟨n, hn1, hn2, rfl⟩ := iw_le (m := 1) (n := 1000) (by omega) (by omega) g1
    have key : nI t + nI n ≤ 5000 ↔ t + n ≤ 5000 := by
      rw [nI_add]
      exact nI_leI (a := t + n) (b := 5000) (by omega) (by omega)
    by_cases g2 : t + n ≤ 5000
    · obtain ⟨a', la', b', A, h', k'⟩ := z_secs hn2 n 0 t a la b (by omega) g2 h
      refine ⟨a' 23 7 - a 23 7, a', la', fun post hp => ?_, ⟨np, ns, t + n, b', h4, h3, h', zKeep_M k' hM⟩, fun z => ?_⟩
      · simp only [wp_L_go, wp_X5_go, w_with, g1, cond_true]
        exact ⟨fun _ => ⟨fun _ => A _ _ _ hp, fun z => absurd (by rw [e5]; exact key.mpr g2) z⟩, fun z => absurd z ne10⟩
      · obtain ⟨_, _, q1, q2⟩ := h.2.2.2
        obtain ⟨_, _, q3, q4⟩ := h'.2.2.2
        have e : (a' 23 7 - a 23 7).toInt = (a' 23 7).toInt - (a 23 7).toInt := w_sub (by omega) (by omega) (by omega) (by omega)
        rw [z] at e
        have e9 : ((-99999999 : Int32)).toInt = -99999999 := by decide
        omega
    · refine zThrow hI0 (fun post hp => ?_)
      simp only [wp_L_go, wp_X5_go, w_with, g1, cond_true]
      exact ⟨fun _ => ⟨fun z => absurd (key.mp (by rw [e5] at z; exact z)) g2, fun _ => Or.inr ⟨trivial, hp⟩⟩, fun z => absurd z ne10⟩
end ZGO
