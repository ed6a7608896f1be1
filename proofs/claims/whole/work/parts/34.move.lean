/-! ===== go: vehicles, waits, the second's end ===== -/
def mvA (k : Nat) (a : ig_M) : ig_M :=
  if a (3 + k) 3 = 1 then
    (if a (3 + k) 6 = 0 then ig_up (ig_up (ig_up a (3 + k) 4 (a (3 + k) 4 + 1)) (3 + k) 5 (if a (3 + k) 5 ≤ 0 then a (3 + k) 5 else a (3 + k) 5 - 1)) 23 7 (a 23 7 + 0)
     else ig_up (ig_up (ig_up (ig_up (ig_up a (3 + k) 4 (a (3 + k) 4 + 1)) (3 + k) 5 (if a (3 + k) 5 ≤ 0 then a (3 + k) 5 else a (3 + k) 5 - 1)) (3 + k) 6 (a (3 + k) 6 - 1)) (3 + k) 5 (a (3 + k) 2)) 23 7 (a 23 7 + 1))
  else
    (if (a (3 + k) 10 = 0 ∧ a (3 + k) 6 ≤ 0) then ig_up a 23 7 (a 23 7 + 0)
     else ig_up (ig_up (ig_up a (3 + k) 7 (a (3 + k) 7 + 1)) (3 + k) 8 (if a (3 + k) 8 < a (3 + k) 7 + 1 then a (3 + k) 7 + 1 else a (3 + k) 8)) 23 7 (a 23 7 + 0))
def mvB (k : Nat) (b : ig_M) : ig_M :=
  if b 103 k = 1 then
    (if b 107 k ≤ 0 then ig_up (ig_up (ig_up (ig_up (ig_up b 105 k (b 105 k + 1)) 106 k (b 106 k - (if b 106 k ≤ 0 then 0 else 1))) 106 k (b 106 k - (if b 106 k ≤ 0 then 0 else 1))) 97 22 (b 97 22 + 0)) 107 k (b 107 k - 0)
     else ig_up (ig_up (ig_up (ig_up (ig_up b 105 k (b 105 k + 1)) 106 k (b 106 k - (if b 106 k ≤ 0 then 0 else 1))) 106 k (b 100 k)) 97 22 (b 97 22 + 1)) 107 k (b 107 k - 1))
  else
    (if dmB b k = true then ig_up (ig_up b 108 k (b 108 k + 1)) 109 k (if b 108 k + 1 ≤ b 109 k then b 109 k else b 108 k + 1)
     else ig_up (ig_up b 108 k (b 108 k + 0)) 109 k (if b 108 k + 0 ≤ b 109 k then b 109 k else b 108 k + 0))
section MOVE
variable {np ns t w : Nat} {a : ig_M} {la : Int64} {b : ig_M} {lb lo : Int64}
theorem Q_move (h : ig_Q np ns t w a la b lb) {p : Nat} (hp : p < 8) (a' b' : ig_M) (ha : ∀ i j, ¬ (i = 3 + p ∨ (i = 23 ∧ j = 7)) → a' i j = a i j)
    (hb : ∀ i j, ¬ (((98 ≤ i ∧ i ≤ 100 ∨ 103 ≤ i ∧ i ≤ 110) ∧ j = p) ∨ (i = 97 ∧ j = 22)) → b' i j = b i j) (hg : a' 23 7 = b' 97 22) (hph : ig_ph (a' (3 + p)) b' p) : ig_Q np ns t w a' la b' lb := by
  obtain ⟨h1, h2, h3, h4, h5, h6⟩ := h
  refine ⟨?_, ?_, ?_, ?_, ?_, ?_⟩
  · unfold ig_R1
    rw [ha 1 1 (by omega), ha 1 4 (by omega), ha 23 6 (by omega), hb 97 2 (by omega), hb 97 7 (by omega), hb 97 11 (by omega)]
    obtain ⟨q1, q2, q3, q4, q5, q6, q7, q8, q9⟩ := h1
    exact ⟨q1, q2, q3, q4, q5, q6, q7, hg, q9⟩
  · intro q hq
    by_cases hpq : q = p
    · subst hpq; exact hph
    · have h0 := h2 q hq
      unfold ig_ph at *
      rw [ha (3 + q) 0 (by omega), ha (3 + q) 1 (by omega), ha (3 + q) 2 (by omega), ha (3 + q) 3 (by omega), ha (3 + q) 4 (by omega), ha (3 + q) 5 (by omega), ha (3 + q) 6 (by omega), ha (3 + q) 7 (by omega), ha (3 + q) 8 (by omega), ha (3 + q) 9 (by omega), ha (3 + q) 10 (by omega), ha (3 + q) 11 (by omega)]
      rw [hb 98 q (by omega), hb 99 q (by omega), hb 100 q (by omega), hb 103 q (by omega), hb 104 q (by omega), hb 105 q (by omega), hb 106 q (by omega), hb 107 q (by omega), hb 108 q (by omega), hb 109 q (by omega), hb 110 q (by omega)]
      refine ⟨h0.1, fun c hc => ?_, h0.2.2⟩
      rw [hb 111 _ (by omega)]
      exact h0.2.1 c hc
  · intro u v hu hv
    rw [ha (12 + u) _ (by omega), hb 101 _ (by omega)]
    exact h3 u v hu hv
  · intro s hs
    rw [ha 20 _ (by omega), hb 102 _ (by omega)]
    exact h4 s hs
  · unfold ig_R5 ig_wk
    rw [ha 23 2 (by omega), ha 23 3 (by omega), ha 23 4 (by omega), ha 23 5 (by omega), hb 97 9 (by omega), hb 97 1 (by omega), hb 97 21 (by omega), hb 97 10 (by omega)]
    exact h5
  · intro u hu
    rw [ha 22 _ (by omega), hb 112 _ (by omega)]
    exact h6 u hu
theorem up_row2 {a : ig_M} {i j : Nat} {v : Int32} {x y : Nat} (h : x ≠ i) : ig_up a i j v x y = a x y := by rw [up_row h]
theorem i_sub0 (x : Int32) : x - 0 = x := by
  rw [Int32.sub_zero]
theorem i_add0 (x : Int32) : x + 0 = x := by
  rw [Int32.add_zero]
theorem mvB_off (b : ig_M) (k i j : Nat) (h : ¬ (((98 ≤ i ∧ i ≤ 100 ∨ 103 ≤ i ∧ i ≤ 110) ∧ j = k) ∨ (i = 97 ∧ j = 22))) : mvB k b i j = b i j := by
  unfold mvB
  repeat' split
  all_goals (repeat rw [up_col (by omega)])
theorem mvA_off (a : ig_M) (k i j : Nat) (h : ¬ (i = 3 + k ∨ (i = 23 ∧ j = 7))) : mvA k a i j = a i j := by
  unfold mvA
  repeat' split
  all_goals (repeat rw [up_col (by omega)])
theorem Q_mv (h : ig_Q np ns t w a la b lb) {k : Nat} (hk : k < 8) : ig_Q np ns t w (mvA k a) la (mvB k b) lb := by
  have hph := h.2.1 k hk
  obtain ⟨_, e1, e2, e3, e4, e5, e6, e7, _⟩ := h.1
  obtain ⟨⟨q0, q1, q2, q3, q4, q5, q6, q7, q8, q9, q10⟩, qb, qc, qd, qe, qf, qg⟩ := hph
  rw [q0] at qg
  have n23 : ¬ 23 = 3 + k := by omega
  refine Q_move h hk _ _ (fun i j => mvA_off a k i j) (fun i j => mvB_off b k i j) ?_ ?_
  · unfold mvA mvB
    rw [q3, q6, q10, e7]
    rw [q6] at qd
    have z0 : b 107 k ≤ 0 ↔ b 107 k = 0 := ⟨fun z => Int32.le_antisymm z qd.1, fun z => by rw [z]; exact Int32.le_refl _⟩
    by_cases c : b 103 k = 1
    · rw [if_pos c, if_pos c]
      by_cases d : b 107 k = 0
      · rw [if_pos d, if_pos (z0.mpr d)]; simp [up_app]
      · rw [if_neg d, if_neg (fun y => d (z0.mp y))]; simp [up_app]
    · rw [if_neg c, if_neg c]
      by_cases d : b 110 k = 0 ∧ b 107 k ≤ 0
      · rw [if_pos d]; by_cases m : dmB b k = true <;> simp [m, up_app, e7]
      · rw [if_neg d]; by_cases m : dmB b k = true <;> simp [m, up_app, e7]
  · unfold mvA mvB
    have rr : b 106 k - (if b 106 k ≤ 0 then 0 else 1) = if b 106 k ≤ 0 then b 106 k else b 106 k - 1 := by
      split
      · exact i_sub0 _
      · rfl
    rw [rr, q3, q6, q10, q4, q5, q7, q8, q2]
    have qc' := qc
    have qd' := qd
    have qe' := qe
    have qf' := qf
    rw [q3] at qc'
    rw [q6] at qd'
    rw [q7, q8] at qe'
    rw [q10] at qf'
    have z0 : b 107 k ≤ 0 ↔ b 107 k = 0 := ⟨fun z => Int32.le_antisymm z qd'.1, fun z => by rw [z]; exact Int32.le_refl _⟩
    by_cases c : b 103 k = 1
    · rw [if_pos c, if_pos c]
      by_cases d : b 107 k = 0
      · rw [if_pos d, if_pos (z0.mpr d)]
        simp [ig_ph, up_app, show ¬ 3 + k = 23 by omega, q0, q1, q2, q3, q4, q5, q6, q7, q8, q9, q10, qc', qd', qe', qf']
        exact ⟨by simpa using qb, qg⟩
      · rw [if_neg d, if_neg (fun y => d (z0.mp y))]
        obtain ⟨n, n1, n2, n3⟩ : ∃ n : Nat, 0 ≤ n ∧ n ≤ 1000 ∧ b 107 k = nI n := iw_le (m := 0) (n := 1000) (by omega) (by omega) (by
          unfold iw
          simp only [Bool.and_eq_true, Bool.not_eq_true', decide_eq_false_iff_not]
          exact ⟨fun z => (i_le.mpr z) qd'.1, fun z => (i_le.mpr z) qd'.2⟩)
        have n0 : ¬ n = 0 := fun z => d (by rw [n3, z]; rfl)
        have n4 : b 107 k - 1 = nI (n - 1) := by rw [n3]; exact pk_sub (a := n) (b := 1) (by omega)
        have n5 : (0 : Int32) ≤ b 107 k - 1 := by rw [n4]; exact nI_pos' (by omega)
        have n6 : b 107 k - 1 ≤ 1000 := by rw [n4]; exact nI_le (a := n - 1) (b := 1000) (by omega) (by omega)
        simp [ig_ph, up_app, show ¬ 3 + k = 23 by omega, q0, q1, q2, q3, q4, q5, q6, q7, q8, q9, q10, qc', qe', qf', n5, n6]
        exact ⟨by simpa using qb, qg⟩
    · rw [if_neg c, if_neg c]
      unfold dmB
      by_cases d : b 110 k = 0 ∧ b 107 k ≤ 0
      · rw [if_pos d]
        have m : (if b 108 k + 0 ≤ b 109 k then b 109 k else b 108 k + 0) = b 109 k := by rw [i_add0, if_pos qe'.1]
        rw [m]
        simp [c, d.1, d.2, ig_ph, up_app, show ¬ 3 + k = 23 by omega, q0, q1, q2, q3, q4, q5, q6, q7, q8, q9, q10, qc', qd', qe', qf']
        exact ⟨by simpa using qb, by simpa [c] using qc', qg⟩
      · rw [if_neg d]
        have d2 : (!decide (b 103 k = 1) && (!decide (b 110 k = 0) || !decide (b 107 k ≤ 0))) = true := by
          rw [decide_eq_false c]
          by_cases d3 : b 110 k = 0
          · rw [decide_eq_false (fun z => d ⟨d3, z⟩ : ¬ b 107 k ≤ 0)]; simp
          · simp [d3]
        rw [if_pos d2, mxI_if]
        have m1 : b 108 k + 1 ≤ mxI (b 109 k) (b 108 k + 1) := by
          rw [Int32.le_iff_toInt_le, mxI_t]; split <;> omega
        have m2 : 0 ≤ mxI (b 109 k) (b 108 k + 1) := mxI_pos qe'.2
        have m3 : (if b 109 k < b 108 k + 1 then b 108 k + 1 else b 109 k) = mxI (b 109 k) (b 108 k + 1) := rfl
        rw [m3]
        simp [c, ig_ph, up_app, show ¬ 3 + k = 23 by omega, q0, q1, q2, q3, q4, q5, q6, q7, q8, q9, q10, qc', qd', qf', m1, m2]
        exact ⟨by simpa using qb, by simpa [c] using qc', qg⟩
theorem w_mvA (x : ig_M) (la : Int64) (k : Nat) (K : ig_M → Int64 → Prop) (h : K (mvA k x) la) : wp_X2_passSecond x la k (fun r3 a4 la5 => (∀ a6 : ig_M, a6 = ig_up a4 23 7 ((x 23 7) + r3) → K a6 la5)) := by
  have n23 : ¬ 3 + k = 23 ∨ True := Or.inr trivial
  unfold wp_X2_passSecond wp_X2_passSecond_35 wp_X2_letOneGo wp_X2_isDemanded
  unfold mvA at h
  refine ⟨fun c => ⟨fun z => absurd z c, fun _ => ?_⟩, fun c a6 u6 => ?_⟩
  · rw [if_neg c] at h
    have up : ¬ (x (3 + k) 10 = 0 ∧ x (3 + k) 6 ≤ 0) → ((1 : Int32) = 0 → (∀ a6 : ig_M, a6 = ig_up x 23 7 ((x 23 7) + 0) → K a6 la)) ∧ (¬ (1 : Int32) = 0 → (∀ a4 : ig_M, a4 = ig_up x (3 + k) 7 ((x (3 + k) 7) + 1) → (∀ a5 : ig_M, a5 = ig_up a4 (3 + k) 8 (if (a4 (3 + k) 8) < (a4 (3 + k) 7) then (a4 (3 + k) 7) else (a4 (3 + k) 8)) → (∀ a6 : ig_M, a6 = ig_up a5 23 7 ((x 23 7) + 0) → K a6 la)))) := by
      intro d
      rw [if_neg d] at h
      refine ⟨fun z => absurd z ne10, fun _ a4 u4 a5 u5 a6 u6 => ?_⟩
      rw [u6, u5, u4]
      have m7 : ig_up x (3 + k) 7 (x (3 + k) 7 + 1) (3 + k) 7 = x (3 + k) 7 + 1 := by simp [up_app]
      have m8 : ig_up x (3 + k) 7 (x (3 + k) 7 + 1) (3 + k) 8 = x (3 + k) 8 := by simp [up_app]
      rw [m7, m8]
      exact h
    refine ⟨fun d => up (fun z => d z.1), fun d => ⟨fun e => ⟨fun _ a6 u6 => ?_, fun z => absurd rfl z⟩, fun e => up (fun z => e z.2)⟩⟩
    rw [if_pos ⟨d, e⟩] at h
    rw [u6]
    exact h
  · rw [if_pos c] at h
    have m5 : a6 (3 + k) 5 = x (3 + k) 5 := by rw [u6]; simp [up_app]
    have m6 : a6 (3 + k) 6 = x (3 + k) 6 := by rw [u6]; simp [up_app]
    have m2 : a6 (3 + k) 2 = x (3 + k) 2 := by rw [u6]; simp [up_app]
    have fin : ∀ y : ig_M, y = ig_up a6 (3 + k) 5 (if x (3 + k) 5 ≤ 0 then x (3 + k) 5 else x (3 + k) 5 - 1) → (¬ y (3 + k) 6 = 0 → ∀ a2 : ig_M, a2 = ig_up y (3 + k) 6 (y (3 + k) 6 - 1) → ∀ a3 : ig_M, a3 = ig_up a2 (3 + k) 5 (a2 (3 + k) 2) → ∀ a6 : ig_M, a6 = ig_up a3 23 7 ((x 23 7) + 1) → K a6 la) ∧ (y (3 + k) 6 = 0 → ∀ a6 : ig_M, a6 = ig_up y 23 7 ((x 23 7) + 0) → K a6 la) := by
      intro y hy
      have y6 : y (3 + k) 6 = x (3 + k) 6 := by rw [hy, ← m6]; simp [up_app]
      have y2 : y (3 + k) 2 = x (3 + k) 2 := by rw [hy, ← m2]; simp [up_app]
      rw [y6]
      refine ⟨fun d a2 v2 a3 v3 a7 v7 => ?_, fun d a7 v7 => ?_⟩
      · rw [if_neg d] at h
        have z2 : a2 (3 + k) 2 = x (3 + k) 2 := by rw [v2, ← y2]; simp [up_app]
        rw [v7, v3, z2, v2, hy, u6]
        exact h
      · rw [if_pos d] at h
        rw [v7, hy, u6]
        exact h
    rw [m5]
    refine ⟨fun d => fin a6 ?_, fun d a8 u8 => fin a8 ?_⟩
    · rw [if_pos d, ← m5, up_self]
    · rw [if_neg d, u8]
theorem w_mvB (x : ig_M) (lb : Int64) {k : Nat} (hk : k < 8) (K : ig_M → Int64 → Prop) (h : K (mvB k x) lb) : wp_X6_move x lb (nI k) K := by
  have vk : vp_in (nI k) 8 := vp_in_nI hk (by omega)
  unfold wp_X6_move
  rw [w_dmB _ _ hk]
  unfold wp_X6_move_142 wp_X6_move_179
  rw [nI_clamp (by omega)]
  unfold mvB at h
  refine ⟨vk, fun c => ⟨vk, ?_⟩, fun c => ⟨vk, vk, fun b8 u8 => ⟨vk, vk, ?_⟩⟩⟩
  · rw [if_neg c] at h
    have fin : ∀ t0 : Int32, K (ig_up (ig_up x 108 k (x 108 k + t0)) 109 k (if x 108 k + t0 ≤ x 109 k then x 109 k else x 108 k + t0)) lb → (vp_in (nI k) 8 ∧ (∀ b29 : ig_M, b29 = ig_up x 108 k (x 108 k + t0) → (vp_in (nI k) 8 ∧ (vp_in (nI k) 8 ∧ (((b29 108 k) ≤ (b29 109 k) → (vp_in (nI k) 8 ∧ (vp_in (nI k) 8 ∧ (∀ b36 : ig_M, b36 = ig_up b29 109 k (b29 109 k) → K b36 lb)))) ∧ (¬ ((b29 108 k) ≤ (b29 109 k)) → (vp_in (nI k) 8 ∧ (vp_in (nI k) 8 ∧ (∀ b36 : ig_M, b36 = ig_up b29 109 k (b29 108 k) → K b36 lb))))))))) := by
      intro t0 hK
      refine ⟨vk, fun b29 u29 => ?_⟩
      have m8 : b29 108 k = x 108 k + t0 := by rw [u29]; simp [up_app]
      have m9 : b29 109 k = x 109 k := by rw [u29]; simp [up_app]
      rw [m8, m9]
      refine ⟨vk, vk, fun d => ⟨vk, vk, fun b36 u36 => ?_⟩, fun d => ⟨vk, vk, fun b36 u36 => ?_⟩⟩
      · rw [if_pos d] at hK; rw [u36, u29]; exact hK
      · rw [if_neg d] at hK; rw [u36, u29]; exact hK
    cases d : dmB x k
    · rw [d, if_neg (by decide)] at h
      exact ⟨fun _ => fin 0 h, fun z => absurd rfl z⟩
    · rw [d, if_pos rfl] at h
      exact ⟨fun z => absurd z ne10, fun _ => fin 1 h⟩
  · rw [if_pos c] at h
    have m6 : b8 106 k = x 106 k := by rw [u8]; simp [up_app]
    have m7 : b8 107 k = x 107 k := by rw [u8]; simp [up_app]
    have m100 : b8 100 k = x 100 k := by rw [u8]; simp [up_app]
    have m22 : b8 97 22 = x 97 22 := by rw [u8]; simp [up_app]
    have fin : ∀ t0 : Int32, t0 = (if x 106 k ≤ 0 then 0 else 1) → wp_X6_move_41 K b8 lb (nI k) t0 (b8 106 k) (nI k) := by
      intro t0 ht0
      unfold wp_X6_move_41 wp_X6_move_72 wp_X6_move_92 wp_X6_move_117
      rw [nI_clamp (by omega)]
      refine ⟨vk, fun b13 u13 => ?_⟩
      have k6 : b13 106 k = x 106 k - t0 := by rw [u13, ← m6]; simp [up_app]
      have k7 : b13 107 k = x 107 k := by rw [u13, ← m7]; simp [up_app]
      have k100 : b13 100 k = x 100 k := by rw [u13, ← m100]; simp [up_app]
      have k22 : b13 97 22 = x 97 22 := by rw [u13, ← m22]; simp [up_app]
      rw [k7, k6, k100]
      rw [← ht0] at h
      refine ⟨vk, fun d => ⟨vk, vk, fun b19 u19 => ?_⟩, fun d => ⟨vk, vk, fun b19 u19 => ?_⟩⟩
      · have l7 : b19 107 k = x 107 k := by rw [u19, ← k7]; simp [up_app]
        have l22 : b19 97 22 = x 97 22 := by rw [u19, ← k22]; simp [up_app]
        rw [l7, l22]
        refine ⟨vk, fun _ b22 u22 => ?_, fun z => absurd d z⟩
        have r7 : b22 107 k = x 107 k := by rw [u22, ← l7]; simp [up_app]
        rw [r7]
        refine ⟨vk, vk, fun _ => ⟨vk, fun b27 u27 => ?_⟩, fun z => absurd d z⟩
        rw [if_pos d] at h
        rw [u27, u22, u19, u13, m6, u8]
        exact h
      · have l7 : b19 107 k = x 107 k := by rw [u19, ← k7]; simp [up_app]
        have l22 : b19 97 22 = x 97 22 := by rw [u19, ← k22]; simp [up_app]
        rw [l7, l22]
        refine ⟨vk, fun z => absurd z d, fun _ b22 u22 => ?_⟩
        have r7 : b22 107 k = x 107 k := by rw [u22, ← l7]; simp [up_app]
        rw [r7]
        refine ⟨vk, vk, fun z => absurd z d, fun _ => ⟨vk, fun b27 u27 => ?_⟩⟩
        rw [if_neg d] at h
        rw [u27, u22, u19, u13, m6, u8]
        exact h
    rw [m6] at fin ⊢
    refine ⟨fun d => fin 0 (by rw [if_pos d]), fun d => fin 1 (by rw [if_neg d])⟩
end MOVE
