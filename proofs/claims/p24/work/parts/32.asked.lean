/-! ===== start, stop, press, arrive, ask, cancel, breaks ===== -/
section ZCALL
variable {np ns t w : Nat} {a a' : ig_M} {la : Int64} {b : ig_M}
def sgA (s : Nat) (a : ig_M) : ig_M := ig_up (ig_up (ig_up a 23 2 1) 23 3 (nI s)) 23 4 1
def sgB (s : Nat) (b : ig_M) : ig_M := ig_up (ig_up (ig_up b 97 1 1) 97 9 1) 97 10 (nI s)
theorem z_start (h : zQ np ns t w a la b) {s : Nat} (hs : s < ns) : zQ np ns t w (sgA s a) la (sgB s b) := by
  obtain ⟨hQ, hS, hD, hK⟩ := h
  obtain ⟨⟨hnp, hns, ht⟩, e1, e2, e3, e4, e5, e6, e7, e8⟩ := hQ.1
  obtain ⟨f1, f2, f3, f4, f5, f6, f7, f8⟩ := hQ.2.2.2.2.1
  have off : ∀ i, i ≠ 23 → sgA s a i = a i := fun i g => by unfold sgA; rw [up_row g, up_row g, up_row g]
  have w1 : ig_wk (sgA s a 23) := Or.inl (by simp [sgA, up_app])
  refine ⟨Q_lights hQ _ _ off (fun i hi => by unfold sgB; rw [up_row hi, up_row hi, up_row hi]) ?_ ?_, ?_, ?_, ?_⟩
  · rw [ig_R1, off 1 (by omega)]
    simp [sgA, sgB, up_app, hnp, hns, ht, e1, e2, e3, e4, e5, e6, e7]
  · unfold sgA sgB ig_R5 ig_wk
    simp only [up_app]
    refine ⟨by simp, by simp, by simpa using f3, by simp, by simp, by simpa using f6, ⟨s, by omega, by simp, fun _ => ⟨hs, by simp⟩⟩, fun z => absurd (Or.inl (by simp)) z⟩
  · exact zS_congr hS (fun p _ => by rw [off _ (by omega)]) hnp hns (fun p q _ _ => by rw [off _ (by omega)]) (fun q _ => by rw [off _ (by omega)])
  · obtain ⟨g1, g2, g3, g4, g5, g6, g7, g8⟩ := hD
    have o3 : ∀ p j, p < 8 → sgA s a (3 + p) j = a (3 + p) j := fun p j hp => by rw [off _ (by omega)]
    have ob : ∀ p j, p < 8 → sgA s a (12 + p) j = a (12 + p) j := fun p j hp => by rw [off _ (by omega)]
    have lgc : ∀ u p, zLg (sgA s a) u p = zLg a u p := fun u p => zLg_of (by rw [off _ (by omega)])
    refine ⟨fun z => absurd w1 z, fun z => absurd z (by simp [sgA, up_app]), fun p hp => ?_, fun u p hu hp hl => ?_, fun p q hp hq hm hg => ?_, fun p q hp hq hm hg u hu hl => ?_, fun p q hp hq hm u v huv hv hl hl2 => ?_, fun p hp hn => ?_⟩
    · rw [o3 p 9 hp]; exact g3 p hp
    · rw [lgc] at hl
      rw [o3 p 3 hp, o3 p 9 hp]; exact g4 u p hu hp hl
    · rw [ob p q hp] at hm
      rw [o3 p 3 hp, o3 q 3 hq] at hg
      exact g5 p q hp hq hm hg
    · rw [ob p q hp] at hm
      rw [o3 q 3 hq] at hg
      rw [lgc] at hl
      exact g6 p q hp hq hm hg u hu hl
    · rw [ob p q hp] at hm
      rw [lgc] at hl hl2
      exact g7 p q hp hq hm u v huv hv hl hl2
    · rw [o3 p 3 hp]; exact g8 p hp hn
  · unfold zK sgA at *
    simpa [up_app] using hK
theorem d_start (hI : zI a la) (x1 : Int32) : zOut (wp_L_start a la x1) a la := by
  have hI0 := hI
  obtain ⟨np, ns, t, b, h4, h3, h, hM⟩ := hI
  have hns : ns ≤ 6 := h.1.1.1.2.1
  have e3 : a 1 4 = nI ns := h.1.1.2.2.2.1
  by_cases g1 : iw x1 0 (nI ns - 1) = true
  · obtain ⟨s, hs, rfl⟩ := iw_nat (by omega) g1
    by_cases g2 : a 23 2 = 1 ∨ a 23 2 = 2
    · refine zThrow hI0 (fun post hp => ?_)
      rcases g2 with g2 | g2 <;> simp [wp_L_start, wp_X5_start, w_needStage, e3, g1, wp_X0_areWorking, g2, hp]
    · have g3 : ¬ a 23 2 = 1 := fun z => g2 (Or.inl z)
      have g4 : ¬ a 23 2 = 2 := fun z => g2 (Or.inr z)
      refine ⟨0, sgA s a, la, fun post hp => ?_, ⟨np, ns, t, sgB s b, h4, h3, z_start h hs, ?_⟩, fun z => absurd z (by decide)⟩
      · unfold sgA at hp
        simpa [wp_L_start, wp_X5_start, w_needStage, e3, g1, wp_X0_areWorking, g3, g4, wp_X0_begin] using hp
      · unfold zM sgA at *
        simpa [up_app] using hM
  · have g1' : iw x1 0 (nI ns - 1) = false := by simpa using g1
    refine zThrow hI0 (fun post hp => ?_)
    simp [wp_L_start, wp_X5_start, w_needStage, e3, g1', hp]
/-! falling back: the lights are stopped, or flash -/
theorem redA_off (k : Nat) (x : ig_M) (i : Nat) (h : i ≠ 3 + k) : redA k x i = x i := by
  unfold redA
  rw [up_row h]
  split
  · rw [up_row h]
  · rfl
theorem redA_loc (k : Nat) (x y : ig_M) (h : x (3 + k) = y (3 + k)) (h2 : x 23 = y 23) : redA k x (3 + k) = redA k y (3 + k) := by
  unfold redA
  rw [h, h2]
  funext j
  by_cases c : y (3 + k) 3 = 1
  · rw [if_pos c, if_pos c]
    simp only [up_app, if_true, h]
  · rw [if_neg c, if_neg c]
    simp only [up_app, if_true, h]
theorem redA_at (k : Nat) (x : ig_M) : redA k x (3 + k) 3 = 0 ∧ redA k x (3 + k) 9 = (if x (3 + k) 3 = 1 then x 23 6 else x (3 + k) 9) ∧ ∀ j, ¬ j = 3 → ¬ j = 9 → redA k x (3 + k) j = x (3 + k) j := by
  unfold redA
  by_cases c : x (3 + k) 3 = 1
  · rw [if_pos c, if_pos c]
    refine ⟨by simp [up_app], by simp [up_app], fun j h1 h2 => by simp [up_app, h1, h2]⟩
  · rw [if_neg c, if_neg c]
    refine ⟨by simp [up_app], by simp [up_app], fun j h1 h2 => by simp [up_app, h1]⟩
def fbA (np : Nat) (m : Int32) (a : ig_M) : ig_M := foldN redA np (ig_up (ig_up a 23 2 m) 23 3 (-1))
def fbB (np : Nat) (m : Int32) (b : ig_M) : ig_M := foldN redB np (ig_up b 97 9 m)
theorem z_fall (h : zQ np ns t w a la b) (hwt : w ≤ t) {m : Int32} (hm : m = 0 ∨ m = 3) : zQ np ns t w (fbA np m a) la (fbB np m b) := by
  obtain ⟨hQ, hS, hD, hK⟩ := h
  have hnp := Q_np hQ
  have hns : ns ≤ 6 := hQ.1.1.2.1
  have e5 : a 23 6 = nI t := hQ.1.2.2.2.2.2.1
  have hQ2 := Q_back hQ hm
  have hQ3 := Q_fold hQ2 (fun k x y hk hq => Q_red hq (by omega)) (F := redA) (G := redB) np (Nat.le_refl _)
  obtain ⟨i1, i2⟩ := fold_at redA_off redA_loc (ig_up (ig_up a 23 2 m) 23 3 (-1)) np hnp
  have r0 : ∀ i, i ≠ 23 → ig_up (ig_up a 23 2 m) 23 3 (-1) i = a i := fun i hi => by rw [up_row hi, up_row hi]
  have off : ∀ i, i ≠ 23 → (∀ p, p < np → i ≠ 3 + p) → fbA np m a i = a i := fun i hi hp => (i1 i hp).trans (r0 i hi)
  have r23 : fbA np m a 23 = ig_up (ig_up a 23 2 m) 23 3 (-1) 23 := i1 23 (fun p hp => by omega)
  have at3 : ∀ p, p < np → fbA np m a (3 + p) 3 = 0 ∧ fbA np m a (3 + p) 9 = (if a (3 + p) 3 = 1 then nI t else a (3 + p) 9) ∧ ∀ j, ¬ j = 3 → ¬ j = 9 → fbA np m a (3 + p) j = a (3 + p) j := by
    intro p hp
    have h0 := redA_at p (ig_up (ig_up a 23 2 m) 23 3 (-1))
    have e6 : ig_up (ig_up a 23 2 m) 23 3 (-1) 23 6 = nI t := by rw [← e5]; simp [up_app]
    rw [← i2 p hp, r0 (3 + p) (by omega), e6] at h0
    exact h0
  have nw : ¬ ig_wk (fbA np m a 23) := by
    rw [r23]
    unfold ig_wk
    rw [show ig_up (ig_up a 23 2 m) 23 3 (-1) 23 2 = m by simp [up_app]]
    rcases hm with rfl | rfl <;> decide
  have c0 : ∀ p, p < 8 → fbA np m a (3 + p) 3 = 0 := by
    intro p hp
    by_cases c : p < np
    · exact (at3 p c).1
    · rw [off (3 + p) (by omega) (fun q hq => by omega)]
      exact hD.2.2.2.2.2.2.2 p hp c
  have e4 : fbA np m a 23 4 = a 23 4 := by rw [r23]; simp [up_app]
  refine ⟨hQ3, ?_, ?_, ?_⟩
  · refine zS_congr hS (fun p hp => ?_) hnp hns (fun p q hp hq => ?_) (fun s hs => ?_)
    · by_cases c : p < np
      · exact (at3 p c).2.2 0 (by decide) (by decide)
      · rw [off (3 + p) (by omega) (fun q hq => by omega)]
    · rw [off (12 + p) (by omega) (fun q hq => by omega)]
    · rw [off 20 (by omega) (fun q hq => by omega)]
  · refine zD_off hD hwt (fun p hp => ?_) (fun p q hp hq => by rw [off (12 + p) (by omega) (fun q hq => by omega)]) (fun u hu => by rw [off 22 (by omega) (fun q hq => by omega)]) (fun _ => c0) (fun z => ⟨nw, by rw [← e4]; exact z⟩)
    by_cases c : p < np
    · obtain ⟨g1, g2, _⟩ := at3 p c
      have no : ¬ (0 : Int32) = 1 := by decide
      rw [g1, g2]
      by_cases d : a (3 + p) 3 = 1
      · rw [if_pos d]
        exact Or.inr (Or.inl ⟨no, rfl, c⟩)
      · rw [if_neg d]
        exact Or.inr (Or.inr ⟨d, no, rfl, c⟩)
    · rw [off (3 + p) (by omega) (fun q hq => by omega)]
      exact Or.inl ⟨rfl, rfl⟩
  · unfold zK
    rw [r23, show ig_up (ig_up a 23 2 m) 23 3 (-1) 23 7 = a 23 7 by simp [up_app]]
    exact hK
theorem zM_fall (h : zM a) (hnp : np ≤ 8) (m : Int32) : zM (fbA np m a) := by
  obtain ⟨i1, _⟩ := fold_at redA_off redA_loc (ig_up (ig_up a 23 2 m) 23 3 (-1)) np hnp
  unfold zM fbA
  rw [i1 12 (fun p hp => by omega), i1 14 (fun p hp => by omega), up_row (by omega), up_row (by omega), up_row (by omega), up_row (by omega)]
  exact h
theorem d_stop (hI : zI a la) : zOut (wp_L_stop a la) a la := by
  have hI0 := hI
  obtain ⟨np, ns, t, b, h4, h3, h, hM⟩ := hI
  by_cases g : a 23 2 = 0
  · refine zThrow hI0 (fun post hp => ?_)
    simp [wp_L_stop, wp_X5_stop, g, hp]
  · refine ⟨0, fbA np 0 a, la, fun post hp => ?_, ⟨np, ns, t, fbB np 0 b, h4, h3, z_fall h (Nat.le_refl _) (Or.inl rfl), zM_fall hM (Q_np h.1) 0⟩, fun z => absurd z (by decide)⟩
    unfold wp_L_stop wp_X5_stop
    refine ⟨fun _ => ?_, fun z => absurd z g⟩
    intro a1 u1 a2 u2
    rw [u2, u1]
    exact w_fallA (Q_back h.1 (Or.inl rfl)) _ hp
/-! what changes one phase alone, not its colour -/
theorem z_one (h : zQ np ns t w a la b) {p : Nat} (hp : p < 8) {b' : ig_M} (hQ : ig_Q np ns t w a' la b' la) (ha : ∀ i, i ≠ 3 + p → a' i = a i) (e0 : a' (3 + p) 0 = a (3 + p) 0) (e3 : a' (3 + p) 3 = a (3 + p) 3) (e9 : a' (3 + p) 9 = a (3 + p) 9) : zQ np ns t w a' la b' := by
  obtain ⟨_, hS, hD, hK⟩ := h
  have hnp := Q_np hQ
  have hns : ns ≤ 6 := hQ.1.1.2.1
  have col : ∀ j, a' (3 + p) j = a (3 + p) j → ∀ q, q < 8 → a' (3 + q) j = a (3 + q) j := fun j hj q hq => by
    by_cases c : q = p
    · subst c; exact hj
    · rw [ha (3 + q) (by omega)]
  refine ⟨hQ, zS_congr hS (col 0 e0) hnp hns (fun r s _ _ => by rw [ha _ (by omega)]) (fun s _ => by rw [ha _ (by omega)]), zD_congr hD (by rw [ha _ (by omega)]) (by rw [ha _ (by omega)]) (col 3 e3) (col 9 e9) (fun r s _ _ => by rw [ha _ (by omega)]) (fun u _ => by rw [ha _ (by omega)]), ?_⟩
  unfold zK
  rw [ha 23 (by omega)]
  exact hK
theorem zM_one (h : zM a) {p : Nat} (hp : p < 8) (ha : ∀ i, i ≠ 3 + p → a' i = a i) : zM a' := by
  unfold zM
  rw [ha 12 (by omega), ha 14 (by omega)]
  exact h
theorem d_press (hI : zI a la) (x1 : Int32) : zOut (wp_L_press a la x1) a la := by
  have hI0 := hI
  obtain ⟨np, ns, t, b, h4, h3, h, hM⟩ := hI
  have hnp := Q_np h.1
  have e1 : a 1 1 = nI np := Q_a1 h.1
  cases g1 : iw x1 0 (nI np - 1)
  · refine zThrow hI0 (fun post hp => ?_)
    simp [wp_L_press, wp_X5_press, w_needPhase, e1, g1, hp]
  · obtain ⟨p, hs, rfl⟩ := iw_nat (by omega) g1
    have hp8 : p < 8 := by omega
    have hph := h.1.2.1 p hp8
    have q3 := hph.1.2.2.2.1
    obtain ⟨A2, hA2⟩ : ∃ A2, A2 = (if a (3 + p) 3 = 1 then a else ig_up a (3 + p) 10 1) := ⟨_, rfl⟩
    obtain ⟨B2, hB2⟩ : ∃ B2, B2 = (if a (3 + p) 3 = 1 then b else ig_up b 110 p 1) := ⟨_, rfl⟩
    have ha : ∀ i, i ≠ 3 + p → A2 i = a i := fun i hi => by
      rw [hA2]
      split
      · rfl
      · rw [up_row hi]
    have hQ2 : ig_Q np ns t t A2 la B2 la := by
      by_cases c : a (3 + p) 3 = 1
      · rw [if_pos c] at hA2 hB2
        rw [hA2, hB2]; exact h.1
      · rw [if_neg c] at hA2 hB2
        refine Q_phase h.1 hp8 _ _ ha (fun i j hij => ?_) ?_
        · rw [hB2, up_col (by omega)]
        · rw [hA2, hB2]
          obtain ⟨⟨q0, q1, q2, q3, q4, q5, q6, q7, q8, q9, q10⟩, qb, qc, qd, qe, qf, qg⟩ := hph
          rw [q3] at c
          simp [ig_ph, up_app, q0, q1, q2, q3, q4, q5, q6, q7, q8, q9]
          simp [q0, q3, q6, q7, q8] at qc qd qe qg
          exact ⟨by simpa using qb, qc, qd, qe, qg⟩
    have col : ∀ j, ¬ j = 10 → A2 (3 + p) j = a (3 + p) j := fun j hj => by
      rw [hA2]
      split
      · rfl
      · rw [up_col (by omega)]
    have hph2 := hQ2.2.1 p hp8
    generalize hd : dmB B2 p = d
    refine ⟨cond d 1 0, A2, la, fun post hp => ?_, ⟨np, ns, t, B2, h4, h3, z_one h hp8 hQ2 ha (col 0 (by decide)) (col 3 (by decide)) (col 9 (by decide)), zM_one hM hp8 ha⟩, fun z => by cases d <;> exact absurd z (by decide)⟩
    simp only [wp_L_press, wp_X5_press, w_needPhase, e1, g1, cond_true, nI_clamp (show p < 2 ^ 31 by omega), vp_in_nI hp8 (by omega), true_and, wp_X2_pushButton]
    refine ⟨fun z => ?_, fun z a2 e => ?_⟩
    · rw [if_pos z] at hA2
      rw [← hA2, w_dmA hph2, hd]
      cases d
      · exact ⟨Or.inl rfl, fun _ => hp, fun z => absurd rfl z⟩
      · exact ⟨Or.inr rfl, fun z => absurd z ne10, fun _ => hp⟩
    · rw [if_neg z] at hA2
      rw [e, ← hA2, w_dmA hph2, hd]
      cases d
      · exact ⟨Or.inl rfl, fun _ => hp, fun z => absurd rfl z⟩
      · exact ⟨Or.inr rfl, fun z => absurd z ne10, fun _ => hp⟩
theorem d_arrive (hI : zI a la) (x1 x2 : Int32) : zOut (wp_L_arrive a la x1 x2) a la := by
  have hI0 := hI
  obtain ⟨np, ns, t, b, h4, h3, h, hM⟩ := hI
  have hnp := Q_np h.1
  have e1 : a 1 1 = nI np := Q_a1 h.1
  cases g1 : iw x1 0 (nI np - 1)
  · refine zThrow hI0 (fun post hp => ?_)
    simp [wp_L_arrive, wp_X5_arrive, w_needPhase, e1, g1, hp]
  · obtain ⟨p, hs, rfl⟩ := iw_nat (by omega) g1
    have hp8 : p < 8 := by omega
    have hph := h.1.2.1 p hp8
    cases g2 : iw x2 1 50
    · refine zThrow hI0 (fun post hp => ?_)
      simp [wp_L_arrive, wp_X5_arrive, w_needPhase, w_with, e1, g1, g2, hp]
    · obtain ⟨k2, hk1, hk2, rfl⟩ := iw_le (m := 1) (n := 50) (by omega) (by omega) g2
      have qd := hph.2.2.2.1
      obtain ⟨k, k1, k3, k4⟩ : ∃ k : Nat, 0 ≤ k ∧ k ≤ 1000 ∧ a (3 + p) 6 = nI k := iw_le (m := 0) (n := 1000) (by omega) (by omega) (by
        unfold iw
        simp only [Bool.and_eq_true, Bool.not_eq_true', decide_eq_false_iff_not]
        exact ⟨fun z => (i_le.mpr z) qd.1, fun z => (i_le.mpr z) qd.2⟩)
      have k5 : a (3 + p) 6 + nI k2 = nI (k + k2) := by rw [k4, nI_add]
      by_cases g3 : a (3 + p) 6 + nI k2 ≤ 1000
      · have ha : ∀ i, i ≠ 3 + p → ig_up a (3 + p) 6 (a (3 + p) 6 + nI k2) i = a i := fun i hi => up_row hi
        refine ⟨a (3 + p) 6 + nI k2, ig_up a (3 + p) 6 (a (3 + p) 6 + nI k2), la, fun post hp => ?_, ⟨np, ns, t, ig_up b 107 p (a (3 + p) 6 + nI k2), h4, h3, z_one h hp8 ?_ ha (by rw [up_col (by omega)]) (by rw [up_col (by omega)]) (by rw [up_col (by omega)]), zM_one hM hp8 ha⟩, fun z => absurd (k5.symm.trans z) (nI_thr (by omega))⟩
        · simpa [wp_L_arrive, wp_X5_arrive, w_needPhase, w_with, e1, g1, g2, nI_clamp (show p < 2 ^ 31 by omega), vp_in_nI hp8 (by omega), g3, up_app] using hp
        · refine Q_phase h.1 hp8 _ _ ha (fun i j hij => by rw [up_col (by omega)]) ?_
          obtain ⟨⟨q0, q1, q2, q3, q4, q5, q6, q7, q8, q9, q10⟩, qb, qc, qd, qe, qf⟩ := hph
          have k6 : (0 : Int32) ≤ a (3 + p) 6 + nI k2 := by rw [k5]; exact nI_pos' (by omega)
          simp [ig_ph, up_app, q0, q1, q2, q3, q4, q5, q7, q8, q9, q10, g3, k6]
          simp [q0, q3, q7, q8, q10] at qc qe qf
          exact ⟨by simpa using qb, qc, qe, qf⟩
      · refine zThrow hI0 (fun post hp => ?_)
        simp [wp_L_arrive, wp_X5_arrive, w_needPhase, w_with, e1, g1, g2, nI_clamp (show p < 2 ^ 31 by omega), vp_in_nI hp8 (by omega), g3, hp]
theorem z_asked (h : zQ np ns t w a la b) {v : Int32} (hv : v = -1 ∨ ∃ p : Nat, p < np ∧ v = nI p) : zQ np ns t w (ig_up a 23 5 v) la (ig_up b 97 21 v) := by
  obtain ⟨hQ, hS, hD, hK⟩ := h
  obtain ⟨⟨hnp, hns, ht⟩, e1, e2, e3, e4, e5, e6, e7, e8⟩ := hQ.1
  obtain ⟨f1, f2, f3, f4, f5, f6, f7, f8⟩ := hQ.2.2.2.2.1
  have off : ∀ i, i ≠ 23 → ig_up a 23 5 v i = a i := fun i g => up_row g
  have c23 : ∀ j, ¬ j = 5 → ig_up a 23 5 v 23 j = a 23 j := fun j hj => by rw [up_col (by omega)]
  refine ⟨Q_lights hQ _ _ off (fun i hi => up_row hi) ?_ ?_, ?_, ?_, ?_⟩
  · simp [ig_R1, up_app, hnp, hns, ht, e1, e2, e3, e4, e5, e6, e7]
  · unfold ig_R5 ig_wk at *
    simp only [up_app]
    exact ⟨by simpa using f1, by simpa using f2, by simp, by simpa using f4, by simpa using f5, by simpa using hv, by simpa using f7, by simpa using f8⟩
  · exact zS_congr hS (fun p _ => by rw [off _ (by omega)]) hnp hns (fun p q _ _ => by rw [off _ (by omega)]) (fun q _ => by rw [off _ (by omega)])
  · exact zD_congr hD (c23 2 (by decide)) (c23 4 (by decide)) (fun p _ => by rw [off _ (by omega)]) (fun p _ => by rw [off _ (by omega)]) (fun p q _ _ => by rw [off _ (by omega)]) (fun u _ => by rw [off _ (by omega)])
  · unfold zK
    rw [c23 7 (by decide)]
    exact hK
theorem zM_23 (h : zM a) (j : Nat) (v : Int32) : zM (ig_up a 23 j v) := by
  unfold zM
  rw [up_row (by omega), up_row (by omega)]
  exact h
theorem d_ask (hI : zI a la) (x1 : Int32) : zOut (wp_L_ask a la x1) a la := by
  have hI0 := hI
  obtain ⟨np, ns, t, b, h4, h3, h, hM⟩ := hI
  have hnp := Q_np h.1
  have e1 : a 1 1 = nI np := Q_a1 h.1
  cases g1 : iw x1 0 (nI np - 1)
  · refine zThrow hI0 (fun post hp => ?_)
    simp [wp_L_ask, wp_X5_ask, w_needPhase, e1, g1, hp]
  · obtain ⟨s, hs, rfl⟩ := iw_nat (by omega) g1
    by_cases g2 : a 23 5 = -1
    · refine ⟨0, ig_up a 23 5 (nI s), la, fun post hp => ?_, ⟨np, ns, t, ig_up b 97 21 (nI s), h4, h3, z_asked h (Or.inr ⟨s, hs, rfl⟩), zM_23 hM 5 _⟩, fun z => absurd z (by decide)⟩
      simpa [wp_L_ask, wp_X5_ask, w_needPhase, e1, g1, g2] using hp
    · refine zThrow hI0 (fun post hp => ?_)
      simp [wp_L_ask, wp_X5_ask, w_needPhase, e1, g1, g2, hp]
theorem d_cancel (hI : zI a la) : zOut (wp_L_cancel a la) a la := by
  have hI0 := hI
  obtain ⟨np, ns, t, b, h4, h3, h, hM⟩ := hI
  have hnp := Q_np h.1
  by_cases g2 : a 23 5 = -1
  · refine zThrow hI0 (fun post hp => ?_)
    simp [wp_L_cancel, wp_X5_cancel, g2, hp]
  · obtain ⟨p, hp, e⟩ : ∃ p : Nat, p < np ∧ a 23 5 = nI p := h.1.2.2.2.2.1.2.2.2.2.2.1.resolve_left g2
    refine ⟨a 23 5, ig_up a 23 5 (-1), la, fun post hp => ?_, ⟨np, ns, t, ig_up b 97 21 (-1), h4, h3, z_asked h (Or.inl rfl), zM_23 hM 5 _⟩, fun z => absurd (e.symm.trans z) (nI_thr (by omega))⟩
    simpa [wp_L_cancel, wp_X5_cancel, g2] using hp
theorem d_breaks (hI : zI a la) (x1 x2 x3 : Int32) (h30 : x3 = 0 ∨ x3 = 1) : zOut (wp_L_breaks a la x1 x2 x3) a la := by
  have hI0 := hI
  obtain ⟨np, ns, t, b, h4, h3, h, hM⟩ := hI
  have hnp := Q_np h.1
  have e1 : a 1 1 = nI np := Q_a1 h.1
  cases g1 : iw x1 0 (nI np - 1)
  · refine zThrow hI0 (fun post hp => ?_)
    simp [wp_L_breaks, wp_X5_breaks, w_needPhase, e1, g1, hp]
  · obtain ⟨p, hs, rfl⟩ := iw_nat (by omega) g1
    have hp8 : p < 8 := by omega
    have hph := h.1.2.1 p hp8
    cases g2 : iw x2 0 2
    · refine zThrow hI0 (fun post hp => ?_)
      simp [wp_L_breaks, wp_X5_breaks, w_needPhase, w_with, e1, g1, g2, hp]
    · obtain ⟨c, hc, rfl⟩ := iw_col g2
      obtain ⟨X, hX⟩ : ∃ X : Int32, X = if x3 = 0 then (a (3 + p) 11) &&& ((1 <<< (nI c &&& 31)) ^^^ (-1)) else (a (3 + p) 11) ||| (1 <<< (nI c &&& 31)) := ⟨_, rfl⟩
      have hXd : ∀ d : Nat, d < 3 → hb X (nI d) = if d = c then decide (x3 = 1) else hb (a (3 + p) 11) (nI d) := by
        intro d hd
        rcases h30 with rfl | rfl
        · rw [hX, if_pos rfl, clr_bt _ hc hd]
          by_cases e : d = c <;> simp [e]
        · rw [hX, if_neg (by decide), set_bt _ hc hd]
          by_cases e : d = c <;> simp [e]
      have ha : ∀ i, i ≠ 3 + p → ig_up a (3 + p) 11 X i = a i := fun i hi => up_row hi
      refine ⟨if hb (a (3 + p) 11) (nI c) = true then 1 else 0, ig_up a (3 + p) 11 X, la, fun post hp => ?_, ⟨np, ns, t, ig_up b 111 (3 * p + c) x3, h4, h3, z_one h hp8 ?_ ha (by rw [up_col (by omega)]) (by rw [up_col (by omega)]) (by rw [up_col (by omega)]), zM_one hM hp8 ha⟩, fun z => ?_⟩
      · simp only [wp_L_breaks, wp_X5_breaks, w_needPhase, w_with, e1, g1, g2, cond_true, nI_clamp (show p < 2 ^ 31 by omega), vp_in_nI hp8 (by omega), true_and, w_isBroken, wp_X2_setBroken, wp_X2_setBroken_26]
        rcases h30 with rfl | rfl <;> cases g4 : hb (a (3 + p) 11) (nI c) <;> simp [g4] at hp hX ⊢ <;> rw [← hX] <;> exact hp
      · obtain ⟨k1, k2, k3, k4', k5, k6⟩ := h.1
        refine ⟨by simpa [ig_R1, up_app, show ¬ 1 = 3 + p by omega, show ¬ 23 = 3 + p by omega] using k1, ?_, ?_, ?_, ?_, ?_⟩
        · intro r hr
          have hr0 := k2 r hr
          obtain ⟨qa, qb, qc⟩ := hr0
          by_cases hrp : r = p
          · subst hrp
            refine ⟨by simpa [up_app] using qa, fun d hd => ?_, by simpa [up_app] using qc⟩
            have qd := qb d hd
            have w1 : ig_up a (3 + r) 11 X (3 + r) 11 = X := by simp [up_app]
            rw [w1, hXd d hd]
            by_cases hcd : d = c
            · subst hcd
              rcases h30 with rfl | rfl <;> simp [up_app]
            · have u : ¬ 3 * r + d = 3 * r + c := by omega
              simp [up_app, u, hcd, qd]
          · refine ⟨by simpa [up_app, hrp] using qa, fun d hd => ?_, by simpa [up_app, hrp] using qc⟩
            have u : ¬ 3 * r + d = 3 * p + c := by omega
            simp [up_app, u, hrp, qb d hd]
        · intro u v hu hv
          simpa [up_app, show ¬ 12 + u = 3 + p by omega] using k3 u v hu hv
        · intro s hs
          simpa [up_app, show ¬ 20 = 3 + p by omega] using k4' s hs
        · simpa [ig_R5, ig_wk, up_app, show ¬ 23 = 3 + p by omega] using k5
        · intro u hu
          simpa [up_app, show ¬ 22 = 3 + p by omega] using k6 u hu
      · split at z <;> exact absurd z (by decide)
end ZCALL
