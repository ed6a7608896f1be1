/-! ===== the calls without a loop, and stop ===== -/
theorem w_one (x : Int32) : ¬ (1 : Int32) = 0 := by decide
def dmB (b : ig_M) (p : Nat) : Bool := !decide (b 103 p = 1) && (!decide (b 110 p = 0) || !decide (b 107 p ≤ 0))
theorem w_dmA {a b : ig_M} {p : Nat} (h : ig_ph (a (3 + p)) b p) (la : Int64) (post : Int32 → Prop) : wp_X2_isDemanded a la p post = post (cond (dmB b p) 1 0) := by
  unfold wp_X2_isDemanded dmB
  obtain ⟨⟨_, _, _, h3, _, _, h6, _, _, _, h10⟩, _⟩ := h
  rw [h3, h6, h10]
  by_cases c1 : b 103 p = 1 <;> by_cases c2 : b 110 p = 0 <;> by_cases c3 : b 107 p ≤ 0 <;> simp [c1, c2, c3]
theorem w_dmB (b : ig_M) (lb : Int64) {p : Nat} (hp : p < 8) (post : Int32 → Prop) : wp_X6_isDemanded b lb (nI p) post = post (cond (dmB b p) 1 0) := by
  unfold wp_X6_isDemanded dmB
  rw [nI_clamp (by omega)]
  by_cases c1 : b 103 p = 1 <;> by_cases c2 : b 110 p = 0 <;> by_cases c3 : b 107 p ≤ 0 <;> simp [c1, c2, c3, vp_in_nI hp (by omega)]
section SIMPLE
variable {np ns t : Nat} {a : ig_M} {la : Int64} {b : ig_M} {lb lo : Int64}
/-- what is short for one call's outcome -/
def ig_two (A : (Int32 → ig_M → Int64 → Int64 → Prop) → Prop) (B : (Int32 → ig_M → Int64 → Prop) → Prop) : Prop := ∃ (k : Int32) (a' : ig_M) (la' lo' : Int64) (r : Int32) (b' : ig_M) (lb' : Int64),
    (∀ post : Int32 → ig_M → Int64 → Int64 → Prop, post k a' la' lo' → A post) ∧ (∀ post : Int32 → ig_M → Int64 → Prop, post r b' lb' → B post) ∧ b' 97 0 = k ∧ (k = 0 → lo' = r.toInt64) ∧ ig_RR a' la' b' lb'
def ig_twoV (A : (Int32 → ig_M → Int64 → Int64 → Prop) → Prop) (B : (ig_M → Int64 → Prop) → Prop) : Prop := ∃ (k : Int32) (a' : ig_M) (la' lo' : Int64) (b' : ig_M) (lb' : Int64),
    (∀ post : Int32 → ig_M → Int64 → Int64 → Prop, post k a' la' lo' → A post) ∧ (∀ post : ig_M → Int64 → Prop, post b' lb' → B post) ∧ b' 97 0 = k ∧ ig_RR a' la' b' lb'
theorem d_start (h : ig_R np ns t a la b lb) (x1 : Int32) : ig_twoV (wp_L_start a la lo x1) (wp_X6_start b lb x1) := by
  have hR := h
  obtain ⟨h1, h2, h3, h4, h5, h6⟩ := h
  obtain ⟨⟨hnp, hns, ht⟩, e1, e2, e3, e4, e5, e6, e7, rfl⟩ := h1
  obtain ⟨f1, f2, f3, f4, f5, f6, f7, f8⟩ := h5
  by_cases g1 : iw x1 0 (nI ns - 1) = true
  · obtain ⟨s, hs, rfl⟩ := iw_nat (by omega) g1
    by_cases g2 : b 97 9 = 1 ∨ b 97 9 = 2
    · refine ⟨2, a, la, lo, ig_up b 97 0 2, la, fun post hp => ?_, fun post hp => ?_, thr_at _ _, _, _, _, R_thr hR 2⟩
      · rcases g2 with g2 | g2 <;> simp [wp_L_start, wp_X5_start, w_needStage, e3, g1, wp_X0_areWorking, f1, g2, hp]
      · rcases g2 with g2 | g2 <;> simp [wp_X6_start, wp_X6_start_31, wp_X6_start_36, w_isStage, w_well, e4, g1, g2, hp]
    · have g3 : ¬ b 97 9 = 1 := fun z => g2 (Or.inl z)
      have g4 : ¬ b 97 9 = 2 := fun z => g2 (Or.inr z)
      refine ⟨0, ig_up (ig_up (ig_up a 23 2 1) 23 3 (nI s)) 23 4 1, la, lo, ig_up (ig_up (ig_up (ig_up b 97 0 0) 97 1 1) 97 9 1) 97 10 (nI s), la, fun post hp => ?_, fun post hp => ?_, by simp [up_app], np, ns, t, ?_⟩
      · simpa [wp_L_start, wp_X5_start, w_needStage, e3, g1, wp_X0_areWorking, f1, g3, g4, wp_X0_begin] using hp
      · simpa [wp_X6_start, wp_X6_start_31, wp_X6_start_36, w_isStage, w_well, e4, g1, g3, g4] using hp
      · refine Q_lights (w := t) hR _ _ (fun i hi => by simp [up_row hi]) (fun i hi => by simp [up_row hi]) ?_ ?_
        · simp [ig_R1, up_app, hnp, hns, ht, e1, e2, e3, e4, e5, e6, e7]
        · unfold ig_R5 ig_wk
          simp only [up_app]
          refine ⟨by simp, by simp, by simpa using f3, by simp, by simp, by simpa using f6, ⟨s, by omega, by simp, fun _ => ⟨hs, by simp⟩⟩, fun z => absurd (Or.inl (by simp)) z⟩
  · have g1' : iw x1 0 (nI ns - 1) = false := by simpa using g1
    refine ⟨1, a, la, lo, ig_up b 97 0 1, la, fun post hp => ?_, fun post hp => ?_, thr_at _ _, _, _, _, R_thr hR 1⟩
    · simp [wp_L_start, wp_X5_start, w_needStage, e3, g1', hp]
    · simp [wp_X6_start, wp_X6_start_36, w_isStage, w_well, e4, g1', hp]
theorem d_ask (h : ig_R np ns t a la b lb) (x1 : Int32) : ig_twoV (wp_L_ask a la lo x1) (wp_X6_ask b lb x1) := by
  have hR := h
  obtain ⟨h1, h2, h3, h4, h5, h6⟩ := h
  obtain ⟨⟨hnp, hns, ht⟩, e1, e2, e3, e4, e5, e6, e7, rfl⟩ := h1
  obtain ⟨f1, f2, f3, f4, f5, f6, f7, f8⟩ := h5
  cases g1 : iw x1 0 (nI np - 1)
  · refine ⟨1, a, la, lo, ig_up b 97 0 1, la, fun post hp => ?_, fun post hp => ?_, thr_at _ _, _, _, _, R_thr hR 1⟩
    · simp [wp_L_ask, wp_X5_ask, w_needPhase, e1, g1, hp]
    · simp [wp_X6_ask, wp_X6_ask_28, w_isPhase, w_well, e2, g1, hp]
  · obtain ⟨s, hs, rfl⟩ := iw_nat (by omega) g1
    by_cases g2 : b 97 21 = -1
    · refine ⟨0, ig_up a 23 5 (nI s), la, lo, ig_up (ig_up b 97 0 0) 97 21 (nI s), la, fun post hp => ?_, fun post hp => ?_, by simp [up_app], np, ns, t, ?_⟩
      · simpa [wp_L_ask, wp_X5_ask, w_needPhase, e1, g1, f3, g2] using hp
      · simpa [wp_X6_ask, wp_X6_ask_28, w_isPhase, w_well, e2, g1, g2] using hp
      · refine Q_lights (w := t) hR _ _ (fun i hi => by simp [up_row hi]) (fun i hi => by simp [up_row hi]) ?_ ?_
        · simp [ig_R1, up_app, hnp, hns, ht, e1, e2, e3, e4, e5, e6, e7]
        · unfold ig_R5 ig_wk at *
          simp only [up_app]
          refine ⟨by simpa using f1, by simpa using f2, by simp, by simpa using f4, by simpa using f5, Or.inr ⟨s, hs, by simp⟩, by simpa using f7, by simpa using f8⟩
    · refine ⟨2, a, la, lo, ig_up b 97 0 2, la, fun post hp => ?_, fun post hp => ?_, thr_at _ _, _, _, _, R_thr hR 2⟩
      · simp [wp_L_ask, wp_X5_ask, w_needPhase, e1, g1, f3, g2, hp]
      · simp [wp_X6_ask, wp_X6_ask_28, w_isPhase, w_well, e2, g1, g2, hp]
theorem d_cancel (h : ig_R np ns t a la b lb) : ig_two (wp_L_cancel a la lo) (wp_X6_cancel b lb) := by
  have hR := h
  obtain ⟨h1, h2, h3, h4, h5, h6⟩ := h
  obtain ⟨⟨hnp, hns, ht⟩, e1, e2, e3, e4, e5, e6, e7, rfl⟩ := h1
  obtain ⟨f1, f2, f3, f4, f5, f6, f7, f8⟩ := h5
  by_cases g2 : b 97 21 = -1
  · refine ⟨1, a, la, lo, 0, ig_up b 97 0 1, la, fun post hp => ?_, fun post hp => ?_, thr_at _ _, fun z => absurd z (by decide), _, _, _, R_thr hR 1⟩
    · simp [wp_L_cancel, wp_X5_cancel, f3, g2, hp]
    · simp [wp_X6_cancel, wp_X6_cancel_14, w_well, g2, hp]
  · refine ⟨0, ig_up a 23 5 (-1), la, (b 97 21).toInt64, b 97 21, ig_up (ig_up b 97 0 0) 97 21 (-1), la, fun post hp => ?_, fun post hp => ?_, by simp [up_app], fun _ => rfl, np, ns, t, ?_⟩
    · simpa [wp_L_cancel, wp_X5_cancel, f3, g2] using hp
    · simpa [wp_X6_cancel, wp_X6_cancel_14, w_well, g2, up_app] using hp
    · refine Q_lights (w := t) hR _ _ (fun i hi => by simp [up_row hi]) (fun i hi => by simp [up_row hi]) ?_ ?_
      · simp [ig_R1, up_app, hnp, hns, ht, e1, e2, e3, e4, e5, e6, e7]
      · unfold ig_R5 ig_wk at *
        simp only [up_app]
        refine ⟨by simpa using f1, by simpa using f2, by simp, by simpa using f4, by simpa using f5, Or.inl (by simp), by simpa using f7, by simpa using f8⟩
theorem d_press (h : ig_R np ns t a la b lb) (x1 : Int32) : ∃ (k : Int32) (a' : ig_M) (la' lo' : Int64) (r : Int32) (b' : ig_M) (lb' : Int64),
    (∀ post : Int32 → ig_M → Int64 → Int64 → Prop, post k a' la' lo' → wp_L_press a la lo x1 post) ∧ (∀ post : Int32 → ig_M → Int64 → Prop, post r b' lb' → wp_X6_press b lb x1 post) ∧ b' 97 0 = k ∧ (k = 0 → (lo' = if r = 0 then 0 else 1)) ∧ ig_RR a' la' b' lb' := by
  have hR := h
  obtain ⟨h1, h2, h3, h4, h5, h6⟩ := h
  obtain ⟨⟨hnp, hns, ht⟩, e1, e2, e3, e4, e5, e6, e7, rfl⟩ := h1
  cases g1 : iw x1 0 (nI np - 1)
  · refine ⟨1, a, la, lo, 0, ig_up b 97 0 1, la, fun post hp => ?_, fun post hp => ?_, thr_at _ _, fun z => absurd z (by decide), _, _, _, R_thr hR 1⟩
    · simp [wp_L_press, wp_X5_press, w_needPhase, e1, g1, hp]
    · simp [wp_X6_press, wp_X6_press_14, w_isPhase, w_well, e2, g1, hp]
  · obtain ⟨p, hs, rfl⟩ := iw_nat (by omega) g1
    have hp8 : p < 8 := by omega
    have hph := h2 p hp8
    have q3 := hph.1.2.2.2.1
    have q10 := hph.1.2.2.2.2.2.2.2.2.2.2
    have nb0 : vp_nar .boolean 0 = 0 := rfl
    have nb1 : vp_nar .boolean 1 = 1 := rfl
    have hQ2 : ig_R np ns t (if b 103 p = 1 then a else ig_up a (3 + p) 10 1) la (ig_up (ig_up b 97 0 0) 110 p (if b 110 p = 0 ∧ b 103 p = 1 then 0 else 1)) la := by
      refine Q_phase (w := t) (R_thr hR 0) hp8 _ _ (fun i hi => ?_) (fun i j hij => ?_) ?_
      · split
        · rfl
        · simp [up_row hi]
      · rw [up_app]
        split
        · split
          · exfalso; omega
          · simp_all
        · rfl
      · obtain ⟨⟨q0, q1, q2, q3, q4, q5, q6, q7, q8, q9, q10⟩, qb, qc, qd, qe, qf, qg⟩ := hph
        by_cases g3 : b 103 p = 1
        · rcases qf with qf | qf
          · have g4 : b 110 p = 0 := by rw [← q10]; exact qf
            simp [ig_ph, up_app, g3, g4, q0, q1, q2, q3, q4, q5, q6, q7, q8, q9, q10]
            simp [q0, q3, q6, q7, q8, q10, g3] at qc qd qe qg
            refine ⟨by simpa using qb, by simpa using qd, by simpa using qe, by simpa using qg⟩
          · have g4 : b 110 p = 1 := by rw [← q10]; exact qf
            simp [ig_ph, up_app, g3, g4, q0, q1, q2, q3, q4, q5, q6, q7, q8, q9, q10]
            simp [q0, q3, q6, q7, q8, q10, g3] at qc qd qe qg
            refine ⟨by simpa using qb, by simpa using qd, by simpa using qe, by simpa using qg⟩
        · simp [ig_ph, up_app, g3, q0, q1, q2, q3, q4, q5, q6, q7, q8, q9, q10]
          simp [q0, q3, q6, q7, q8, q10] at qc qd qe qg
          refine ⟨by simpa using qb, by simpa [g3] using qc, by simpa using qd, by simpa using qe, by simpa using qg⟩
    have hph2 := hQ2.2.1 p hp8
    obtain ⟨A2, hA2⟩ : ∃ A2, A2 = (if b 103 p = 1 then a else ig_up a (3 + p) 10 1) := ⟨_, rfl⟩
    obtain ⟨B2, hB2⟩ : ∃ B2, B2 = (ig_up (ig_up b 97 0 0) 110 p (if b 110 p = 0 ∧ b 103 p = 1 then 0 else 1)) := ⟨_, rfl⟩
    have hB0 : B2 97 0 = 0 := by rw [hB2]; simp [up_app]
    rw [← hA2, ← hB2] at hph2 hQ2
    generalize hd : dmB B2 p = d
    refine ⟨0, A2, la, cond d 1 0, cond d 1 0, B2, la, fun post hp => ?_, fun post hp => ?_, hB0, fun _ => ?_, np, ns, t, hQ2⟩
    · simp only [wp_L_press, wp_X5_press, w_needPhase, e1, g1, cond_true, nI_clamp (show p < 2 ^ 31 by omega), vp_in_nI hp8 (by omega), true_and, wp_X2_pushButton, q3]
      refine ⟨fun z => ?_, fun z a2 e => ?_⟩
      · rw [if_pos z] at hA2
        rw [← hA2, w_dmA hph2, hd]
        cases d
        · exact ⟨Or.inl rfl, fun _ => hp, fun z => absurd rfl z⟩
        · exact ⟨Or.inr rfl, fun z => absurd z ne10, fun _ => hp⟩
      · rw [if_neg z] at hA2
        rw [e, ← hA2, w_dmA hph2, hd]
        cases d
        · exact ⟨Or.inl rfl, fun _ => hp, fun z => absurd rfl z⟩
        · exact ⟨Or.inr rfl, fun z => absurd z ne10, fun _ => hp⟩
    · have fin : (cond (dmB B2 p) (1 : Int32) 0 = 0 ∨ cond (dmB B2 p) (1 : Int32) 0 = 1) ∧ post (cond (dmB B2 p) 1 0) B2 la := by
        rw [hd]
        exact ⟨by cases d <;> simp, hp⟩
      simp only [wp_X6_press, wp_X6_press_14, wp_X6_press_46, wp_X6_press_51, w_isPhase, w_well, e2, g1, cond_true, cond_false, nI_clamp (show p < 2 ^ 31 by omega), vp_in_nI hp8 (by omega), true_and, w_dmB _ _ hp8, nb0, nb1, forall_eq, ne10, decide_true, not_false_eq_true, true_implies, false_implies, and_true, up_app, show ¬ 110 = 97 by omega, show ¬ 103 = 97 by omega, if_false]
      by_cases g3 : b 103 p = 1 <;> by_cases g4 : b 110 p = 0 <;> simp only [g3, g4, and_self, and_true, and_false, if_true, if_false] at hB2 <;> rw [hB2] at fin <;> simpa [g3, g4] using fin
    · cases d <;> decide
end SIMPLE
