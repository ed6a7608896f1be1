section MORE
variable {np ns t : Nat} {a : ig_M} {la : Int64} {b : ig_M} {lb lo : Int64}
theorem i_le {x y : Int32} : ¬ x ≤ y ↔ y < x := by
  rw [Int32.le_iff_toInt_le, Int32.lt_iff_toInt_lt]; omega
theorem d_arrive (h : ig_R np ns t a la b lb) (x1 x2 : Int32) : ig_two (wp_L_arrive a la lo x1 x2) (wp_X6_arrive b lb x1 x2) := by
  have hR := h
  obtain ⟨h1, h2, h3, h4, h5, h6⟩ := h
  obtain ⟨⟨hnp, hns, ht⟩, e1, e2, e3, e4, e5, e6, e7, rfl⟩ := h1
  cases g1 : iw x1 0 (nI np - 1)
  · refine ⟨1, a, la, lo, 0, ig_up b 97 0 1, la, fun post hp => ?_, fun post hp => ?_, thr_at _ _, fun z => absurd z (by decide), _, _, _, R_thr hR 1⟩
    · simp [wp_L_arrive, wp_X5_arrive, w_needPhase, e1, g1, hp]
    · cases u : iw x2 1 50 <;> simp [wp_X6_arrive, wp_X6_arrive_52, w_isPhase, w_in, w_well, e2, g1, u, hp]
  · obtain ⟨p, hs, rfl⟩ := iw_nat (by omega) g1
    have hp8 : p < 8 := by omega
    have hph := h2 p hp8
    have q6 := hph.1.2.2.2.2.2.2.1
    cases g2 : iw x2 1 50
    · refine ⟨2, a, la, lo, 0, ig_up b 97 0 2, la, fun post hp => ?_, fun post hp => ?_, thr_at _ _, fun z => absurd z (by decide), _, _, _, R_thr hR 2⟩
      · simp [wp_L_arrive, wp_X5_arrive, w_needPhase, w_with, e1, g1, g2, hp]
      · simp [wp_X6_arrive, wp_X6_arrive_52, w_isPhase, w_in, w_well, e2, g1, g2, hp]
    · obtain ⟨k2, hk1, hk2, rfl⟩ := iw_le (m := 1) (n := 50) (by omega) (by omega) g2
      by_cases g3 : b 107 p + nI k2 ≤ 1000
      · refine ⟨0, ig_up a (3 + p) 6 (b 107 p + nI k2), la, (b 107 p + nI k2).toInt64, b 107 p + nI k2, ig_up (ig_up b 97 0 0) 107 p (b 107 p + nI k2), la, fun post hp => ?_, fun post hp => ?_, by simp [up_app], fun _ => rfl, np, ns, t, ?_⟩
        · simpa [wp_L_arrive, wp_X5_arrive, w_needPhase, w_with, e1, g1, g2, nI_clamp (show p < 2 ^ 31 by omega), vp_in_nI hp8 (by omega), q6, g3, up_app] using hp
        · simpa [wp_X6_arrive, wp_X6_arrive_52, w_isPhase, w_in, w_well, e2, g1, g2, nI_clamp (show p < 2 ^ 31 by omega), vp_in_nI hp8 (by omega), g3, up_app] using hp
        · refine Q_phase (w := t) (R_thr hR 0) hp8 _ _ (fun i hi => up_row hi) (fun i j hij => ?_) ?_
          · rw [up_app]
            split
            · split
              · exfalso; omega
              · simp_all
            · rfl
          · obtain ⟨⟨q0, q1, q2, q3, q4, q5, q6, q7, q8, q9, q10⟩, qb, qc, qd, qe, qf⟩ := hph
            rw [q6] at qd
            obtain ⟨k, k1, k3, k4⟩ : ∃ k : Nat, 0 ≤ k ∧ k ≤ 1000 ∧ b 107 p = nI k := iw_le (m := 0) (n := 1000) (by omega) (by omega) (by
              unfold iw
              simp only [Bool.and_eq_true, Bool.not_eq_true', decide_eq_false_iff_not]
              exact ⟨fun z => (i_le.mpr z) qd.1, fun z => (i_le.mpr z) qd.2⟩)
            have k5 : b 107 p + nI k2 = nI (k + k2) := by rw [k4, nI_add]
            have k6 : (0 : Int32) ≤ b 107 p + nI k2 := by rw [k5]; exact nI_pos' (by omega)
            simp [ig_ph, up_app, q0, q1, q2, q3, q4, q5, q6, q7, q8, q9, q10, g3, k6]
            simp [q0, q3, q6, q7, q8, q10] at qc qd qe qf
            exact ⟨by simpa using qb, qc, qe, qf⟩
      · refine ⟨3, a, la, lo, 0, ig_up b 97 0 3, la, fun post hp => ?_, fun post hp => ?_, thr_at _ _, fun z => absurd z (by decide), _, _, _, R_thr hR 3⟩
        · simp [wp_L_arrive, wp_X5_arrive, w_needPhase, w_with, e1, g1, g2, nI_clamp (show p < 2 ^ 31 by omega), vp_in_nI hp8 (by omega), q6, g3, hp]
        · simp [wp_X6_arrive, wp_X6_arrive_52, w_isPhase, w_in, w_well, e2, g1, g2, nI_clamp (show p < 2 ^ 31 by omega), vp_in_nI hp8 (by omega), g3, hp]
theorem iw_col {x : Int32} (h : iw x 0 2 = true) : ∃ c : Nat, c < 3 ∧ x = nI c := by
  obtain ⟨k, _, h2, h3⟩ := iw_le (m := 0) (n := 2) (by omega) (by omega) h
  exact ⟨k, by omega, h3⟩
theorem idx3 (p c : Nat) : 3 * nI p + nI c = nI (3 * p + c) := by
  show nI 3 * nI p + nI c = _
  rw [pk_mul, nI_add]
theorem set_bt (x : Int32) {c d : Nat} (hc : c < 3) (hd : d < 3) : hb (x ||| (1 <<< (nI c &&& 31))) (nI d) = (hb x (nI d) || decide (d = c)) := by
  rw [hb_bt _ (by omega), hb_bt _ (by omega), b_or, b_shl c (by omega) _ (by omega), b_1]
  congr 1
  rw [← Bool.decide_and, decide_eq_decide]; omega
theorem clr_bt (x : Int32) {c d : Nat} (hc : c < 3) (hd : d < 3) : hb (x &&& ((1 <<< (nI c &&& 31)) ^^^ (-1))) (nI d) = (hb x (nI d) && !decide (d = c)) := by
  rw [hb_bt _ (by omega), hb_bt _ (by omega), b_and, b_xor, b_shl c (by omega) _ (by omega), b_1, b_m1 d (by omega), Bool.xor_true]
  congr 2
  rw [← Bool.decide_and, decide_eq_decide]; omega
theorem d_breaks (h : ig_R np ns t a la b lb) (x1 x2 x3 : Int32) (h3 : x3 = 0 ∨ x3 = 1) : ∃ (k : Int32) (a' : ig_M) (la' lo' : Int64) (r : Int32) (b' : ig_M) (lb' : Int64),
    (∀ post : Int32 → ig_M → Int64 → Int64 → Prop, post k a' la' lo' → wp_L_breaks a la lo x1 x2 x3 post) ∧ (∀ post : Int32 → ig_M → Int64 → Prop, post r b' lb' → wp_X6_breaks b lb x1 x2 x3 post) ∧ b' 97 0 = k ∧ (k = 0 → (lo' = if r = 0 then 0 else 1)) ∧ ig_RR a' la' b' lb' := by
  have hR := h
  obtain ⟨h1, h2, hh3, h4, h5, h6⟩ := h
  obtain ⟨⟨hnp, hns, ht⟩, e1, e2, e3, e4, e5, e6, e7, rfl⟩ := h1
  have nb : vp_nar .boolean x3 = x3 := by rcases h3 with rfl | rfl <;> rfl
  cases g1 : iw x1 0 (nI np - 1)
  · refine ⟨1, a, la, lo, 0, ig_up b 97 0 1, la, fun post hp => ?_, fun post hp => ?_, thr_at _ _, fun z => absurd z (by decide), _, _, _, R_thr hR 1⟩
    · simp [wp_L_breaks, wp_X5_breaks, w_needPhase, e1, g1, hp]
    · cases u : iw x2 1 50 <;> simp [wp_X6_breaks, wp_X6_breaks_31, w_isPhase, w_in, w_well, e2, g1, hp]
  · obtain ⟨p, hs, rfl⟩ := iw_nat (by omega) g1
    have hp8 : p < 8 := by omega
    have hph := h2 p hp8
    cases g2 : iw x2 0 2
    · refine ⟨2, a, la, lo, 0, ig_up b 97 0 2, la, fun post hp => ?_, fun post hp => ?_, thr_at _ _, fun z => absurd z (by decide), _, _, _, R_thr hR 2⟩
      · simp [wp_L_breaks, wp_X5_breaks, w_needPhase, w_with, e1, g1, g2, hp]
      · simp [wp_X6_breaks, wp_X6_breaks_31, w_isPhase, w_in, w_well, e2, g1, g2, hp]
    · obtain ⟨c, hc, rfl⟩ := iw_col g2
      obtain ⟨X, hX⟩ : ∃ X : Int32, X = if x3 = 0 then (a (3 + p) 11) &&& ((1 <<< (nI c &&& 31)) ^^^ (-1)) else (a (3 + p) 11) ||| (1 <<< (nI c &&& 31)) := ⟨_, rfl⟩
      have hbb := hph.2.1 c hc
      have hXd : ∀ d : Nat, d < 3 → hb X (nI d) = if d = c then decide (x3 = 1) else hb (a (3 + p) 11) (nI d) := by
        intro d hd
        rcases h3 with rfl | rfl
        · rw [hX, if_pos rfl, clr_bt _ hc hd]
          by_cases e : d = c <;> simp [e]
        · rw [hX, if_neg (by decide), set_bt _ hc hd]
          by_cases e : d = c <;> simp [e]
      refine ⟨0, ig_up a (3 + p) 11 X, la, if hb (a (3 + p) 11) (nI c) = true then 1 else 0, b 111 (3 * p + c), ig_up (ig_up b 97 0 0) 111 (3 * p + c) x3, la, fun post hp => ?_, fun post hp => ?_, by simp [up_app], fun _ => ?_, np, ns, t, ?_⟩
      · simp only [wp_L_breaks, wp_X5_breaks, w_needPhase, w_with, e1, g1, g2, cond_true, nI_clamp (show p < 2 ^ 31 by omega), vp_in_nI hp8 (by omega), true_and, w_isBroken, wp_X2_setBroken, wp_X2_setBroken_26]
        rcases h3 with rfl | rfl <;> cases g4 : hb (a (3 + p) 11) (nI c) <;> simp [g4] at hp hX ⊢ <;> rw [← hX] <;> exact hp
      · have u1 : vp_in (nI (3 * p + c)) 24 := vp_in_nI (by omega) (by omega)
        have u2 : b 111 (3 * p + c) = 0 ∨ b 111 (3 * p + c) = 1 := by
          rw [hbb]; cases hb (a (3 + p) 11) (nI c) <;> simp
        simpa [wp_X6_breaks, wp_X6_breaks_31, w_isPhase, w_in, w_well, e2, g1, g2, idx3, u1, nI_clamp (show 3 * p + c < 2 ^ 31 by omega), nb, up_app, u2] using hp
      · rw [hbb]; cases hb (a (3 + p) 11) (nI c) <;> simp
      · have hR0 := R_thr hR 0
        refine ⟨by simpa [ig_R1, up_app, show ¬ 1 = 3 + p by omega, show ¬ 23 = 3 + p by omega] using hR0.1, ?_, ?_, ?_, ?_, ?_⟩
        · intro r hr
          have hr0 := h2 r hr
          obtain ⟨qa, qb, qc⟩ := hr0
          by_cases hrp : r = p
          · subst hrp
            refine ⟨by simpa [up_app] using qa, fun d hd => ?_, by simpa [up_app] using qc⟩
            have qd := qb d hd
            have w1 : ig_up a (3 + r) 11 X (3 + r) 11 = X := by simp [up_app]
            rw [w1, hXd d hd]
            by_cases hcd : d = c
            · subst hcd
              rcases h3 with rfl | rfl <;> simp [up_app]
            · have u : ¬ 3 * r + d = 3 * r + c := by omega
              simp [up_app, u, hcd, qd]
          · refine ⟨by simpa [up_app, hrp] using qa, fun d hd => ?_, by simpa [up_app, hrp] using qc⟩
            have u : ¬ 3 * r + d = 3 * p + c := by omega
            simp [up_app, u, hrp, qb d hd]
        · intro u v hu hv
          simpa [up_app, show ¬ 12 + u = 3 + p by omega] using hh3 u v hu hv
        · intro s hs
          simpa [up_app, show ¬ 20 = 3 + p by omega] using h4 s hs
        · simpa [ig_R5, ig_wk, up_app, show ¬ 23 = 3 + p by omega] using h5
        · intro u hu
          simpa [up_app, show ¬ 22 = 3 + p by omega] using h6 u hu
theorem d_ofPhase (h : ig_R np ns t a la b lb) (x1 x2 : Int32) : ig_two (wp_L_ofPhase a la lo x1 x2) (wp_X6_ofPhase b lb x1 x2) := by
  have hR := h
  obtain ⟨h1, h2, h3, h4, h5, h6⟩ := h
  obtain ⟨⟨hnp, hns, ht⟩, e1, e2, e3, e4, e5, e6, e7, rfl⟩ := h1
  cases g1 : iw x1 0 (nI np - 1)
  · refine ⟨1, a, la, lo, 0, ig_up b 97 0 1, la, fun post hp => ?_, fun post hp => ?_, thr_at _ _, fun z => absurd z (by decide), _, _, _, R_thr hR 1⟩
    · simp [wp_L_ofPhase, wp_X5_ofPhase, w_needPhase, e1, g1, hp]
    · simp [wp_X6_ofPhase, wp_X6_ofPhase_30, w_isPhase, w_in, w_well, e2, g1, hp]
  · obtain ⟨p, hs, rfl⟩ := iw_nat (by omega) g1
    have hp8 : p < 8 := by omega
    have hph := h2 p hp8
    cases g2 : iw x2 0 6
    · refine ⟨2, a, la, lo, 0, ig_up b 97 0 2, la, fun post hp => ?_, fun post hp => ?_, thr_at _ _, fun z => absurd z (by decide), _, _, _, R_thr hR 2⟩
      · simp [wp_L_ofPhase, wp_X5_ofPhase, w_needPhase, w_with, e1, g1, g2, hp]
      · simp [wp_X6_ofPhase, wp_X6_ofPhase_30, w_isPhase, w_in, w_well, e2, g1, g2, hp]
    · obtain ⟨v, hv⟩ : ∃ v : Int32, v = if x2 = 0 then b 103 p else if x2 = 1 then (if b 103 p = 1 then b 105 p else 0) else if x2 = 2 then (if b 103 p = 1 then b 106 p else 0) else if x2 = 3 then b 107 p else if x2 = 4 then b 108 p else if x2 = 5 then b 109 p else cond (dmB b p) 1 0 := ⟨_, rfl⟩
      refine ⟨0, a, la, v.toInt64, v, ig_up b 97 0 0, la, fun post hp => ?_, fun post hp => ?_, thr_at _ _, fun _ => rfl, _, _, _, R_thr hR 0⟩
      · simp only [wp_L_ofPhase, wp_X5_ofPhase, w_needPhase, w_with, e1, g1, g2, cond_true, nI_clamp (show p < 2 ^ 31 by omega), vp_in_nI hp8 (by omega), true_and, wp_X2_tell, w_dmA hph]
        obtain ⟨⟨q0, q1, q2, q3, q4, q5, q6, q7, q8, q9, q10⟩, qb, qc, qd, qe, qf⟩ := hph
        rw [q3, q4, q5, q6, q7, q8]
        by_cases c0 : x2 = 0
        · subst c0; simp at hv; subst hv; simpa using hp
        by_cases c1 : x2 = 1
        · subst c1; by_cases c : b 103 p = 1 <;> simp [c] at hv <;> subst hv <;> simpa [c] using hp
        by_cases c2 : x2 = 2
        · subst c2; by_cases c : b 103 p = 1 <;> simp [c] at hv <;> subst hv <;> simpa [c] using hp
        by_cases c3 : x2 = 3
        · subst c3; simp at hv; subst hv; simpa using hp
        by_cases c4 : x2 = 4
        · subst c4; simp at hv; subst hv; simpa using hp
        by_cases c5 : x2 = 5
        · subst c5; simp at hv; subst hv; simpa using hp
        simp [c0, c1, c2, c3, c4, c5] at hv ⊢
        subst hv
        cases g : dmB b p <;> simpa [g] using hp
      · simp only [wp_X6_ofPhase, wp_X6_ofPhase_30, wp_X6_ofPhase_53, w_isPhase, w_in, w_well, e2, g1, g2, cond_true, nI_clamp (show p < 2 ^ 31 by omega), vp_in_nI hp8 (by omega), true_and, w_dmB _ _ hp8]
        have dd : dmB (ig_up b 97 0 0) p = dmB b p := by simp [dmB, up_app]
        by_cases c0 : x2 = 0
        · subst c0; simp at hv; subst hv; by_cases c : b 103 p = 1 <;> simpa [up_app, c] using hp
        by_cases c1 : x2 = 1
        · subst c1; by_cases c : b 103 p = 1 <;> simp [c] at hv <;> subst hv <;> simpa [up_app, c] using hp
        by_cases c2 : x2 = 2
        · subst c2; by_cases c : b 103 p = 1 <;> simp [c] at hv <;> subst hv <;> simpa [up_app, c] using hp
        by_cases c3 : x2 = 3
        · subst c3; simp at hv; subst hv; by_cases c : b 103 p = 1 <;> simpa [up_app, c] using hp
        by_cases c4 : x2 = 4
        · subst c4; simp at hv; subst hv; by_cases c : b 103 p = 1 <;> simpa [up_app, c] using hp
        by_cases c5 : x2 = 5
        · subst c5; simp at hv; subst hv; by_cases c : b 103 p = 1 <;> simpa [up_app, c] using hp
        simp [c0, c1, c2, c3, c4, c5] at hv ⊢
        subst hv
        rw [dd]
        by_cases c : b 103 p = 1 <;> cases g : dmB b p <;> simpa [up_app, c, g] using hp
theorem d_of (h : ig_R np ns t a la b lb) (x1 : Int32) : ig_two (wp_L_of a la lo x1) (wp_X6_of b lb x1) := by
  have hR := h
  obtain ⟨h1, h2, h3, h4, h5, h6⟩ := h
  obtain ⟨⟨hnp, hns, ht⟩, e1, e2, e3, e4, e5, e6, e7, rfl⟩ := h1
  obtain ⟨f1, f2, f3, f4, f5, f6, ⟨s, hs, f7, f8⟩, f9⟩ := h5
  cases g1 : iw x1 0 4
  · refine ⟨1, a, la, lo, 0, ig_up b 97 0 1, la, fun post hp => ?_, fun post hp => ?_, thr_at _ _, fun z => absurd z (by decide), _, _, _, R_thr hR 1⟩
    · simp [wp_L_of, wp_X5_of, w_with, g1, hp]
    · simp [wp_X6_of, wp_X6_of_15, w_in, w_well, g1, hp]
  · obtain ⟨v, hv⟩ : ∃ v : Int32, v = if x1 = 0 then b 97 9 else if x1 = 1 then (if b 97 9 = 1 ∨ b 97 9 = 2 then b 97 10 else -1) else if x1 = 2 then b 97 11 else if x1 = 3 then b 97 21 else b 97 22 := ⟨_, rfl⟩
    refine ⟨0, a, la, v.toInt64, v, ig_up b 97 0 0, la, fun post hp => ?_, fun post hp => ?_, thr_at _ _, fun _ => rfl, _, _, _, R_thr hR 0⟩
    · simp only [wp_L_of, wp_X5_of, w_with, g1, cond_true, wp_X0_tell]
      by_cases c0 : x1 = 0
      · subst c0; simp at hv; subst hv; simpa [f1] using hp
      by_cases c1 : x1 = 1
      · subst c1
        by_cases c : b 97 9 = 1 ∨ b 97 9 = 2
        · have e : a 23 3 = b 97 10 := by rw [f7]; exact (f8 (by unfold ig_wk; rw [f1]; exact c)).2
          simp [c] at hv; subst hv; simpa [e] using hp
        · have e : a 23 3 = -1 := f9 (by unfold ig_wk; rw [f1]; exact c)
          simp [c] at hv; subst hv; simpa [e] using hp
      by_cases c2 : x1 = 2
      · subst c2; simp at hv; subst hv; simpa [e5, e6] using hp
      by_cases c3 : x1 = 3
      · subst c3; simp at hv; subst hv; simpa [f3] using hp
      simp [c0, c1, c2, c3] at hv ⊢
      subst hv
      simpa [e7] using hp
    · simp only [wp_X6_of, wp_X6_of_15, w_in, w_well, g1, cond_true]
      by_cases c0 : x1 = 0
      · subst c0; simp at hv; subst hv; simpa [up_app] using hp
      by_cases c1 : x1 = 1
      · subst c1
        by_cases c : b 97 9 = 1
        · simp [c] at hv; subst hv; simpa [up_app, c] using hp
        by_cases d : b 97 9 = 2
        · simp [d] at hv; subst hv; simpa [up_app, d] using hp
        simp [c, d] at hv; subst hv; simpa [up_app, c, d] using hp
      by_cases c2 : x1 = 2
      · subst c2; simp at hv; subst hv; simpa [up_app] using hp
      by_cases c3 : x1 = 3
      · subst c3; simp at hv; subst hv; simpa [up_app] using hp
      simp [c0, c1, c2, c3] at hv ⊢
      subst hv
      simpa [up_app] using hp
theorem d_lamp (h : ig_R np ns t a la b lb) (x1 x2 : Int32) : ig_two (wp_L_lamp a la lo x1 x2) (wp_X6_lamp b lb x1 x2) := by
  have hR := h
  obtain ⟨h1, h2, h3, h4, h5, h6⟩ := h
  obtain ⟨⟨hnp, hns, ht⟩, e1, e2, e3, e4, e5, e6, e7, rfl⟩ := h1
  cases g1 : iw x1 0 (nI np - 1)
  · refine ⟨1, a, la, lo, 0, ig_up b 97 0 1, la, fun post hp => ?_, fun post hp => ?_, thr_at _ _, fun z => absurd z (by decide), _, _, _, R_thr hR 1⟩
    · simp [wp_L_lamp, wp_X5_lamp, w_needPhase, e1, g1, hp]
    · simp [wp_X6_lamp, wp_X6_lamp_27, wp_X6_lamp_28, w_isPhase, w_in, w_well, e2, g1, hp]
  · cases g2 : iw x2 0 (nI t - 1)
    · refine ⟨1, a, la, lo, 0, ig_up b 97 0 1, la, fun post hp => ?_, fun post hp => ?_, thr_at _ _, fun z => absurd z (by decide), _, _, _, R_thr hR 1⟩
      · simp [wp_L_lamp, wp_X5_lamp, w_needPhase, w_with, e1, e5, g1, g2, hp]
      · simp [wp_X6_lamp, wp_X6_lamp_27, wp_X6_lamp_28, w_isPhase, w_in, w_well, e2, e6, g1, g2, hp]
    · obtain ⟨u, hu, rfl⟩ : ∃ u : Nat, u < t ∧ x2 = nI u := by
        rcases Nat.eq_zero_or_pos t with rfl | h0
        · obtain ⟨u, hu, _⟩ := iw_nat (n := 0) (by omega) g2
          exact absurd hu (Nat.not_lt_zero u)
        · rw [show nI t - 1 = nI (t - 1) from pk_sub (a := t) (b := 1) (by omega)] at g2
          obtain ⟨u, _, hu, e⟩ := iw_le (m := 0) (by omega) (by omega) g2
          exact ⟨u, by omega, e⟩
      have g3 : iw (nI u) 0 (5000 - 1) = true := iw_k (m := 0) (n := 4999) (by omega) (by omega) (by omega)
      refine ⟨0, a, la, ((b 112 u >>> ((2 * x1) &&& 31)) &&& 3).toInt64, (b 112 u >>> ((2 * x1) &&& 31)) &&& 3, ig_up b 97 0 0, la, fun post hp => ?_, fun post hp => ?_, thr_at _ _, fun _ => rfl, _, _, _, R_thr hR 0⟩
      · simp only [wp_L_lamp, wp_X5_lamp, w_needPhase, w_with, e1, e5, g1, g2, g3, cond_true, wp_X1_shown, wp_X1_colourIn, nI_clamp (show u < 2 ^ 31 by omega), h6 u hu]
        simpa [vp_in_nI (show u < 5000 by omega) (by omega)] using hp
      · simp only [wp_X6_lamp, wp_X6_lamp_27, wp_X6_lamp_28, wp_X6_shown, w_isPhase, w_in, w_well, e2, e6, g1, g2, cond_true, nI_clamp (show u < 2 ^ 31 by omega)]
        simpa [vp_in_nI (show u < 5000 by omega) (by omega), up_app] using hp
end MORE
