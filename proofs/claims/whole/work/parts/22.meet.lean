/-! ===== meet and stage ===== -/
section MEET
variable {np ns t : Nat} {a : ig_M} {la : Int64} {b : ig_M} {lb lo : Int64}
theorem ne10 : ¬ (1 : Int32) = 0 := by decide
theorem le_self (n : Nat) : nI n ≤ nI n := Int32.le_refl _
theorem nle_of {i n : Nat} (h : i < n) (hn : n ≤ 10000) : ¬ nI n ≤ nI i := nI_ge h (by omega)
def ig_both (r : Nat → Int32) (x y : Int32) (s : Nat) : Prop := hb (r s) x = true ∧ hb (r s) y = true
theorem w_hswb (hns : ns ≤ 6) (h : a 1 4 = nI ns) (x y : Int32) (post : Int32 → Prop) (h1 : (∃ s, s < ns ∧ ig_both (a 20) x y s) → post 1) (h0 : (¬ ∃ s, s < ns ∧ ig_both (a 20) x y s) → post 0) : wp_X3_hasStageWithBoth a la x y post := by
  refine ⟨ns + 1, loop_i (fun n k (_ : Unit) => wp_X3_hasStageWithBoth_2 a la post n x y (nI k)) (fun k _ => ∀ s, s < k → ¬ ig_both (a 20) x y s) ns ?_ ?_ (ns + 1) 0 () (Nat.zero_le _) (by omega) (fun s hs => absurd hs (Nat.not_lt_zero s))⟩
  · intro n _ hI
    refine ⟨fun _ => h0 (fun ⟨s, q1, q2⟩ => hI s q1 q2), fun q => absurd (by rw [h]; exact le_self ns) q⟩
  · intro n k _ hk hI ih
    refine ⟨fun q => absurd (by rw [h] at q; exact q) (nle_of hk (by omega)), fun _ => ?_⟩
    rw [w_setOf a la ns k hns hk h, w_has]
    cases g1 : hb (a 20 k) x
    · simp only [cond_false, true_implies, not_true_eq_false, false_implies, and_true]
      rw [nI_1]
      exact ih () (fun s hs => by
        rcases Nat.lt_succ_iff_lt_or_eq.mp hs with q | rfl
        · exact hI s q
        · intro q; rw [q.1] at g1; cases g1)
    · refine ⟨fun q => absurd q (by decide), fun _ => ?_⟩
      rw [w_setOf a la ns k hns hk h, w_has]
      cases g2 : hb (a 20 k) y
      · refine ⟨fun _ => ?_, fun q => absurd rfl q⟩
        rw [nI_1]
        exact ih () (fun s hs => by
          rcases Nat.lt_succ_iff_lt_or_eq.mp hs with q | rfl
          · exact hI s q
          · intro q; rw [q.2] at g2; cases g2)
      · exact ⟨fun q => absurd q (by decide), fun _ => h1 ⟨k, hk, g1, g2⟩⟩
theorem w_areInOne (hns : ns ≤ 6) (h : b 97 7 = nI ns) (x y : Int32) (post : Int32 → Prop) (h1 : (∃ s, s < ns ∧ ig_both (b 102) x y s) → post 1) (h0 : (¬ ∃ s, s < ns ∧ ig_both (b 102) x y s) → post 0) : wp_X6_areInOne b lb x y post := by
  refine ⟨ns + 1, loop_i (fun n k (v : Int32) => wp_X6_areInOne_5 b lb post n x y v (nI k)) (fun k v => (v = 0 ∧ ∀ s, s < k → ¬ ig_both (b 102) x y s) ∨ (v = 1 ∧ ∃ s, s < k ∧ ig_both (b 102) x y s)) ns ?_ ?_ (ns + 1) 0 0 (Nat.zero_le _) (by omega) (Or.inl ⟨rfl, fun s hs => absurd hs (Nat.not_lt_zero s)⟩)⟩
  · intro n v hI
    refine ⟨fun _ => ?_, fun q => absurd (by rw [h]; exact le_self ns) q⟩
    rcases hI with ⟨rfl, hI⟩ | ⟨rfl, hI⟩
    · exact ⟨Or.inl rfl, h0 (fun ⟨s, q1, q2⟩ => hI s q1 q2)⟩
    · exact ⟨Or.inr rfl, h1 hI⟩
  · intro n k v hk hI ih
    refine ⟨fun q => absurd (by rw [h] at q; exact q) (nle_of hk (by omega)), fun _ => ?_⟩
    rcases hI with ⟨rfl, hI⟩ | ⟨rfl, s0, hs0, hI⟩
    · refine ⟨fun q => absurd rfl q, fun _ => ⟨vp_in_nI (by omega) (by omega), ?_⟩⟩
      rw [nI_clamp (show k < 2 ^ 31 by omega), w_has6, nI_1]
      cases g1 : hb (b 102 k) x
      · exact ⟨fun _ => ih 0 (Or.inl ⟨rfl, fun s hs => by
          rcases Nat.lt_succ_iff_lt_or_eq.mp hs with q | rfl
          · exact hI s q
          · intro q; rw [q.1] at g1; cases g1⟩), fun q => absurd rfl q⟩
      · refine ⟨fun q => absurd q (by decide), fun _ => ⟨vp_in_nI (by omega) (by omega), ?_⟩⟩
        rw [w_has6]
        cases g2 : hb (b 102 k) y
        · exact ⟨fun _ => ih 0 (Or.inl ⟨rfl, fun s hs => by
            rcases Nat.lt_succ_iff_lt_or_eq.mp hs with q | rfl
            · exact hI s q
            · intro q; rw [q.2] at g2; cases g2⟩), fun q => absurd rfl q⟩
        · exact ⟨fun q => absurd q (by decide), fun _ => ih 1 (Or.inr ⟨rfl, k, by omega, g1, g2⟩)⟩
    · refine ⟨fun _ => ?_, fun q => absurd q (by decide)⟩
      rw [nI_1]
      exact ih 1 (Or.inr ⟨rfl, s0, by omega, hI⟩)
theorem both_eq (h : ig_R4 a b) (hns : ns ≤ 6) (x y : Int32) : (∃ s, s < ns ∧ ig_both (b 102) x y s) ↔ ∃ s, s < ns ∧ ig_both (a 20) x y s := by
  constructor
  · rintro ⟨s, q1, q2⟩
    exact ⟨s, q1, by unfold ig_both at *; rw [h s (by omega)]; exact q2⟩
  · rintro ⟨s, q1, q2⟩
    exact ⟨s, q1, by unfold ig_both at *; rw [← h s (by omega)]; exact q2⟩
theorem iw_le {x : Int32} {m n : Nat} (hm : m ≤ 1000) (hn : n ≤ 10000) (h : iw x (nI m) (nI n) = true) : ∃ k : Nat, m ≤ k ∧ k ≤ n ∧ x = nI k := by
  unfold iw at h
  simp only [Bool.and_eq_true, Bool.not_eq_true', decide_eq_false_iff_not] at h
  have h0 : ¬ x < 0 := fun q => h.1 (Int32.lt_of_lt_of_le q (nI_pos' (by omega)))
  obtain ⟨k, hk, rfl⟩ := nI_of h0
  rw [nI_ltI hk (by omega), nI_ltI (by omega) hk] at h
  exact ⟨k, by omega, by omega, rfl⟩
theorem iw_k {k m n : Nat} (hn : n ≤ 10000) (h1 : m ≤ k) (h2 : k ≤ n) : iw (nI k) (nI m) (nI n) = true := by
  unfold iw
  simp only [Bool.and_eq_true, Bool.not_eq_true', decide_eq_false_iff_not]
  rw [nI_ltI (by omega) (by omega), nI_ltI (by omega) (by omega)]
  omega
theorem idx8 (p q : Nat) : 8 * nI p + nI q = nI (8 * p + q) := by
  show nI 8 * nI p + nI q = _
  rw [pk_mul, nI_add]
theorem d_meet (h : ig_R np ns t a la b lb) (x1 x2 x3 x4 : Int32) : ∃ (k : Int32) (a' b' : ig_M),
    (∀ post : Int32 → ig_M → Int64 → Int64 → Prop, post k a' la lo → wp_L_meet a la lo x1 x2 x3 x4 post) ∧ (∀ post : ig_M → Int64 → Prop, post b' lb → wp_X6_meet b lb x1 x2 x3 x4 post) ∧ b' 97 0 = k ∧ ig_RR a' la b' lb := by
  have hR := h
  obtain ⟨h1, h2, h3, h4, h5, h6⟩ := h
  obtain ⟨⟨hnp, hns, ht⟩, e1, e2, e3, e4, e5, e6, e7, rfl⟩ := h1
  obtain ⟨f1, f2, f3, f4, f5, f6, f7, f8⟩ := h5
  by_cases g1 : (iw x1 0 (nI np - 1) && iw x2 0 (nI np - 1)) = true
  · simp only [Bool.and_eq_true] at g1
    obtain ⟨g1, g2⟩ := g1
    obtain ⟨p, hp, rfl⟩ := iw_nat (by omega) g1
    obtain ⟨q, hq, rfl⟩ := iw_nat (by omega) g2
    by_cases g3 : p = q ∨ (iw x3 1 20 && iw x4 1 20) = false
    · refine ⟨2, a, ig_up b 97 0 2, fun post hpost => ?_, fun post hpost => ?_, thr_at _ _, _, _, _, R_thr hR 2⟩
      · by_cases g4 : p = q
        · simp [wp_L_meet, wp_X5_meet, w_needPhase, e1, g1, g2, g4, hpost]
        · have g5 := g3.resolve_left g4
          have g6 : ¬ nI p = nI q := fun z => g4 ((nI_eq (by omega) (by omega)).mp z)
          cases u1 : iw x3 1 20 <;> cases u2 : iw x4 1 20 <;> simp [u1, u2] at g5 <;> simp [wp_L_meet, wp_X5_meet, w_needPhase, w_with, e1, g1, g2, g6, u1, u2, hpost]
      · by_cases g4 : p = q
        · simp [wp_X6_meet, wp_X6_meet_21, wp_X6_meet_53, wp_X6_meet_54, wp_X6_meet_96, w_isPhase, w_in, w_well, e2, g1, g2, g4, hpost]
        · have g5 := g3.resolve_left g4
          have g6 : ¬ nI p = nI q := fun z => g4 ((nI_eq (by omega) (by omega)).mp z)
          cases u1 : iw x3 1 20 <;> cases u2 : iw x4 1 20 <;> simp [u1, u2] at g5 <;> simp [wp_X6_meet, wp_X6_meet_21, wp_X6_meet_53, wp_X6_meet_54, wp_X6_meet_96, w_isPhase, w_in, w_well, e2, g1, g2, g6, u1, u2, hpost]
    · have g4 : ¬ p = q := fun z => g3 (Or.inl z)
      have g5 : iw x3 1 20 = true ∧ iw x4 1 20 = true := by
        cases u1 : iw x3 1 20 <;> cases u2 : iw x4 1 20 <;> simp [u1, u2] at g3 ⊢
      obtain ⟨u1, u2⟩ := g5
      have g6 : ¬ nI p = nI q := fun z => g4 ((nI_eq (by omega) (by omega)).mp z)
      by_cases g7 : a 23 4 = 0
      · have g7' : b 97 1 = 0 := by rw [← f2]; exact g7
        by_cases g8 : ∃ s, s < ns ∧ ig_both (a 20) (nI p) (nI q) s
        · refine ⟨3, a, ig_up b 97 0 3, fun post hpost => ?_, fun post hpost => ?_, thr_at _ _, _, _, _, R_thr hR 3⟩
          · simp only [wp_L_meet, wp_X5_meet, w_needPhase, w_with, e1, g1, g2, g6, g7, u1, u2, cond_true, true_implies, not_false_eq_true, false_implies, and_true, true_and, not_true_eq_false, ne10]
            exact w_hswb hns e3 _ _ _ (fun _ => ⟨fun z => absurd z (by decide), fun _ => Or.inr (Or.inr hpost)⟩) (fun z => absurd g8 z)
          · simp only [wp_X6_meet, wp_X6_meet_21, wp_X6_meet_53, wp_X6_meet_54, wp_X6_meet_91, w_isPhase, w_in, e2, g1, g2, g6, g7', u1, u2, cond_true, true_implies, not_false_eq_true, false_implies, and_true, true_and, not_true_eq_false]
            have k1 : ¬ (1 : Int32) = 0 := by decide
            simp only [k1, not_false_eq_true, true_implies, false_implies, and_true, true_and]
            refine w_areInOne hns e4 _ _ _ (fun _ => ⟨fun z => absurd z (by decide), fun _ => ?_⟩) (fun z => absurd ((both_eq h4 hns _ _).mpr g8) z)
            simp [wp_X6_meet_96, w_well, hpost]
        · obtain ⟨n3, q31, q32, rfl⟩ := iw_le (m := 1) (n := 20) (by omega) (by omega) u1
          obtain ⟨n4, q41, q42, rfl⟩ := iw_le (m := 1) (n := 20) (by omega) (by omega) u2
          refine ⟨0, ig_up (ig_up a (12 + p) q (nI n3)) (12 + q) p (nI n4), ig_up (ig_up (ig_up b 97 0 0) 101 (8 * p + q) (nI n3)) 101 (8 * q + p) (nI n4), fun post hpost => ?_, fun post hpost => ?_, ?_, ?_⟩
          · simp only [wp_L_meet, wp_X5_meet, w_needPhase, w_with, e1, g1, g2, g6, g7, u1, u2, cond_true, true_implies, not_false_eq_true, false_implies, and_true, true_and, not_true_eq_false, ne10]
            refine w_hswb hns e3 _ _ _ (fun z => absurd z g8) (fun _ => ⟨fun _ => ?_, fun z => absurd rfl z⟩)
            simpa [wp_X3_setBetween, vp_in_nI (show p < 8 by omega) (by omega), vp_in_nI (show q < 8 by omega) (by omega), nI_clamp (show p < 2 ^ 31 by omega), nI_clamp (show q < 2 ^ 31 by omega)] using hpost
          · simp only [wp_X6_meet, wp_X6_meet_21, wp_X6_meet_53, wp_X6_meet_54, wp_X6_meet_91, w_isPhase, w_in, e2, g1, g2, g6, g7', u1, u2, cond_true, true_implies, not_false_eq_true, false_implies, and_true, true_and, not_true_eq_false]
            have k1 : ¬ (1 : Int32) = 0 := by decide
            simp only [k1, not_false_eq_true, true_implies, false_implies, and_true, true_and]
            refine w_areInOne hns e4 _ _ _ (fun z => absurd ((both_eq h4 hns _ _).mp z) g8) (fun _ => ⟨fun _ => ?_, fun z => absurd rfl z⟩)
            simpa [wp_X6_meet_96, w_well, idx8, vp_in_nI (show 8 * p + q < 64 by omega) (by omega), vp_in_nI (show 8 * q + p < 64 by omega) (by omega), nI_clamp (show 8 * p + q < 2 ^ 31 by omega), nI_clamp (show 8 * q + p < 2 ^ 31 by omega)] using hpost
          · simp [up_app]
          · refine ⟨np, ns, t, ⟨⟨hnp, hns, ht⟩, ?_⟩, ?_, ?_, ?_, ?_, ?_⟩
            · simp [up_app, show ¬ 1 = 12 + p by omega, show ¬ 1 = 12 + q by omega, show ¬ 23 = 12 + p by omega, show ¬ 23 = 12 + q by omega, e1, e2, e3, e4, e5, e6, e7]
            · intro r hr
              simpa [ig_ph, up_app, show ¬ 3 + r = 12 + p by omega, show ¬ 3 + r = 12 + q by omega] using h2 r hr
            · intro r v hr hv
              have h0 := h3 r v hr hv
              simp only [up_app]
              have n3b : (0 : Int32) ≤ nI n3 ∧ nI n3 ≤ 20 := ⟨nI_pos' (by omega), nI_le (a := n3) (b := 20) q32 (by omega)⟩
              have n4b : (0 : Int32) ≤ nI n4 ∧ nI n4 ≤ 20 := ⟨nI_pos' (by omega), nI_le (a := n4) (b := 20) q42 (by omega)⟩
              by_cases c1 : r = q ∧ v = p
              · obtain ⟨rfl, rfl⟩ := c1
                simp [n4b]
              · by_cases c2 : r = p ∧ v = q
                · obtain ⟨rfl, rfl⟩ := c2
                  have d1 : ¬ 12 + r = 12 + v := by omega
                  have d2 : ¬ 8 * r + v = 8 * v + r := by omega
                  simp [d1, d2, g4, n3b]
                · have d1 : ¬ 8 * r + v = 8 * q + p := by omega
                  have d2 : ¬ 8 * r + v = 8 * p + q := by omega
                  have d3 : (if 12 + r = 12 + q then (if v = p then nI n4 else if 12 + q = 12 + p then if v = q then nI n3 else a (12 + p) v else a (12 + q) v) else if 12 + r = 12 + p then if v = q then nI n3 else a (12 + p) v else a (12 + r) v) = a (12 + r) v := by
                    by_cases y1 : r = q
                    · subst y1
                      have y2 : ¬ v = p := fun z => c1 ⟨rfl, z⟩
                      by_cases y3 : r = p
                      · subst y3
                        have y4 : ¬ v = r := y2
                        simp [y4]
                      · simp [y2, y3]
                    · by_cases y4 : r = p
                      · subst y4
                        have y5 : ¬ v = q := fun z => c2 ⟨rfl, z⟩
                        simp [y1, y5]
                      · simp [y1, y4]
                  rw [d3]
                  simpa [d1, d2] using h0
            · intro s hs
              simpa [up_app, show ¬ 20 = 12 + p by omega, show ¬ 20 = 12 + q by omega] using h4 s hs
            · simpa [ig_R5, ig_wk, up_app, show ¬ 23 = 12 + p by omega, show ¬ 23 = 12 + q by omega] using (⟨f1, f2, f3, f4, f5, f6, f7, f8⟩ : ig_R5 np ns (a 23) (b 97))
            · intro u hu
              simpa [up_app, show ¬ 22 = 12 + p by omega, show ¬ 22 = 12 + q by omega] using h6 u hu
      · have g7' : ¬ b 97 1 = 0 := by rw [← f2]; exact g7
        refine ⟨3, a, ig_up b 97 0 3, fun post hpost => ?_, fun post hpost => ?_, thr_at _ _, _, _, _, R_thr hR 3⟩
        · simp [wp_L_meet, wp_X5_meet, w_needPhase, w_with, e1, g1, g2, g6, g7, u1, u2, hpost]
        · simp [wp_X6_meet, wp_X6_meet_21, wp_X6_meet_54, wp_X6_meet_91, wp_X6_meet_96, w_isPhase, w_in, w_well, e2, g1, g2, g6, g7', u1, u2, hpost]
  · refine ⟨1, a, ig_up b 97 0 1, fun post hpost => ?_, fun post hpost => ?_, thr_at _ _, _, _, _, R_thr hR 1⟩
    · cases u1 : iw x1 0 (nI np - 1) <;> cases u2 : iw x2 0 (nI np - 1) <;> simp [u1, u2] at g1 <;> simp [wp_L_meet, wp_X5_meet, w_needPhase, e1, u1, u2, hpost]
    · have k : wp_X6_meet_21 post b la x1 x2 x3 x4 0 := by
        have k2 : wp_X6_meet_54 post b la x1 x2 x3 x4 0 0 := by simp [wp_X6_meet_54, wp_X6_meet_96, w_well, hpost]
        have k3 : wp_X6_meet_54 post b la x1 x2 x3 x4 0 1 := by simp [wp_X6_meet_54, wp_X6_meet_96, w_well, hpost]
        cases v1 : iw x3 1 20 <;> cases v2 : iw x4 1 20 <;> simp [wp_X6_meet_21, wp_X6_meet_53, w_in, v1, v2, k2, k3]
      cases u1 : iw x1 0 (nI np - 1) <;> cases u2 : iw x2 0 (nI np - 1) <;> simp [u1, u2] at g1 <;> simp [wp_X6_meet, wp_X6_meet_20, w_isPhase, e2, u1, u2, k]
end MEET
