/-! ===== how the class's memory a and the model's memory b stand to each other ===== -/
/-- one phase: its row and the model's rows at p -/
def ig_ph (r : Nat → Int32) (b : ig_M) (p : Nat) : Prop :=
  (r 0 = b 98 p ∧ r 1 = b 99 p ∧ r 2 = b 100 p ∧ r 3 = b 103 p ∧ r 4 = b 105 p ∧ r 5 = b 106 p ∧ r 6 = b 107 p ∧ r 7 = b 108 p ∧ r 8 = b 109 p ∧ r 9 = b 104 p ∧ r 10 = b 110 p)
  ∧ (∀ c : Nat, c < 3 → b 111 (3 * p + c) = cond (hb (r 11) (nI c)) 1 0)
  ∧ (r 3 = 0 ∨ r 3 = 1 ∨ r 3 = 2) ∧ (0 ≤ r 6 ∧ r 6 ≤ 1000) ∧ (r 7 ≤ r 8 ∧ 0 ≤ r 8) ∧ (r 10 = 0 ∨ r 10 = 1) ∧ (0 ≤ r 0 ∧ r 0 ≤ 30)
def ig_R1 (np ns t : Nat) (a : ig_M) (la : Int64) (b : ig_M) (lb : Int64) : Prop :=
  (np ≤ 8 ∧ ns ≤ 6 ∧ t ≤ 5000) ∧ a 1 1 = nI np ∧ b 97 2 = nI np ∧ a 1 4 = nI ns ∧ b 97 7 = nI ns ∧ a 23 6 = nI t ∧ b 97 11 = nI t ∧ a 23 7 = b 97 22 ∧ la = lb
def ig_R2 (a b : ig_M) : Prop := ∀ p : Nat, p < 8 → ig_ph (a (3 + p)) b p
def ig_R3 (a b : ig_M) : Prop := ∀ p q : Nat, p < 8 → q < 8 → a (12 + p) q = b 101 (8 * p + q) ∧ 0 ≤ a (12 + p) q ∧ a (12 + p) q ≤ 20
def ig_R4 (a b : ig_M) : Prop := ∀ s : Nat, s < 6 → a 20 s = b 102 s
def ig_wk (r : Nat → Int32) : Prop := r 2 = 1 ∨ r 2 = 2
/-- the lights' rows r, m -/
def ig_R5 (np ns : Nat) (r m : Nat → Int32) : Prop :=
  r 2 = m 9 ∧ r 4 = m 1 ∧ r 5 = m 21 ∧ (r 2 = 0 ∨ r 2 = 1 ∨ r 2 = 2 ∨ r 2 = 3) ∧ (r 4 = 0 ∨ r 4 = 1) ∧ (r 5 = -1 ∨ ∃ p : Nat, p < np ∧ r 5 = nI p)
  ∧ (∃ s : Nat, s < 6 ∧ m 10 = nI s ∧ (ig_wk r → s < ns ∧ r 3 = nI s)) ∧ (¬ ig_wk r → r 3 = -1)
def ig_R6 (t : Nat) (a b : ig_M) : Prop := ∀ u : Nat, u < t → a 22 u = b 112 u
def ig_R (np ns t : Nat) (a : ig_M) (la : Int64) (b : ig_M) (lb : Int64) : Prop := ig_R1 np ns t a la b lb ∧ ig_R2 a b ∧ ig_R3 a b ∧ ig_R4 a b ∧ ig_R5 np ns (a 23) (b 97) ∧ ig_R6 t a b
def ig_RR (a : ig_M) (la : Int64) (b : ig_M) (lb : Int64) : Prop := ∃ np ns t : Nat, ig_R np ns t a la b lb
theorem R_thr {np ns t : Nat} {a : ig_M} {la : Int64} {b : ig_M} {lb : Int64} (h : ig_R np ns t a la b lb) (v : Int32) : ig_R np ns t a la (ig_up b 97 0 v) lb := by
  obtain ⟨h1, h2, h3, h4, h5, h6⟩ := h
  refine ⟨by simpa [ig_R1, up_app] using h1, ?_, ?_, ?_, by simpa [ig_R5, up_app] using h5, ?_⟩
  · intro p hp
    simpa [ig_ph, up_app] using h2 p hp
  · intro p q hp hq
    simpa [up_app] using h3 p q hp hq
  · intro s hs
    simpa [up_app] using h4 s hs
  · intro u hu
    simpa [up_app] using h6 u hu
theorem thr_at (b : ig_M) (v : Int32) : ig_up b 97 0 v 97 0 = v := by simp [up_app]
/-! ===== the cases that the law tells, one by one: what a call comes to on both sides ===== -/
section CASES
variable {np ns t : Nat} {a : ig_M} {la : Int64} {b : ig_M} {lb lo : Int64}
theorem d_phase (h : ig_R np ns t a la b lb) (x1 x2 x3 : Int32) : ∃ (k : Int32) (a' : ig_M) (lo' : Int64) (r : Int32) (b' : ig_M),
    (∀ post : Int32 → ig_M → Int64 → Int64 → Prop, post k a' la lo' → wp_L_phase a la lo x1 x2 x3 post) ∧ (∀ post : Int32 → ig_M → Int64 → Prop, post r b' lb → wp_X6_phase b lb x1 x2 x3 post) ∧ b' 97 0 = k ∧ (k = 0 → lo' = r.toInt64) ∧ ig_RR a' la b' lb := by
  have hR := h
  obtain ⟨h1, h2, h3, h4, h5, h6⟩ := h
  obtain ⟨⟨hnp, hns, ht⟩, e1, e2, e3, e4, e5, e6, e7, rfl⟩ := h1
  obtain ⟨f1, f2, f3, f4, f5, f6, f7, f8⟩ := h5
  have bad : (iw x1 1 30 && (iw x2 x1 120 && iw x3 0 10)) = false → (∀ post : Int32 → ig_M → Int64 → Int64 → Prop, post 1 a la lo → wp_L_phase a la lo x1 x2 x3 post) ∧ (∀ post : Int32 → ig_M → Int64 → Prop, post 0 (ig_up b 97 0 1) la → wp_X6_phase b la x1 x2 x3 post) := by
    intro hb
    refine ⟨fun post hp => ?_, fun post hp => ?_⟩
    · cases g1 : iw x1 1 30 <;> cases g2 : iw x2 x1 120 <;> cases g3 : iw x3 0 10 <;> simp [g1, g2, g3] at hb <;> simp [wp_L_phase, wp_X5_phase, w_with, g1, g2, g3, hp]
    · cases g1 : iw x1 1 30 <;> cases g2 : iw x2 x1 120 <;> cases g3 : iw x3 0 10 <;> simp [g1, g2, g3] at hb <;> simp [wp_X6_phase, wp_X6_phase_34, wp_X6_phase_35, wp_X6_phase_68, w_in, w_well, g1, g2, g3, hp]
  by_cases hb : (iw x1 1 30 && (iw x2 x1 120 && iw x3 0 10)) = true
  · simp only [Bool.and_eq_true] at hb
    obtain ⟨g1, g2, g3⟩ := hb
    by_cases g4 : a 23 4 = 0
    · by_cases g5 : np < 8
      · refine ⟨0, ig_up (ig_up (ig_up (ig_up a (3 + np) 0 x1) (3 + np) 1 x2) (3 + np) 2 x3) 1 1 (nI (np + 1)), (nI np).toInt64, nI np, ig_up (ig_up (ig_up (ig_up (ig_up b 97 0 0) 98 np x1) 99 np x2) 100 np x3) 97 2 (nI (np + 1)), fun post hp => ?_, fun post hp => ?_, ?_, fun _ => rfl, ?_⟩
        · have e8 : nI np < 8 := nI_lt (a := np) (b := 8) g5 (by omega)
          simpa [wp_L_phase, wp_X5_phase, w_with, g1, g2, g3, g4, e1, e8, wp_X3_addPhase, vp_in_nI g5, nI_clamp (show np < 2 ^ 31 by omega), up_app, show ¬ 1 = 3 + np by omega, nI_1] using hp
        · have e8 : ¬ nI np = 8 := fun q => by have := (nI_eq (a := np) (b := 8) (by omega) (by omega)).mp q; omega
          have g4' : b 97 1 = 0 := by rw [← f2]; exact g4
          have e9 : nI (np + 1) - 1 = nI np := pk_sub (a := np + 1) (b := 1) (by omega)
          simpa [wp_X6_phase, wp_X6_phase_35, wp_X6_phase_68, w_in, w_well, g1, g2, g3, g4', e2, e8, vp_in_nI g5, nI_clamp (show np < 2 ^ 31 by omega), up_app, nI_1, e9] using hp
        · simp [up_app]
        · refine ⟨np + 1, ns, t, ⟨⟨by omega, hns, ht⟩, ?_⟩, ?_, ?_, ?_, ?_, ?_⟩
          · simp [up_app, show ¬ 1 = 3 + np by omega, show ¬ 23 = 3 + np by omega, e3, e4, e5, e6, e7]
          · intro p hp
            have hph := h2 p hp
            by_cases hpn : p = np
            · subst hpn
              obtain ⟨hA, hB, hC⟩ := hph
              obtain ⟨hC1, hC2, hC3, hC4, _⟩ := hC
              have hx1 : (0 : Int32) ≤ x1 ∧ x1 ≤ 30 := by
                unfold iw at g1
                simp only [Bool.and_eq_true, Bool.not_eq_true', decide_eq_false_iff_not, Int32.lt_iff_toInt_lt] at g1
                rw [Int32.le_iff_toInt_le, Int32.le_iff_toInt_le]
                have z0 : (0 : Int32).toInt = 0 := by decide
                have z1 : (1 : Int32).toInt = 1 := by decide
                omega
              refine ⟨?_, ?_, ?_, ?_, ?_, ?_, ?_⟩
              · simpa [up_app, show ¬ 3 + p = 1 by omega] using hA.2.2.2
              · simpa [up_app, show ¬ 3 + p = 1 by omega] using hB
              · simpa [up_app, show ¬ 3 + p = 1 by omega] using hC1
              · simpa [up_app, show ¬ 3 + p = 1 by omega] using hC2
              · simpa [up_app, show ¬ 3 + p = 1 by omega] using hC3
              · simpa [up_app, show ¬ 3 + p = 1 by omega] using hC4
              · simpa [up_app, show ¬ 3 + p = 1 by omega] using hx1
            · simpa [ig_ph, up_app, show ¬ 3 + p = 1 by omega, show ¬ 3 + p = 3 + np by omega, hpn] using hph
          · intro p q hp hq
            simpa [up_app, show ¬ 12 + p = 1 by omega, show ¬ 12 + p = 3 + np by omega] using h3 p q hp hq
          · intro s hs
            simpa [up_app, show ¬ 20 = 3 + np by omega] using h4 s hs
          · have f6' : a 23 5 = -1 ∨ ∃ p : Nat, p < np + 1 ∧ a 23 5 = nI p := f6.elim Or.inl (fun ⟨p, q1, q2⟩ => Or.inr ⟨p, by omega, q2⟩)
            simpa [ig_R5, ig_wk, up_app, show ¬ 23 = 3 + np by omega] using (⟨f1, f2, f3, f4, f5, f6', f7, f8⟩ : ig_R5 (np + 1) ns (a 23) (b 97))
          · intro u hu
            simpa [up_app, show ¬ 22 = 3 + np by omega] using h6 u hu
      · have e9 : np = 8 := by omega
        subst e9
        refine ⟨2, a, lo, 0, ig_up b 97 0 2, fun post hp => ?_, fun post hp => ?_, thr_at _ _, fun q => absurd q (by decide), _, _, _, R_thr hR 2⟩
        · have e8 : ¬ nI 8 < 8 := by decide
          simp [wp_L_phase, wp_X5_phase, w_with, g1, g2, g3, g4, e1, e8, hp]
        · have e8 : nI 8 = 8 := rfl
          have g4' : b 97 1 = 0 := by rw [← f2]; exact g4
          simp [wp_X6_phase, wp_X6_phase_35, wp_X6_phase_63, wp_X6_phase_68, w_in, w_well, g1, g2, g3, g4', e2, e8, hp]
    · refine ⟨2, a, lo, 0, ig_up b 97 0 2, fun post hp => ?_, fun post hp => ?_, thr_at _ _, fun q => absurd q (by decide), _, _, _, R_thr hR 2⟩
      · simp [wp_L_phase, wp_X5_phase, w_with, g1, g2, g3, g4, hp]
      · have g4' : ¬ b 97 1 = 0 := by rw [← f2]; exact g4
        simp [wp_X6_phase, wp_X6_phase_35, wp_X6_phase_63, wp_X6_phase_68, w_in, w_well, g1, g2, g3, g4', hp]
  · obtain ⟨q1, q2⟩ := bad (by simpa using hb)
    exact ⟨1, a, lo, 0, ig_up b 97 0 1, q1, q2, thr_at _ _, fun q => absurd q (by decide), _, _, _, R_thr hR 1⟩
end CASES
