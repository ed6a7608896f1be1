/-! ===== lamp, ofPhase, of, seen, change, delayEach ===== -/
section ZREAD
variable {np ns t w : Nat} {a a' : ig_M} {la : Int64} {b : ig_M}
theorem lamp_at {t : Nat} (ht : t ≤ 5000) {x : Int32} (h : iw x 0 (nI t - 1) = true) : ∃ u : Nat, u < t ∧ x = nI u := by
  rcases Nat.eq_zero_or_pos t with rfl | h0
  · obtain ⟨u, hu, _⟩ := iw_nat (n := 0) (by omega) h
    exact absurd hu (Nat.not_lt_zero u)
  · rw [show nI t - 1 = nI (t - 1) from pk_sub (a := t) (b := 1) (by omega)] at h
    obtain ⟨u, _, hu, e⟩ := iw_le (m := 0) (by omega) (by omega) h
    exact ⟨u, by omega, e⟩
theorem w_lampOk (h : ig_Q np ns t w a la b la) {p u : Nat} (hp : p < np) (hu : u < t) (post : Int32 → Prop) (px : Nat → Prop) (hpost : post (zLg a u p)) : wp_X5_lamp a la (nI p) (nI u) post px := by
  have hnp := Q_np h
  have ht : t ≤ 5000 := h.1.1.2.2
  have e1 : a 1 1 = nI np := Q_a1 h
  have e5 : a 23 6 = nI t := h.1.2.2.2.2.2.1
  have g1 := iw_of_nat (p := p) (n := np) (by omega) hp
  have g2 : iw (nI u) 0 (nI t - 1) = true := by
    rw [show nI t - 1 = nI (t - 1) from pk_sub (a := t) (b := 1) (by omega)]
    exact iw_k (m := 0) (n := t - 1) (by omega) (by omega) (by omega)
  have g3 : iw (nI u) 0 (5000 - 1) = true := iw_k (m := 0) (n := 4999) (by omega) (by omega) (by omega)
  unfold zLg at hpost
  simp only [wp_X5_lamp, w_needPhase, w_with, e1, e5, g1, g2, g3, cond_true, wp_X1_shown, wp_X1_colourIn, nI_clamp (show u < 2 ^ 31 by omega)]
  simpa [vp_in_nI (show u < 5000 by omega) (by omega)] using hpost
theorem d_lamp (hI : zI a la) (x1 x2 : Int32) : zOut (wp_L_lamp a la x1 x2) a la := by
  have hI0 := hI
  obtain ⟨np, ns, t, b, h4, h3, h, hM⟩ := hI
  have hnp := Q_np h.1
  have ht : t ≤ 5000 := h.1.1.1.2.2
  have e1 : a 1 1 = nI np := Q_a1 h.1
  have e5 : a 23 6 = nI t := h.1.1.2.2.2.2.2.1
  cases g1 : iw x1 0 (nI np - 1)
  · refine zThrow hI0 (fun post hp => ?_)
    simp [wp_L_lamp, wp_X5_lamp, w_needPhase, e1, g1, hp]
  · cases g2 : iw x2 0 (nI t - 1)
    · refine zThrow hI0 (fun post hp => ?_)
      simp [wp_L_lamp, wp_X5_lamp, w_needPhase, w_with, e1, e5, g1, g2, hp]
    · obtain ⟨p, hp, rfl⟩ := iw_nat (by omega) g1
      obtain ⟨u, hu, rfl⟩ := lamp_at ht g2
      exact zRead hI0 (zLg a u p) (fun post hpost => w_lampOk h.1 hp hu _ _ hpost)
/-- what a phase tells -/
def tlA (r : Nat → Int32) (d : Bool) (x : Int32) : Int32 := if x = 0 then r 3 else if x = 1 then (if r 3 = 1 then r 4 else 0) else if x = 2 then (if r 3 = 1 then r 5 else 0) else if x = 3 then r 6 else if x = 4 then r 7 else if x = 5 then r 8 else cond d 1 0
theorem w_ofPhaseOk (h : ig_Q np ns t w a la b la) {p : Nat} (hp : p < np) {x : Int32} (hx : iw x 0 6 = true) (post : Int32 → Prop) (px : Nat → Prop) (hpost : post (tlA (a (3 + p)) (dmB b p) x)) : wp_X5_ofPhase a la (nI p) x post px := by
  have hnp := Q_np h
  have e1 : a 1 1 = nI np := Q_a1 h
  have g1 := iw_of_nat (p := p) (n := np) (by omega) hp
  have hph := h.2.1 p (by omega)
  simp only [wp_X5_ofPhase, w_needPhase, w_with, e1, g1, hx, cond_true, nI_clamp (show p < 2 ^ 31 by omega), vp_in_nI (show p < 8 by omega) (by omega), true_and, wp_X2_tell, w_dmA hph]
  unfold tlA at hpost
  by_cases c0 : x = 0
  · subst c0; simpa using hpost
  by_cases c1 : x = 1
  · subst c1; by_cases c : a (3 + p) 3 = 1 <;> simpa [c] using hpost
  by_cases c2 : x = 2
  · subst c2; by_cases c : a (3 + p) 3 = 1 <;> simpa [c] using hpost
  by_cases c3 : x = 3
  · subst c3; simpa using hpost
  by_cases c4 : x = 4
  · subst c4; simpa using hpost
  by_cases c5 : x = 5
  · subst c5; simpa using hpost
  cases g : dmB b p <;> simpa [c0, c1, c2, c3, c4, c5, g] using hpost
theorem d_ofPhase (hI : zI a la) (x1 x2 : Int32) : zOut (wp_L_ofPhase a la x1 x2) a la := by
  have hI0 := hI
  obtain ⟨np, ns, t, b, h4, h3, h, hM⟩ := hI
  have hnp := Q_np h.1
  have e1 : a 1 1 = nI np := Q_a1 h.1
  cases g1 : iw x1 0 (nI np - 1)
  · refine zThrow hI0 (fun post hp => ?_)
    simp [wp_L_ofPhase, wp_X5_ofPhase, w_needPhase, e1, g1, hp]
  · cases g2 : iw x2 0 6
    · refine zThrow hI0 (fun post hp => ?_)
      simp [wp_L_ofPhase, wp_X5_ofPhase, w_needPhase, w_with, e1, g1, g2, hp]
    · obtain ⟨p, hp, rfl⟩ := iw_nat (by omega) g1
      exact zRead hI0 _ (fun post hpost => w_ofPhaseOk h.1 hp g2 _ _ hpost)
def tlL (r : Nat → Int32) (x : Int32) : Int32 := if x = 0 then r 2 else if x = 1 then r 3 else if x = 2 then r 6 else if x = 3 then r 5 else r 7
theorem w_ofOk {x : Int32} (hx : iw x 0 4 = true) (post : Int32 → Prop) (px : Nat → Prop) (hpost : post (tlL (a 23) x)) : wp_X5_of a la x post px := by
  simp only [wp_X5_of, w_with, hx, cond_true, wp_X0_tell]
  unfold tlL at hpost
  by_cases c0 : x = 0
  · subst c0; simpa using hpost
  by_cases c1 : x = 1
  · subst c1; simpa using hpost
  by_cases c2 : x = 2
  · subst c2; simpa using hpost
  by_cases c3 : x = 3
  · subst c3; simpa using hpost
  simpa [c0, c1, c2, c3] using hpost
theorem d_of (hI : zI a la) (x1 : Int32) : zOut (wp_L_of a la x1) a la := by
  cases g1 : iw x1 0 4
  · refine zThrow hI (fun post hp => ?_)
    simp [wp_L_of, wp_X5_of, w_with, g1, hp]
  · exact zRead hI _ (fun post hpost => w_ofOk g1 _ _ hpost)
/-! seen -/
def snV (b : ig_M) (t : Nat) (x1 x2 : Int32) : Int32 := (foldN (snF b x1 x2) t (-1, -1)).1
theorem w_seenOk (h : ig_Q np ns t t a la b la) {p q : Nat} (hp : p < np) (hq : q < np) (hpq : ¬ p = q) (post : Int32 → Prop) (px : Nat → Prop) (hpost : post (snV b t (nI p) (nI q))) : wp_X5_seen a la (nI p) (nI q) post px := by
  have hnp := Q_np h
  have e1 : a 1 1 = nI np := Q_a1 h
  have g1 := iw_of_nat (p := p) (n := np) (by omega) hp
  have g2 := iw_of_nat (p := q) (n := np) (by omega) hq
  simp only [wp_X5_seen, w_needPhase, e1, g1, g2, cond_true]
  exact ⟨fun _ => w_seenA (w := t) h (Nat.le_refl _) _ _ _ hpost, fun z => absurd ((nI_eq (by omega) (by omega)).mp z) hpq⟩
theorem d_seen (hI : zI a la) (x1 x2 : Int32) : zOut (wp_L_seen a la x1 x2) a la := by
  have hI0 := hI
  obtain ⟨np, ns, t, b, h4, h3, h, hM⟩ := hI
  have hnp := Q_np h.1
  have e1 : a 1 1 = nI np := Q_a1 h.1
  cases g1 : iw x1 0 (nI np - 1)
  · refine zThrow hI0 (fun post hp => ?_)
    simp [wp_L_seen, wp_X5_seen, w_needPhase, e1, g1, hp]
  · cases g2 : iw x2 0 (nI np - 1)
    · refine zThrow hI0 (fun post hp => ?_)
      simp [wp_L_seen, wp_X5_seen, w_needPhase, e1, g1, g2, hp]
    · obtain ⟨p, hp, rfl⟩ := iw_nat (by omega) g1
      obtain ⟨q, hq, rfl⟩ := iw_nat (by omega) g2
      by_cases g3 : p = q
      · refine zThrow hI0 (fun post hp => ?_)
        subst g3
        simp [wp_L_seen, wp_X5_seen, w_needPhase, e1, g1, hp]
      · exact zRead hI0 _ (fun post hpost => w_seenOk h.1 hp hq g3 _ _ hpost)
/-- what was seen between two that meet -/
theorem seen_safe (h : zQ np ns t t a la b) {p q : Nat} (hp : p < 8) (hq : q < 8) (hm : 0 < a (12 + p) q) : snV b t (nI p) (nI q) = -1 ∨ ∃ m : Nat, 1 ≤ m ∧ m ≤ 5000 ∧ snV b t (nI p) (nI q) = nI m := by
  have ht : t ≤ 5000 := h.1.1.1.2.2
  have hlog := h.1.2.2.2.2.2
  have hL := h.2.2.1.2.2.2.2.2.2.1 p q hp hq hm
  have sg : ∀ x k, k < t → x < 8 → snG b (nI x) k = true → zLg a k x = 1 := fun x k hk hx hg => by
    unfold snG at hg
    unfold zLg
    rw [hlog k hk]
    exact of_decide_eq_true hg
  have key : ∀ k, k ≤ t → ((foldN (snF b (nI p) (nI q)) k (-1, -1)).2 = -1 ∨ ∃ u, u < k ∧ (foldN (snF b (nI p) (nI q)) k (-1, -1)).2 = nI u ∧ snG b (nI p) u = true) ∧ ((foldN (snF b (nI p) (nI q)) k (-1, -1)).1 = -1 ∨ ∃ m : Nat, 1 ≤ m ∧ m ≤ 5000 ∧ (foldN (snF b (nI p) (nI q)) k (-1, -1)).1 = nI m) := by
    intro k
    induction k with
    | zero => exact fun _ => ⟨Or.inl rfl, Or.inl rfl⟩
    | succ k ih =>
      intro hk
      have ih := ih (by omega)
      have e : foldN (snF b (nI p) (nI q)) (k + 1) (-1, -1) = snF b (nI p) (nI q) k (foldN (snF b (nI p) (nI q)) k (-1, -1)) := rfl
      rw [e]
      generalize foldN (snF b (nI p) (nI q)) k (-1, -1) = v at ih ⊢
      obtain ⟨v1, v2⟩ := v
      obtain ⟨i2, i1⟩ := ih
      refine ⟨?_, ?_⟩
      · show (if snG b (nI p) k = true then nI k else v2) = -1 ∨ _
        by_cases c : snG b (nI p) k = true
        · right
          exact ⟨k, by omega, if_pos c, c⟩
        · rcases i2 with i2 | ⟨u, u1, u2, u3⟩
          · left; rw [if_neg c]; exact i2
          · right; exact ⟨u, by omega, (if_neg c).trans u2, u3⟩
      · show (if snG b (nI q) k = true ∧ snW b (nI q) k = false ∧ ¬ v2 = -1 then (if v1 = -1 then (nI k - v2) - 1 else if (nI k - v2) - 1 < v1 then (nI k - v2) - 1 else v1) else v1) = -1 ∨ ∃ m : Nat, 1 ≤ m ∧ m ≤ 5000 ∧ (if snG b (nI q) k = true ∧ snW b (nI q) k = false ∧ ¬ v2 = -1 then (if v1 = -1 then (nI k - v2) - 1 else if (nI k - v2) - 1 < v1 then (nI k - v2) - 1 else v1) else v1) = nI m
        by_cases c : snG b (nI q) k = true ∧ snW b (nI q) k = false ∧ ¬ v2 = -1
        · rw [if_pos c]
          obtain ⟨u, u1, u2, u3⟩ := i2.resolve_left c.2.2
          have hu2 := hL u k u1 (by omega) (sg p u (by omega) hp u3) (sg q k (by omega) hq c.1)
          have em : (nI k - v2) - 1 = nI (k - u - 1) := by
            have u2 : v2 = nI u := u2
            rw [u2, pk_sub (a := k) (b := u) (by omega)]
            exact pk_sub (a := k - u) (b := 1) (by omega)
          rw [em]
          right
          by_cases d : v1 = -1
          · rw [if_pos d]; exact ⟨k - u - 1, by omega, by omega, rfl⟩
          · rw [if_neg d]
            by_cases f : nI (k - u - 1) < v1
            · rw [if_pos f]; exact ⟨k - u - 1, by omega, by omega, rfl⟩
            · rw [if_neg f]; exact i1.resolve_left d
        · rw [if_neg c]; exact i1
  exact (key t (Nat.le_refl _)).2
/-! change -/
theorem w_changeOk (h : ig_Q np ns t w a la b la) {i j : Nat} (hi : i < ns) (hj : j < ns) (post : Int32 → Prop) (px : Nat → Prop) (hpost : post (chv b np i j)) : wp_X5_change a la (nI i) (nI j) post px := by
  have hns : ns ≤ 6 := h.1.1.2.1
  have e3 : a 1 4 = nI ns := h.1.2.2.2.1
  have g1 := iw_of_nat (p := i) (n := ns) (by omega) hi
  have g2 := iw_of_nat (p := j) (n := ns) (by omega) hj
  simp only [wp_X5_change, w_needStage, e3, g1, g2, cond_true]
  exact w_chA (w := w) h hi hj _ hpost
theorem d_change (hI : zI a la) (x1 x2 : Int32) : zOut (wp_L_change a la x1 x2) a la := by
  have hI0 := hI
  obtain ⟨np, ns, t, b, h4, h3, h, hM⟩ := hI
  have hns : ns ≤ 6 := h.1.1.1.2.1
  have e3 : a 1 4 = nI ns := h.1.1.2.2.2.1
  cases g1 : iw x1 0 (nI ns - 1)
  · refine zThrow hI0 (fun post hp => ?_)
    simp [wp_L_change, wp_X5_change, w_needStage, e3, g1, hp]
  · cases g2 : iw x2 0 (nI ns - 1)
    · refine zThrow hI0 (fun post hp => ?_)
      simp [wp_L_change, wp_X5_change, w_needStage, e3, g1, g2, hp]
    · obtain ⟨s1, hs1, rfl⟩ := iw_nat (by omega) g1
      obtain ⟨s2, hs2, rfl⟩ := iw_nat (by omega) g2
      exact zRead hI0 _ (fun post hpost => w_changeOk h.1 hs1 hs2 _ _ hpost)
/-! delayEach: one number for all draws -/
theorem a32_eq {x y : UInt32} (h : alike32 x y = true) (hn : ¬ FP.Core.fIsNaN y = true) : x = y := by
  unfold alike32 at h
  simp only [Bool.or_eq_true, Bool.and_eq_true, decide_eq_true_eq] at h
  rcases h with rfl | ⟨_, h2⟩
  · rfl
  · exact absurd ((nan32 y).mp h2) hn
theorem a32_nan {x y : UInt32} (h : alike32 x y = true) (hn : FP.Core.fIsNaN y = true) : FP.Core.fIsNaN x = true := by
  unfold alike32 at h
  simp only [Bool.or_eq_true, Bool.and_eq_true, decide_eq_true_eq] at h
  rcases h with rfl | ⟨h1, _⟩
  · exact hn
  · exact (nan32 x).mp h1
theorem f2i_nan {x : UInt32} (h : FP.Core.fIsNaN x = true) : FP.f2i x = 0 := by
  have h1 := (FP.Core.fIsNaN_iff x).mp h
  show FP.Core.toI (FP.Core.val32 x) = 0
  rw [h1]
  rfl
theorem fmul_nanR (c : UInt32) {x : UInt32} (h : FP.Core.fIsNaN x = true) : FP.Core.fIsNaN (FP.fmul c x) = true :=
  (FP.Core.fmul_nan_iff c x).mpr (Or.inr (Or.inl ((FP.Core.fIsNaN_iff x).mp h)))
theorem each_one {c q r s : UInt32} (hr : alike32 r q = true) (hs : alike32 s (FP.fmul c r) = true) : FP.f2i s = FP.f2i (FP.fmul c q) := by
  by_cases hq : FP.Core.fIsNaN q = true
  · rw [f2i_nan (a32_nan hs (fmul_nanR c (a32_nan hr hq))), f2i_nan (fmul_nanR c hq)]
  · have e := a32_eq hr hq
    subst e
    by_cases hm : FP.Core.fIsNaN (FP.fmul c r) = true
    · rw [f2i_nan (a32_nan hs hm), f2i_nan hm]
    · rw [a32_eq hs hm]
theorem d_delays (hI : zI a la) : zOut (fun post => wp_X5_delay a la (fun r1 => wp_X5_delayEach a la (fun r2 => ∀ r3 : UInt32, alike32 r3 (FP.fmul ((1120403456 : UInt32)) r2) = true → post (r1.toInt32 + (FP.f2i r3)) a la))) a la := by
  by_cases c : a 23 7 = 0
  · refine zRead hI (la.toInt32 + FP.f2i (FP.fmul 1120403456 FP.fconst0)) (fun post hp => ?_)
    refine ⟨fun z => absurd c z, fun _ r3 h3 => ?_⟩
    rw [each_one (c := 1120403456) (q := FP.fconst0) (r := FP.fconst0) (s := r3) (by simp [alike32]) h3]
    exact hp
  · refine zRead hI (la.toInt32 + FP.f2i (FP.fmul 1120403456 (FP.fdiv (FP.l2f la) (FP.i2f (a 23 7))))) (fun post hp => ?_)
    refine ⟨fun _ r2 h2 r3 h3 => ?_, fun z => absurd z c⟩
    rw [each_one h2 h3]
    exact hp
end ZREAD
