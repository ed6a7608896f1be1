/-! ===== phase, meet, stage, start, ask, cancel ===== -/
theorem nI_thr {n : Nat} (h : n < 2 ^ 31) : ¬ nI n = -99999999 := by
  intro z
  have := nI_toInt h
  rw [z] at this
  have e : ((-99999999 : Int32)).toInt = -99999999 := by decide
  omega
theorem iw_rng {x lo hi : Int32} (h : iw x lo hi = true) : lo ≤ x ∧ x ≤ hi := by
  unfold iw at h
  simp only [Bool.and_eq_true, Bool.not_eq_true', decide_eq_false_iff_not, Int32.lt_iff_toInt_lt] at h
  rw [Int32.le_iff_toInt_le, Int32.le_iff_toInt_le]
  omega
theorem i_tr {x y z : Int32} (h : x ≤ y) (h2 : y ≤ z) : x ≤ z := Int32.le_trans h h2
section ZTOLD
variable {np ns t w : Nat} {a a' : ig_M} {la : Int64} {b : ig_M}
def phA (np : Nat) (x1 x2 x3 : Int32) (a : ig_M) : ig_M := ig_up (ig_up (ig_up (ig_up a (3 + np) 0 x1) (3 + np) 1 x2) (3 + np) 2 x3) 1 1 (nI (np + 1))
def phB (np : Nat) (x1 x2 x3 : Int32) (b : ig_M) : ig_M := ig_up (ig_up (ig_up (ig_up b 98 np x1) 99 np x2) 100 np x3) 97 2 (nI (np + 1))
theorem zD_np {np' : Nat} (h : zD np t w a) (hn : np ≤ np') : zD np' t w a := ⟨h.1, h.2.1, h.2.2.1, h.2.2.2.1, h.2.2.2.2.1, h.2.2.2.2.2.1, h.2.2.2.2.2.2.1, fun p hp hnp => h.2.2.2.2.2.2.2 p hp (by omega)⟩
theorem phA_off (x1 x2 x3 : Int32) {i : Nat} (h : i ≠ 1) (h2 : i ≠ 3 + np) : phA np x1 x2 x3 a i = a i := by
  unfold phA
  rw [up_row h, up_row h2, up_row h2, up_row h2]
theorem phA_in (hnp : np < 8) (x1 x2 x3 : Int32) {p j : Nat} (h : ¬ (p = np ∧ j < 3)) : phA np x1 x2 x3 a (3 + p) j = a (3 + p) j := by
  unfold phA
  rw [up_col (by omega), up_col (by omega), up_col (by omega), up_col (by omega)]
theorem z_phase (h : zQ np ns t w a la b) (hnp8 : np < 8) {x1 : Int32} (x2 x3 : Int32) (hx1 : 1 ≤ x1 ∧ x1 ≤ 30) : zQ (np + 1) ns t w (phA np x1 x2 x3 a) la (phB np x1 x2 x3 b) := by
  obtain ⟨hQ, hS, hD, hK⟩ := h
  obtain ⟨h1, h2, h3, h4, h5, h6⟩ := hQ
  obtain ⟨⟨hnp, hns, ht⟩, e1, e2, e3, e4, e5, e6, e7, e8⟩ := h1
  obtain ⟨f1, f2, f3, f4, f5, f6, f7, f8⟩ := h5
  refine ⟨⟨⟨⟨by omega, hns, ht⟩, ?_⟩, ?_, ?_, ?_, ?_, ?_⟩, ?_, ?_, ?_⟩
  · simp [phA, phB, up_app, show ¬ 1 = 3 + np by omega, show ¬ 23 = 3 + np by omega, e3, e4, e5, e6, e7]
  · intro p hp
    have hph := h2 p hp
    unfold phA phB
    by_cases hpn : p = np
    · subst hpn
      obtain ⟨hA, hB, hC⟩ := hph
      obtain ⟨hC1, hC2, hC3, hC4, _⟩ := hC
      have hx2 : (0 : Int32) ≤ x1 ∧ x1 ≤ 30 := ⟨i_tr (by decide) hx1.1, hx1.2⟩
      refine ⟨?_, ?_, ?_, ?_, ?_, ?_, ?_⟩
      · simpa [up_app, show ¬ 3 + p = 1 by omega] using hA.2.2.2
      · simpa [up_app, show ¬ 3 + p = 1 by omega] using hB
      · simpa [up_app, show ¬ 3 + p = 1 by omega] using hC1
      · simpa [up_app, show ¬ 3 + p = 1 by omega] using hC2
      · simpa [up_app, show ¬ 3 + p = 1 by omega] using hC3
      · simpa [up_app, show ¬ 3 + p = 1 by omega] using hC4
      · simpa [up_app, show ¬ 3 + p = 1 by omega] using hx2
    · simpa [ig_ph, up_app, show ¬ 3 + p = 1 by omega, show ¬ 3 + p = 3 + np by omega, hpn] using hph
  · intro p q hp hq
    simpa [phA, phB, up_app, show ¬ 12 + p = 1 by omega, show ¬ 12 + p = 3 + np by omega] using h3 p q hp hq
  · intro s hs
    simpa [phA, phB, up_app, show ¬ 20 = 3 + np by omega] using h4 s hs
  · have f6' : a 23 5 = -1 ∨ ∃ p : Nat, p < np + 1 ∧ a 23 5 = nI p := f6.elim Or.inl (fun ⟨p, q1, q2⟩ => Or.inr ⟨p, by omega, q2⟩)
    simpa [phA, phB, ig_R5, ig_wk, up_app, show ¬ 23 = 3 + np by omega] using (⟨f1, f2, f3, f4, f5, f6', f7, f8⟩ : ig_R5 (np + 1) ns (a 23) (b 97))
  · intro u hu
    simpa [phA, phB, up_app, show ¬ 22 = 3 + np by omega] using h6 u hu
  · obtain ⟨g1, g2, g3⟩ := hS
    refine ⟨fun p hp => ?_, fun p q hp hq => ?_, fun s hs => ?_⟩
    · by_cases c : p = np
      · subst c
        unfold phA
        rw [up_col (by omega), up_col (by omega), up_col (by omega), up_app, if_pos rfl, if_pos rfl]
        exact hx1.1
      · rw [phA_in hnp8 _ _ _ (by omega)]; exact g1 p (by omega)
    · rw [phA_off _ _ _ (by omega) (by omega), phA_off _ _ _ (by omega) (by omega)]
      intro hm
      obtain ⟨k1, k2, k3, k4⟩ := g2 p q hp hq hm
      exact ⟨k1, by omega, by omega, k4⟩
    · rw [phA_off _ _ _ (by omega) (by omega)]
      obtain ⟨p, k1, k2⟩ := g3 s hs
      exact ⟨p, by omega, k2⟩
  · refine zD_np (zD_congr hD ?_ ?_ (fun p hp => phA_in hnp8 _ _ _ (by omega)) (fun p hp => phA_in hnp8 _ _ _ (by omega)) (fun p q hp hq => ?_) (fun u _ => ?_)) (by omega)
    · rw [phA_off _ _ _ (by omega) (by omega)]
    · rw [phA_off _ _ _ (by omega) (by omega)]
    · rw [phA_off _ _ _ (by omega) (by omega)]
    · rw [phA_off _ _ _ (by omega) (by omega)]
  · unfold zK
    rw [phA_off _ _ _ (by omega) (by omega)]
    exact hK
theorem w_phaseOk (h : ig_Q np ns t w a la b la) (hnp8 : np < 8) (hst : a 23 4 = 0) {x1 x2 x3 : Int32} (g1 : iw x1 1 30 = true) (g2 : iw x2 x1 120 = true) (g3 : iw x3 0 10 = true) (post : Int32 → ig_M → Int64 → Prop) (px : Nat → Prop) (hp : post (nI np) (phA np x1 x2 x3 a) la) : wp_X5_phase a la x1 x2 x3 post px := by
  have e1 : a 1 1 = nI np := Q_a1 h
  have e8 : nI np < 8 := nI_lt (a := np) (b := 8) hnp8 (by omega)
  unfold phA at hp
  simpa [wp_X5_phase, w_with, g1, g2, g3, hst, e1, e8, wp_X3_addPhase, vp_in_nI hnp8, nI_clamp (show np < 2 ^ 31 by omega), up_app, show ¬ 1 = 3 + np by omega, nI_1] using hp
theorem d_phase (hI : zI a la) (x1 x2 x3 : Int32) : zOut (wp_L_phase a la x1 x2 x3) a la := by
  have hI0 := hI
  obtain ⟨np, ns, t, b, h4, h3, h, hM⟩ := hI
  by_cases hb : (iw x1 1 30 && (iw x2 x1 120 && iw x3 0 10)) = true
  · simp only [Bool.and_eq_true] at hb
    obtain ⟨g1, g2, g3⟩ := hb
    by_cases g4 : a 23 4 = 0
    · by_cases g5 : np < 8
      · refine ⟨nI np, phA np x1 x2 x3 a, la, fun post hp => w_phaseOk h.1 g5 g4 g1 g2 g3 _ _ hp, ⟨np + 1, ns, t, phB np x1 x2 x3 b, by omega, h3, z_phase h g5 x2 x3 (iw_rng g1), ?_⟩, fun z => absurd z (nI_thr (by omega))⟩
        unfold zM
        rw [phA_off _ _ _ (by omega) (by omega), phA_off _ _ _ (by omega) (by omega)]
        exact hM
      · have e9 : np = 8 := by have := Q_np h.1; omega
        refine zThrow hI0 (fun post hp => ?_)
        have e1 : a 1 1 = nI 8 := by rw [← e9]; exact Q_a1 h.1
        have e8 : ¬ nI 8 < 8 := by decide
        simp [wp_L_phase, wp_X5_phase, w_with, g1, g2, g3, g4, e1, e8, hp]
    · refine zThrow hI0 (fun post hp => ?_)
      simp [wp_L_phase, wp_X5_phase, w_with, g1, g2, g3, g4, hp]
  · refine zThrow hI0 (fun post hp => ?_)
    cases g1 : iw x1 1 30 <;> cases g2 : iw x2 x1 120 <;> cases g3 : iw x3 0 10 <;> simp [g1, g2, g3] at hb <;> simp [wp_L_phase, wp_X5_phase, w_with, g1, g2, g3, hp]
/-! meet -/
def mtA (p q : Nat) (v w : Int32) (a : ig_M) : ig_M := ig_up (ig_up a (12 + p) q v) (12 + q) p w
def mtB (p q : Nat) (v w : Int32) (b : ig_M) : ig_M := ig_up (ig_up b 101 (8 * p + q) v) 101 (8 * q + p) w
theorem mtA_off {p q : Nat} (v w : Int32) {i : Nat} (h : i ≠ 12 + p) (h2 : i ≠ 12 + q) : mtA p q v w a i = a i := by
  unfold mtA
  rw [up_row h2, up_row h]
theorem mtA_at {p q : Nat} (hpq : ¬ p = q) (v w : Int32) (r s : Nat) : mtA p q v w a (12 + r) s = if r = q ∧ s = p then w else if r = p ∧ s = q then v else a (12 + r) s := by
  unfold mtA
  by_cases c1 : r = q
  · subst c1
    have c3 : ¬ r = p := fun z => hpq z.symm
    by_cases c2 : s = p
    · simp [up_app, c2]
    · simp [up_app, c2, c3]
  · by_cases c3 : r = p
    · subst c3
      by_cases c4 : s = q
      · subst c4; simp [up_app, c1]
      · simp [up_app, c1, c4]
    · simp [up_app, c1, c3]
theorem z_meet (h : zQ np ns t w a la b) (hst : a 23 4 = 0) {p q m n : Nat} (hp : p < np) (hq : q < np) (hpq : ¬ p = q) (hm : 1 ≤ m ∧ m ≤ 20) (hn : 1 ≤ n ∧ n ≤ 20) : zQ np ns t w (mtA p q (nI m) (nI n) a) la (mtB p q (nI m) (nI n) b) := by
  obtain ⟨hQ, hS, hD, hK⟩ := h
  obtain ⟨h1, h2, h3, h4, h5, h6⟩ := hQ
  obtain ⟨⟨hnp, hns, ht⟩, e1, e2, e3, e4, e5, e6, e7, e8⟩ := h1
  have n3b : (0 : Int32) ≤ nI m ∧ nI m ≤ 20 := ⟨nI_pos' (by omega), nI_le (a := m) (b := 20) hm.2 (by omega)⟩
  have n4b : (0 : Int32) ≤ nI n ∧ nI n ≤ 20 := ⟨nI_pos' (by omega), nI_le (a := n) (b := 20) hn.2 (by omega)⟩
  have n3p : (0 : Int32) < nI m := nI_lt (a := 0) (b := m) (by omega) (by omega)
  have n4p : (0 : Int32) < nI n := nI_lt (a := 0) (b := n) (by omega) (by omega)
  have hat := fun r s => mtA_at (a := a) hpq (nI m) (nI n) r s
  refine ⟨⟨⟨⟨hnp, hns, ht⟩, ?_⟩, ?_, ?_, ?_, ?_, ?_⟩, ?_, ?_, ?_⟩
  · rw [mtA_off _ _ (by omega) (by omega), mtA_off _ _ (by omega) (by omega)]
    simp [mtB, up_app, e1, e2, e3, e4, e5, e6, e7]
  · intro r hr
    rw [mtA_off _ _ (by omega) (by omega)]
    simpa [mtB, ig_ph, up_app] using h2 r hr
  · intro r v hr hv
    have h0 := h3 r v hr hv
    rw [hat]
    by_cases c1 : r = q ∧ v = p
    · obtain ⟨rfl, rfl⟩ := c1
      simp [mtB, up_app, n4b]
    · rw [if_neg c1]
      by_cases c2 : r = p ∧ v = q
      · obtain ⟨rfl, rfl⟩ := c2
        have d2 : ¬ 8 * r + v = 8 * v + r := by omega
        simp [mtB, up_app, d2, n3b]
      · rw [if_neg c2]
        have d1 : ¬ 8 * r + v = 8 * q + p := by omega
        have d2 : ¬ 8 * r + v = 8 * p + q := by omega
        simpa [mtB, up_app, d1, d2] using h0
  · intro s hs
    rw [mtA_off _ _ (by omega) (by omega)]
    simpa [mtB, up_app] using h4 s hs
  · rw [mtA_off _ _ (by omega) (by omega)]
    simpa [mtB, up_row] using h5
  · intro u hu
    rw [mtA_off _ _ (by omega) (by omega)]
    simpa [mtB, up_app] using h6 u hu
  · obtain ⟨g1, g2, g3⟩ := hS
    refine ⟨fun r hr => ?_, fun r s hr hs => ?_, fun s hs => ?_⟩
    · rw [mtA_off _ _ (by omega) (by omega)]; exact g1 r hr
    · rw [hat, hat]
      intro hz
      by_cases c1 : r = q ∧ s = p
      · obtain ⟨rfl, rfl⟩ := c1
        rw [if_neg (fun z => hpq z.1), if_pos ⟨rfl, rfl⟩]
        exact ⟨n3p, hq, hp, fun z => hpq z.symm⟩
      · by_cases c2 : r = p ∧ s = q
        · obtain ⟨rfl, rfl⟩ := c2
          rw [if_pos ⟨rfl, rfl⟩]
          exact ⟨n4p, hp, hq, hpq⟩
        · rw [if_neg c1, if_neg c2] at hz
          rw [if_neg (fun z => c2 ⟨z.2, z.1⟩), if_neg (fun z => c1 ⟨z.2, z.1⟩)]
          exact g2 r s hr hs hz
    · rw [mtA_off _ _ (by omega) (by omega)]; exact g3 s hs
  · obtain ⟨g1, g2, g3, g4, g5, g6, g7, g8⟩ := hD
    have r3 : ∀ r, r < 8 → mtA p q (nI m) (nI n) a (3 + r) = a (3 + r) := fun r hr => mtA_off _ _ (by omega) (by omega)
    have r23 : mtA p q (nI m) (nI n) a 23 = a 23 := mtA_off _ _ (by omega) (by omega)
    have lgc : ∀ u r, zLg (mtA p q (nI m) (nI n) a) u r = zLg a u r := fun u r => zLg_of (by rw [mtA_off _ _ (by omega) (by omega)])
    obtain ⟨k1, k2⟩ := g2 hst
    have k3 := g1 k1
    have no : ¬ (0 : Int32) = 1 := by decide
    rw [zD, r23]
    refine ⟨fun hw r hr => ?_, fun hz => ⟨k1, fun u r hu hr => ?_⟩, fun r hr => ?_, fun u r hu hr hl => ?_, fun r s hr hs _ hg => ?_, fun r s hr hs _ hg => ?_, fun r s hr hs _ u v huv hv hl => ?_, fun r hr hn => ?_⟩
    · rw [r3 r hr]; exact k3 r hr
    · rw [lgc]; exact k2 u r hu hr
    · rw [r3 r hr]; exact g3 r hr
    · rw [lgc] at hl
      exact absurd hl (k2 u r hu hr)
    · rw [r3 r hr, k3 r hr] at hg
      exact no hg.1
    · rw [r3 s hs, k3 s hs] at hg
      exact absurd hg no
    · rw [lgc] at hl
      exact absurd hl (k2 u r (by omega) hr)
    · rw [r3 r hr]; exact k3 r hr
  · unfold zK
    rw [mtA_off _ _ (by omega) (by omega)]
    exact hK
theorem w_meetOk (h : ig_Q np ns t w a la b la) (hst : a 23 4 = 0) {p q m n : Nat} (hp : p < np) (hq : q < np) (hpq : ¬ p = q) (hm : 1 ≤ m ∧ m ≤ 20) (hn : 1 ≤ n ∧ n ≤ 20) (hno : ¬ ∃ s, s < ns ∧ ig_both (a 20) (nI p) (nI q) s) (post : ig_M → Int64 → Prop) (px : Nat → Prop) (hpost : post (mtA p q (nI m) (nI n) a) la) : wp_X5_meet a la (nI p) (nI q) (nI m) (nI n) post px := by
  have hnp := Q_np h
  have e1 : a 1 1 = nI np := Q_a1 h
  have e3 : a 1 4 = nI ns := h.1.2.2.2.1
  have hns : ns ≤ 6 := h.1.1.2.1
  have g1 := iw_of_nat (p := p) (n := np) (by omega) hp
  have g2 := iw_of_nat (p := q) (n := np) (by omega) hq
  have u1 : iw (nI m) 1 20 = true := iw_k (m := 1) (n := 20) (by omega) hm.1 hm.2
  have u2 : iw (nI n) 1 20 = true := iw_k (m := 1) (n := 20) (by omega) hn.1 hn.2
  have g6 : ¬ nI p = nI q := fun z => hpq ((nI_eq (by omega) (by omega)).mp z)
  simp only [wp_X5_meet, w_needPhase, w_with, e1, g1, g2, g6, hst, u1, u2, cond_true, true_implies, not_false_eq_true, false_implies, and_true, true_and, not_true_eq_false, ne10]
  refine w_hswb hns e3 _ _ _ (fun z => absurd z hno) (fun _ => ⟨fun _ => ?_, fun z => absurd rfl z⟩)
  unfold mtA at hpost
  simpa [wp_X3_setBetween, vp_in_nI (show p < 8 by omega) (by omega), vp_in_nI (show q < 8 by omega) (by omega), nI_clamp (show p < 2 ^ 31 by omega), nI_clamp (show q < 2 ^ 31 by omega)] using hpost
theorem d_meet (hI : zI a la) (x1 x2 x3 x4 : Int32) : zOut (wp_L_meet a la x1 x2 x3 x4) a la := by
  have hI0 := hI
  obtain ⟨np, ns, t, b, h4, h3, h, hM⟩ := hI
  have hnp := Q_np h.1
  have e1 : a 1 1 = nI np := Q_a1 h.1
  have e3 : a 1 4 = nI ns := h.1.1.2.2.2.1
  have hns : ns ≤ 6 := h.1.1.1.2.1
  by_cases g1 : (iw x1 0 (nI np - 1) && iw x2 0 (nI np - 1)) = true
  · simp only [Bool.and_eq_true] at g1
    obtain ⟨g1, g2⟩ := g1
    obtain ⟨p, hp, rfl⟩ := iw_nat (by omega) g1
    obtain ⟨q, hq, rfl⟩ := iw_nat (by omega) g2
    by_cases g3 : p = q ∨ (iw x3 1 20 && iw x4 1 20) = false
    · refine zThrow hI0 (fun post hpost => ?_)
      by_cases g4 : p = q
      · simp [wp_L_meet, wp_X5_meet, w_needPhase, e1, g1, g2, g4, hpost]
      · have g5 := g3.resolve_left g4
        have g6 : ¬ nI p = nI q := fun z => g4 ((nI_eq (by omega) (by omega)).mp z)
        cases u1 : iw x3 1 20 <;> cases u2 : iw x4 1 20 <;> simp [u1, u2] at g5 <;> simp [wp_L_meet, wp_X5_meet, w_needPhase, w_with, e1, g1, g2, g6, u1, u2, hpost]
    · have g4 : ¬ p = q := fun z => g3 (Or.inl z)
      have g5 : iw x3 1 20 = true ∧ iw x4 1 20 = true := by
        cases u1 : iw x3 1 20 <;> cases u2 : iw x4 1 20 <;> simp [u1, u2] at g3 ⊢
      obtain ⟨u1, u2⟩ := g5
      have g6 : ¬ nI p = nI q := fun z => g4 ((nI_eq (by omega) (by omega)).mp z)
      by_cases g7 : a 23 4 = 0
      · by_cases g8 : ∃ s, s < ns ∧ ig_both (a 20) (nI p) (nI q) s
        · refine zThrow hI0 (fun post hpost => ?_)
          simp only [wp_L_meet, wp_X5_meet, w_needPhase, w_with, e1, g1, g2, g6, g7, u1, u2, cond_true, true_implies, not_false_eq_true, false_implies, and_true, true_and, not_true_eq_false, ne10]
          exact w_hswb hns e3 _ _ _ (fun _ => ⟨fun z => absurd z (by decide), fun _ => Or.inr (Or.inr hpost)⟩) (fun z => absurd g8 z)
        · obtain ⟨n3, q31, q32, rfl⟩ := iw_le (m := 1) (n := 20) (by omega) (by omega) u1
          obtain ⟨n4, q41, q42, rfl⟩ := iw_le (m := 1) (n := 20) (by omega) (by omega) u2
          have n3p : (0 : Int32) < nI n3 := nI_lt (a := 0) (b := n3) (by omega) (by omega)
          have n4p : (0 : Int32) < nI n4 := nI_lt (a := 0) (b := n4) (by omega) (by omega)
          refine ⟨0, mtA p q (nI n3) (nI n4) a, la, fun post hp2 => w_meetOk h.1 g7 hp hq g4 ⟨q31, q32⟩ ⟨q41, q42⟩ g8 _ _ hp2, ⟨np, ns, t, mtB p q (nI n3) (nI n4) b, h4, h3, z_meet h g7 hp hq g4 ⟨q31, q32⟩ ⟨q41, q42⟩, ?_⟩, fun z => absurd z (by decide)⟩
          obtain ⟨m1, m2, m3⟩ := hM
          have at' := fun r s => mtA_at (a := a) g4 (nI n3) (nI n4) r s
          have pos : ∀ r s, 0 < a (12 + r) s → 0 < mtA p q (nI n3) (nI n4) a (12 + r) s := fun r s h0 => by
            rw [at']
            split
            · exact n4p
            · split
              · exact n3p
              · exact h0
          exact ⟨pos 0 1 m1, pos 0 2 m2, pos 2 3 m3⟩
      · refine zThrow hI0 (fun post hpost => ?_)
        simp [wp_L_meet, wp_X5_meet, w_needPhase, w_with, e1, g1, g2, g6, g7, u1, u2, hpost]
  · refine zThrow hI0 (fun post hpost => ?_)
    cases u1 : iw x1 0 (nI np - 1) <;> cases u2 : iw x2 0 (nI np - 1) <;> simp [u1, u2] at g1 <;> simp [wp_L_meet, wp_X5_meet, w_needPhase, e1, u1, u2, hpost]
/-! stage -/
def stA (ns : Nat) (x : Int32) (a : ig_M) : ig_M := ig_up (ig_up a 20 ns x) 1 4 (nI (ns + 1))
def stB (ns : Nat) (x : Int32) (b : ig_M) : ig_M := ig_up (ig_up b 102 ns x) 97 7 (nI (ns + 1))
theorem st_bit (hnp : np ≤ 8) {x : Int32} (h : iw x 1 ((1 <<< (nI np &&& 31)) - 1) = true) : ∃ p, p < np ∧ hb x (nI p) = true := by
  obtain ⟨h1, h2⟩ := (stage_arg hnp x).mp h
  apply Classical.byContradiction
  intro hc
  apply h1
  apply b_ext
  intro i hi
  rw [b_0]
  by_cases c : i < np
  · cases e : bt x i
    · rfl
    · exact absurd ⟨i, c, by rw [hb_bt _ (by omega)]; exact e⟩ hc
  · have h3 : bt ((x.toUInt32 >>> ((nI np).toUInt32 &&& Int32.toUInt32 31)).toInt32) (i - np) = bt 0 (i - np) := by rw [h2]
    rw [b_ushr np (by omega), b_0, show np + (i - np) = i by omega] at h3
    exact h3
theorem z_stage (h : zQ np ns t w a la b) (hns6 : ns < 6) {x : Int32} (hx : ∃ p, p < np ∧ hb x (nI p) = true) : zQ np (ns + 1) t w (stA ns x a) la (stB ns x b) := by
  obtain ⟨hQ, hS, hD, hK⟩ := h
  obtain ⟨h1, h2, h3, h4, h5, h6⟩ := hQ
  obtain ⟨⟨hnp, hns, ht⟩, e1, e2, e3, e4, e5, e6, e7, e8⟩ := h1
  have off : ∀ i, i ≠ 1 → i ≠ 20 → stA ns x a i = a i := fun i g1 g2 => by unfold stA; rw [up_row g1, up_row g2]
  refine ⟨⟨⟨⟨hnp, by omega, ht⟩, by simp [stA, stB, up_app, e1, e2, e5, e6, e7]⟩, ?_, ?_, ?_, ?_, ?_⟩, ?_, ?_, ?_⟩
  · intro p hp
    simpa [stA, stB, ig_ph, up_app, show ¬ 3 + p = 20 by omega, show ¬ 3 + p = 1 by omega] using h2 p hp
  · intro p q hp hq
    simpa [stA, stB, up_app, show ¬ 12 + p = 20 by omega, show ¬ 12 + p = 1 by omega] using h3 p q hp hq
  · intro s hs
    have := h4 s hs
    by_cases c : s = ns
    · simp [stA, stB, up_app, c]
    · simp [stA, stB, up_app, c, this]
  · obtain ⟨f1, f2, f3, f4, f5, f6, ⟨s, hs, f7, f8⟩, f9⟩ := h5
    have f8' : ig_wk (a 23) → s < ns + 1 ∧ a 23 3 = nI s := fun z => ⟨by have := (f8 z).1; omega, (f8 z).2⟩
    simpa [stA, stB, ig_R5, ig_wk, up_app] using (⟨f1, f2, f3, f4, f5, f6, ⟨s, hs, f7, f8'⟩, f9⟩ : ig_R5 np (ns + 1) (a 23) (b 97))
  · intro u hu
    simpa [stA, stB, up_app] using h6 u hu
  · obtain ⟨g1, g2, g3⟩ := hS
    refine ⟨fun p hp => ?_, fun p q hp hq => ?_, fun s hs => ?_⟩
    · rw [off _ (by omega) (by omega)]; exact g1 p hp
    · rw [off _ (by omega) (by omega), off _ (by omega) (by omega)]; exact g2 p q hp hq
    · by_cases c : s = ns
      · subst c
        simpa [stA, up_app] using hx
      · simpa [stA, up_app, c] using g3 s (by omega)
  · exact zD_congr hD (by rw [off _ (by omega) (by omega)]) (by rw [off _ (by omega) (by omega)]) (fun p _ => by rw [off _ (by omega) (by omega)]) (fun p _ => by rw [off _ (by omega) (by omega)]) (fun p q _ _ => by rw [off _ (by omega) (by omega)]) (fun u _ => by rw [off _ (by omega) (by omega)])
  · unfold zK
    rw [off _ (by omega) (by omega)]
    exact hK
theorem w_stageOk (h : ig_Q np ns t w a la b la) (hst : a 23 4 = 0) (hns6 : ns < 6) {x : Int32} (hx : iw x 1 ((1 <<< (nI np &&& 31)) - 1) = true) (hno : meetsB b x np = false) (post : Int32 → ig_M → Int64 → Prop) (px : Nat → Prop) (hp : post (nI ns) (stA ns x a) la) : wp_X5_stage a la x post px := by
  obtain ⟨g2, g3⟩ := (stage_arg (Q_np h) x).mp hx
  have e1 : a 1 1 = nI np := Q_a1 h
  have e3 : a 1 4 = nI ns := h.1.2.2.2.1
  unfold wp_X5_stage
  refine ⟨fun z => absurd z g2, fun _ => ⟨fun _ => ⟨fun z => absurd hst z, fun _ => ?_⟩, fun z => absurd (by rw [e1]; exact g3) z⟩⟩
  refine w_two (w := w) h x _ ?_
  rw [hno]
  refine ⟨fun z => absurd rfl z, fun _ => ⟨fun _ => ?_, fun z => absurd (by rw [e3]; exact nI_lt (a := ns) (b := 6) hns6 (by omega)) z⟩⟩
  unfold wp_X3_addStage
  rw [e3, nI_clamp (by omega)]
  refine ⟨vp_in_nI hns6 (by omega), fun a2 q2 a3 q3 => ?_⟩
  have q4 : a2 1 4 = nI ns := by rw [q2]; simp [up_app, e3]
  rw [q3, q4, nI_1, q2]
  exact hp
theorem d_stage (hI : zI a la) (x1 : Int32) : zOut (wp_L_stage a la x1) a la := by
  have hI0 := hI
  obtain ⟨np, ns, t, b, h4, h3, h, hM⟩ := hI
  have hnp := Q_np h.1
  have e1 : a 1 1 = nI np := Q_a1 h.1
  have e3 : a 1 4 = nI ns := h.1.1.2.2.2.1
  have hns : ns ≤ 6 := h.1.1.1.2.1
  by_cases g1 : iw x1 1 ((1 <<< (nI np &&& 31)) - 1) = true
  · obtain ⟨g2, g3⟩ := (stage_arg hnp x1).mp g1
    by_cases g4 : a 23 4 = 0
    · cases g5 : meetsB b x1 np
      · by_cases g6 : ns < 6
        · refine ⟨nI ns, stA ns x1 a, la, fun post hp => w_stageOk h.1 g4 g6 g1 g5 _ _ hp, ⟨np, ns + 1, t, stB ns x1 b, h4, by omega, z_stage h g6 (st_bit hnp g1), ?_⟩, fun z => absurd z (nI_thr (by omega))⟩
          unfold zM stA
          rw [up_row (by omega), up_row (by omega), up_row (by omega), up_row (by omega)]
          exact hM
        · have e6' : ns = 6 := by omega
          refine zThrow hI0 (fun post hp => ?_)
          unfold wp_L_stage wp_X5_stage
          refine ⟨fun z => absurd z g2, fun _ => ⟨fun _ => ⟨fun z => absurd g4 z, fun _ => ?_⟩, fun z => absurd (by rw [e1]; exact g3) z⟩⟩
          refine w_two (w := t) h.1 x1 _ ?_
          rw [g5]
          exact ⟨fun z => absurd rfl z, fun _ => ⟨fun z => absurd (by rw [e3, e6'] at z; exact z) (by decide), fun _ => Or.inr ⟨rfl, hp⟩⟩⟩
      · refine zThrow hI0 (fun post hp => ?_)
        unfold wp_L_stage wp_X5_stage
        refine ⟨fun z => absurd z g2, fun _ => ⟨fun _ => ⟨fun z => absurd g4 z, fun _ => ?_⟩, fun z => absurd (by rw [e1]; exact g3) z⟩⟩
        refine w_two (w := t) h.1 x1 _ ?_
        rw [g5]
        exact ⟨fun _ => Or.inr ⟨rfl, hp⟩, fun z => absurd z ne10⟩
    · refine zThrow hI0 (fun post hp => ?_)
      unfold wp_L_stage wp_X5_stage
      exact ⟨fun z => absurd z g2, fun _ => ⟨fun _ => ⟨fun _ => Or.inr ⟨rfl, hp⟩, fun z => absurd z g4⟩, fun z => absurd (by rw [e1]; exact g3) z⟩⟩
  · refine zThrow hI0 (fun post hp => ?_)
    unfold wp_L_stage wp_X5_stage
    refine ⟨fun _ => Or.inl ⟨rfl, hp⟩, fun z => ⟨fun y => ?_, fun _ => Or.inl ⟨rfl, hp⟩⟩⟩
    rw [e1] at y
    exact absurd ((stage_arg hnp x1).mpr ⟨z, y⟩) g1
end ZTOLD
