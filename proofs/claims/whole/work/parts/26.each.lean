/-! ===== delayEach: two doubles that are alike ===== -/
theorem nan64 (x : UInt64) : isNaN64 x = true ↔ FP.Core.dIsNaN x = true := by
  rw [isNaN64_iff, FP.Core.isNaN_bits, show (0x7fffffffffffffff : Nat) = 2 ^ 63 - 1 from rfl, Nat.and_two_pow_sub_one_eq_mod]
theorem nan32 (x : UInt32) : isNaN32 x = true ↔ FP.Core.fIsNaN x = true := by
  rw [isNaN32_iff, FP.Core.isNaN_bits32, show (0x7fffffff : Nat) = 2 ^ 31 - 1 from rfl, Nat.and_two_pow_sub_one_eq_mod]
theorem each_in {q r s : UInt32} {x y : UInt64} (hr : alike32 r q = true) (hs : alike32 s q = true) (hx : alike64 x (FP.f2d r) = true) (hy : alike64 y (FP.f2d s) = true) (P : Prop) (h : P) :
    (((Op.cmpValue (FP.dcmp x y) .l) = 0 → P) ∧ (¬ (Op.cmpValue (FP.dcmp x y) .l) = 0 → (((Op.cmpValue (FP.dcmp x x) .l) = 0 → ((0 : Int32) = 1)) ∧ (¬ (Op.cmpValue (FP.dcmp x x) .l) = 0 → ((¬ (Op.cmpValue (FP.dcmp y y) .l) = 0 → P) ∧ ((Op.cmpValue (FP.dcmp y y) .l) = 0 → ((0 : Int32) = 1))))))) := by
  have fn : ∀ u, FP.Core.dIsNaN (FP.f2d u) = FP.Core.fIsNaN u := FP.f2d_nan
  have one : ∀ {u v : UInt32} {z : UInt64}, alike32 u v = true → alike64 z (FP.f2d u) = true → (FP.Core.dIsNaN z = true ↔ FP.Core.fIsNaN v = true) := by
    intro u v z h1 h2
    have a1 : FP.Core.fIsNaN u = true ↔ FP.Core.fIsNaN v = true := by
      unfold alike32 at h1
      simp only [Bool.or_eq_true, Bool.and_eq_true, decide_eq_true_eq] at h1
      rcases h1 with rfl | ⟨u1, u2⟩
      · exact Iff.rfl
      · exact ⟨fun _ => (nan32 v).mp u2, fun _ => (nan32 u).mp u1⟩
    rw [← a1, ← fn]
    unfold alike64 at h2
    simp only [Bool.or_eq_true, Bool.and_eq_true, decide_eq_true_eq] at h2
    rcases h2 with rfl | ⟨u1, u2⟩
    · exact Iff.rfl
    · exact ⟨fun _ => (nan64 _).mp u2, fun _ => (nan64 _).mp u1⟩
  have nx := one hr hx
  have ny := one hs hy
  by_cases hq : FP.Core.fIsNaN q = true
  · have mx : FP.dcmp x x = none := (FP.Core.dcmp_none x x).mpr (Or.inl ((FP.Core.dIsNaN_iff x).mp (nx.mpr hq)))
    have my : FP.dcmp y y = none := (FP.Core.dcmp_none y y).mpr (Or.inl ((FP.Core.dIsNaN_iff y).mp (ny.mpr hq)))
    have m : ¬ Op.cmpValue none .l = 0 := by decide
    rw [mx, my]
    exact ⟨fun _ => h, fun _ => ⟨fun z => absurd z m, fun _ => ⟨fun _ => h, fun z => absurd z m⟩⟩⟩
  · have e32 : ∀ {u : UInt32}, alike32 u q = true → u = q := by
      intro u h1
      unfold alike32 at h1
      simp only [Bool.or_eq_true, Bool.and_eq_true, decide_eq_true_eq] at h1
      rcases h1 with rfl | ⟨u1, u2⟩
      · rfl
      · exact absurd ((nan32 q).mp u2) hq
    have er := e32 hr
    have es := e32 hs
    subst er
    subst es
    have e64 : ∀ {z : UInt64}, alike64 z (FP.f2d s) = true → z = FP.f2d s := by
      intro z h1
      unfold alike64 at h1
      simp only [Bool.or_eq_true, Bool.and_eq_true, decide_eq_true_eq] at h1
      rcases h1 with rfl | ⟨u1, u2⟩
      · rfl
      · exact absurd (by rw [← fn]; exact (nan64 _).mp u2) hq
    have ex := e64 hx
    have ey := e64 hy
    have nn : ¬ FP.Core.val64 x = .nan := fun z => hq (nx.mp ((FP.Core.dIsNaN_iff x).mpr z))
    have m : Op.cmpValue (FP.dcmp x y) .l = 0 := by
      rw [show y = x from ey.trans ex.symm]
      show Op.cmpValue (FP.Core.dcmp x x) .l = 0
      rw [FP.Core.dcmp_self nn]
      rfl
    exact ⟨fun _ => h, fun z => absurd m z⟩
/-! ===== stop; falling back ===== -/
theorem up_col {b : ig_M} {i j : Nat} {v : Int32} {x y : Nat} (h : ¬ (x = i ∧ y = j)) : ig_up b i j v x y = b x y := by
  rw [up_app]
  split
  · split
    · exact absurd ⟨‹x = i›, ‹y = j›⟩ h
    · rw [‹x = i›]
  · rfl
def redA (k : Nat) (a : ig_M) : ig_M := ig_up (if a (3 + k) 3 = 1 then ig_up a (3 + k) 9 (a 23 6) else a) (3 + k) 3 0
def redB (k : Nat) (b : ig_M) : ig_M := ig_up (ig_up b 104 k (if b 103 k = 1 then b 97 11 else b 104 k)) 103 k 0
theorem Q_red {np ns t w : Nat} {a : ig_M} {la : Int64} {b : ig_M} {lb : Int64} (h : ig_Q np ns t w a la b lb) {k : Nat} (hk : k < 8) : ig_Q np ns t w (redA k a) la (redB k b) lb := by
  have hph := h.2.1 k hk
  obtain ⟨_, e1, e2, e3, e4, e5, e6, e7, _⟩ := h.1
  refine Q_phase h hk _ _ (fun i hi => ?_) (fun i j hij => ?_) ?_
  · unfold redA
    rw [up_row hi]
    split
    · rw [up_row hi]
    · rfl
  · unfold redB
    rw [up_col (by omega), up_col (by omega)]
  · obtain ⟨⟨q0, q1, q2, q3, q4, q5, q6, q7, q8, q9, q10⟩, qb, qc, qd, qe, qf⟩ := hph
    unfold redA redB
    by_cases c : b 103 k = 1
    · have c' : a (3 + k) 3 = 1 := by rw [q3]; exact c
      rw [if_pos c', if_pos c]
      simp [ig_ph, up_app, q0, q1, q2, q3, q4, q5, q6, q7, q8, q9, q10, e5, e6]
      simp [q0, q6, q7, q8, q10] at qd qe qf
      exact ⟨by simpa using qb, qd, qe, qf⟩
    · have c' : ¬ a (3 + k) 3 = 1 := by rw [q3]; exact c
      rw [if_neg c', if_neg c]
      simp [ig_ph, up_app, q0, q1, q2, q3, q4, q5, q6, q7, q8, q9, q10]
      simp [q0, q6, q7, q8, q10] at qd qe qf
      exact ⟨by simpa using qb, qd, qe, qf⟩
theorem Q_fold {np ns t w : Nat} {a : ig_M} {la : Int64} {b : ig_M} {lb : Int64} {F G : Nat → ig_M → ig_M} (h : ig_Q np ns t w a la b lb) (hs : ∀ k x y, k < np → ig_Q np ns t w x la y lb → ig_Q np ns t w (F k x) la (G k y) lb) : ∀ n, n ≤ np → ig_Q np ns t w (foldN F n a) la (foldN G n b) lb
  | 0, _ => h
  | n + 1, hn => hs n _ _ (by omega) (Q_fold h hs n (by omega))
section STOP
variable {np ns t w : Nat} {a : ig_M} {la : Int64} {b : ig_M} {lb lo : Int64}
theorem Q_np (h : ig_Q np ns t w a la b lb) : np ≤ 8 := h.1.1.1
theorem Q_a1 (h : ig_Q np ns t w a la b lb) : a 1 1 = nI np := h.1.2.1
theorem Q_b2 (h : ig_Q np ns t w a la b lb) : b 97 2 = nI np := h.1.2.2.1
theorem w_fallA (h : ig_Q np ns t w a la b lb) (post : ig_M → Int64 → Prop) (hp : post (foldN redA np a) la) : ∃ j, wp_X0_fallBack_12 post j a la 0 := by
  have hQ := Q_fold h (fun k x y hk hq => Q_red hq (by have := Q_np h; omega)) (F := redA) (G := redB)
  have hnp := Q_np h
  refine fold_loop (fun n k s => wp_X0_fallBack_12 post n s la (nI k)) redA np a ?_ ?_
  · intro n
    exact ⟨fun _ => hp, fun z => absurd (by rw [Q_a1 (hQ np (Nat.le_refl _))]; exact le_self np) z⟩
  · intro n k hk ih
    refine ⟨fun z => absurd (by rw [Q_a1 (hQ k (by omega))] at z; exact z) (nle_of hk (by omega)), fun _ => ⟨vp_in_nI (by omega) (by omega), ?_⟩⟩
    rw [nI_clamp (by omega), nI_1]
    generalize foldN redA k a = x at ih ⊢
    refine ⟨fun c a3 e => ?_, fun c a2 e2 a3 e => ?_⟩
    · rw [e]; unfold redA at ih; rw [if_neg c] at ih; exact ih
    · rw [e, e2]; unfold redA at ih; rw [if_pos c] at ih; exact ih
theorem w_fallB (h : ig_Q np ns t w a la b lb) (post : ig_M → Int64 → Prop) (hp : post (foldN redB np b) lb) : ∃ j, wp_X6_darken_7 post j b lb 0 := by
  have hQ := Q_fold h (fun k x y hk hq => Q_red hq (by have := Q_np h; omega)) (F := redA) (G := redB)
  have hnp := Q_np h
  refine fold_loop (fun n k s => wp_X6_darken_7 post n s lb (nI k)) redB np b ?_ ?_
  · intro n
    exact ⟨fun _ => hp, fun z => absurd (by rw [Q_b2 (hQ np (Nat.le_refl _))]; exact le_self np) z⟩
  · intro n k hk ih
    have v : vp_in (nI k) 8 := vp_in_nI (by omega) (by omega)
    refine ⟨fun z => absurd (by rw [Q_b2 (hQ k (by omega))] at z; exact z) (nle_of hk (by omega)), fun _ => ⟨v, ?_⟩⟩
    unfold wp_X6_darken_43
    rw [nI_clamp (by omega), nI_1]
    generalize foldN redB k b = x at ih ⊢
    refine ⟨fun c => ⟨v, v, fun b7 e7 => ⟨v, fun b9 e9 => ?_⟩⟩, fun c => ⟨v, fun b7 e7 => ⟨v, fun b9 e9 => ?_⟩⟩⟩
    · rw [e9, e7]; unfold redB at ih; rw [if_neg c] at ih; exact ih
    · rw [e9, e7]; unfold redB at ih; rw [if_pos c] at ih; exact ih
theorem Q_back (h : ig_Q np ns t w a la b lb) {m : Int32} (hm : m = 0 ∨ m = 3) : ig_Q np ns t w (ig_up (ig_up a 23 2 m) 23 3 (-1)) la (ig_up b 97 9 m) lb := by
  obtain ⟨⟨hnp, hns, ht⟩, e1, e2, e3, e4, e5, e6, e7, e8⟩ := h.1
  obtain ⟨f1, f2, f3, f4, f5, f6, ⟨s, hs, f7, f8⟩, f9⟩ := h.2.2.2.2.1
  refine Q_lights h _ _ (fun i hi => by simp [up_row hi]) (fun i hi => by simp [up_row hi]) ?_ ?_
  · simp [ig_R1, up_app, hnp, hns, ht, e1, e2, e3, e4, e5, e6, e7, e8]
  · have nw : ¬ (m = 1 ∨ m = 2) := by rcases hm with rfl | rfl <;> decide
    unfold ig_R5 ig_wk
    simp only [up_app]
    refine ⟨by simp, by simpa using f2, by simpa using f3, ?_, by simpa using f5, by simpa using f6, ⟨s, hs, by simpa using f7, fun z => absurd (by simpa using z) nw⟩, fun _ => by simp⟩
    rcases hm with rfl | rfl <;> simp
theorem d_stop (h : ig_R np ns t a la b lb) : ig_twoV (wp_L_stop a la lo) (wp_X6_stop b lb) := by
  have f1 : a 23 2 = b 97 9 := h.2.2.2.2.1.1
  by_cases g : b 97 9 = 0
  · refine ⟨1, a, la, lo, ig_up b 97 0 1, lb, fun post hp => ?_, fun post hp => ?_, thr_at _ _, _, _, _, R_thr h 1⟩
    · simp [wp_L_stop, wp_X5_stop, f1, g, hp]
    · simp [wp_X6_stop, wp_X6_stop_13, w_well, g, hp]
  · have hQ := Q_back (w := t) (R_thr h 0) (Or.inl rfl : (0 : Int32) = 0 ∨ (0 : Int32) = 3)
    have hQ2 := Q_fold hQ (fun k x y hk hq => Q_red hq (by have := Q_np hQ; omega)) (F := redA) (G := redB) np (Nat.le_refl _)
    have z0 : ∀ n (b : ig_M), foldN redB n b 97 0 = b 97 0 := by
      intro n b
      induction n with
      | zero => rfl
      | succ n ih => rw [foldN, ← ih]; simp [redB, up_app]
    refine ⟨0, _, la, lo, _, lb, fun post hp => ?_, fun post hp => ?_, ?_, np, ns, t, hQ2⟩
    · refine ⟨fun _ => ?_, fun z => absurd (by rw [← f1]; exact z) g⟩
      unfold wp_X0_fallBack
      intro a1 e1 a2 e2
      subst e1
      subst e2
      exact w_fallA hQ _ hp
    · refine ⟨fun _ => ?_, fun z => absurd z g⟩
      unfold wp_X6_stop_13
      rw [w_well]
      refine ⟨fun z => absurd z (by decide), fun _ b1 e => ?_⟩
      subst e
      exact w_fallB hQ _ hp
    · rw [z0]; simp [up_app]
end STOP
