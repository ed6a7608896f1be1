/-! ===== out of the rows of whole: rounds ===== -/
/-! ===== rounds: sets of stages as numbers, the least seconds home, the greedy way, all ways; no memory here ===== -/
/-- how many of the first n are not in V -/
def rkN (V : Nat) : Nat → Nat
  | 0 => 0
  | n + 1 => rkN V n + cond (V.testBit n) 0 1
theorem tb_or (V v i : Nat) : (V ||| 2 ^ v).testBit i = (V.testBit i || decide (v = i)) := by
  rw [Nat.testBit_or, Nat.testBit_two_pow]
theorem rk_same {V v : Nat} : ∀ n, n ≤ v → rkN (V ||| 2 ^ v) n = rkN V n
  | 0, _ => rfl
  | n + 1, h => by
    unfold rkN
    rw [rk_same n (by omega), tb_or, decide_eq_false (by omega), Bool.or_false]
theorem rk_or {V v : Nat} (hV : V.testBit v = false) : ∀ n, v < n → rkN (V ||| 2 ^ v) n + 1 = rkN V n
  | 0, h => absurd h (Nat.not_lt_zero v)
  | n + 1, h => by
    unfold rkN
    rw [tb_or]
    by_cases e : v = n
    · subst e
      rw [rk_same v (Nat.le_refl v), hV]
      simp
    · rw [decide_eq_false e, Bool.or_false, ← rk_or hV n (by omega)]
      omega
theorem rk_zero {V : Nat} : ∀ n, rkN V n = 0 → ∀ i, i < n → V.testBit i = true
  | 0, _, i, h => absurd h (Nat.not_lt_zero i)
  | n + 1, h0, i, h => by
    unfold rkN at h0
    have h1 : rkN V n = 0 := by omega
    by_cases e : i = n
    · subst e
      cases c : V.testBit i
      · rw [c] at h0; simp at h0
      · rfl
    · exact rk_zero n h1 i (by omega)
theorem rk_some {V : Nat} : ∀ n, ¬ rkN V n = 0 → ∃ i, i < n ∧ V.testBit i = false
  | 0, h => absurd rfl h
  | n + 1, h => by
    cases c : V.testBit n
    · exact ⟨n, by omega, c⟩
    · unfold rkN at h
      rw [c] at h
      obtain ⟨i, h1, h2⟩ := rk_some n (fun z => h (by rw [z]; rfl))
      exact ⟨i, by omega, h2⟩
theorem rk_le (V : Nat) : ∀ n, rkN V n ≤ n
  | 0 => Nat.le_refl 0
  | n + 1 => by
    unfold rkN
    have := rk_le V n
    cases V.testBit n <;> simp <;> omega
theorem full_iff {V n : Nat} (hV : V < 2 ^ n) (h : rkN V n = 0) : V = 2 ^ n - 1 := by
  apply Nat.eq_of_testBit_eq
  intro i
  rw [Nat.testBit_two_pow_sub_one]
  by_cases c : i < n
  · rw [rk_zero n h i c, decide_eq_true c]
  · rw [decide_eq_false c]
    exact Nat.testBit_lt_two_pow (Nat.lt_of_lt_of_le hV (Nat.pow_le_pow_right (by omega) (by omega)))
theorem rk_all (n : Nat) : rkN (2 ^ n - 1) n = 0 := by
  rcases Nat.eq_zero_or_pos (rkN (2 ^ n - 1) n) with h | h
  · exact h
  · obtain ⟨i, h1, h2⟩ := rk_some n (show ¬ rkN (2 ^ n - 1) n = 0 by omega)
    rw [Nat.testBit_two_pow_sub_one, decide_eq_true h1] at h2
    cases h2
theorem or_lt {V v n : Nat} (hV : V < 2 ^ n) (hv : v < n) : V ||| 2 ^ v < 2 ^ n := Nat.or_lt_two_pow hV (Nat.pow_lt_pow_right (by omega) hv)
theorem lt_or {V v : Nat} (h : V.testBit v = false) : V < V ||| 2 ^ v := by
  rcases Nat.lt_or_eq_of_le ((Nat.left_le_or : V ≤ V ||| 2 ^ v)) with q | q
  · exact q
  · have h2 : (V ||| 2 ^ v).testBit v = true := by rw [tb_or]; simp
    rw [← q, h] at h2
    cases h2
/-- the least of g over those below n that f doesn't have, at most 1000000 -/
def mnF (f : Nat → Bool) (g : Nat → Nat) (i m : Nat) : Nat := if f i = true then m else if g i < m then g i else m
def mnN (f : Nat → Bool) (g : Nat → Nat) (n : Nat) : Nat := foldN (mnF f g) n 1000000
theorem mn_big (f : Nat → Bool) (g : Nat → Nat) : ∀ n, mnN f g n ≤ 1000000
  | 0 => Nat.le_refl _
  | n + 1 => by
    have ih := mn_big f g n
    show mnF f g n (mnN f g n) ≤ _
    unfold mnF
    split
    · exact ih
    · split <;> omega
theorem mn_le {f : Nat → Bool} {g : Nat → Nat} : ∀ n i, i < n → f i = false → mnN f g n ≤ g i
  | 0, i, h, _ => absurd h (Nat.not_lt_zero i)
  | n + 1, i, h, hf => by
    show mnF f g n (mnN f g n) ≤ _
    unfold mnF
    by_cases e : i = n
    · subst e
      rw [hf, if_neg (by decide)]
      split <;> omega
    · have ih := mn_le (f := f) (g := g) n i (by omega) hf
      split
      · exact ih
      · split <;> omega
theorem mn_at (f : Nat → Bool) (g : Nat → Nat) : ∀ n, mnN f g n = 1000000 ∨ ∃ i, i < n ∧ f i = false ∧ mnN f g n = g i
  | 0 => Or.inl rfl
  | n + 1 => by
    have e : mnN f g (n + 1) = mnF f g n (mnN f g n) := rfl
    rw [e]
    unfold mnF
    cases c : f n
    · rw [if_neg (by decide)]
      by_cases d : g n < mnN f g n
      · rw [if_pos d]
        exact Or.inr ⟨n, by omega, c, rfl⟩
      · rw [if_neg d]
        rcases mn_at f g n with h | ⟨i, h1, h2, h3⟩
        · exact Or.inl h
        · exact Or.inr ⟨i, by omega, h2, h3⟩
    · rw [if_pos rfl]
      rcases mn_at f g n with h | ⟨i, h1, h2, h3⟩
      · exact Or.inl h
      · exact Or.inr ⟨i, by omega, h2, h3⟩
/-- the least seconds from x home, over all that V lacks; r: how many those are -/
def hF (c : Nat → Nat → Nat) (n : Nat) : Nat → Nat → Nat → Nat
  | 0, _, x => c x 0
  | r + 1, V, x => mnN (fun i => V.testBit i) (fun i => c x i + hF c n r (V ||| 2 ^ i) i) n
def hV (c : Nat → Nat → Nat) (n V x : Nat) : Nat := hF c n (rkN V n) V x
theorem hF_bound {c : Nat → Nat → Nat} {n : Nat} (hc : ∀ i j, c i j ≤ 20) : ∀ r V x, rkN V n = r → hF c n r V x ≤ 20 * (r + 1)
  | 0, V, x, _ => by
    have := hc x 0
    show c x 0 ≤ _
    omega
  | r + 1, V, x, h => by
    obtain ⟨i, h1, h2⟩ := rk_some (V := V) n (by omega)
    have h3 := rk_or h2 n h1
    have h4 := hF_bound (n := n) hc r (V ||| 2 ^ i) i (by omega)
    have h5 := mn_le (f := fun i => V.testBit i) (g := fun i => c x i + hF c n r (V ||| 2 ^ i) i) n i h1 h2
    have h6 := hc x i
    show mnN (fun i => V.testBit i) (fun i => c x i + hF c n r (V ||| 2 ^ i) i) n ≤ _
    omega
theorem hV_bound {c : Nat → Nat → Nat} {n : Nat} (hc : ∀ i j, c i j ≤ 20) (hn : n ≤ 6) (V x : Nat) : hV c n V x ≤ 140 := by
  have h1 := hF_bound (n := n) hc _ V x rfl
  have h2 := rk_le V n
  unfold hV
  omega
theorem hV_full {c : Nat → Nat → Nat} {n V x : Nat} (h : rkN V n = 0) : hV c n V x = c x 0 := by
  unfold hV
  rw [h]
  rfl
theorem hV_eq {c : Nat → Nat → Nat} {n V x : Nat} (h : ¬ rkN V n = 0) : hV c n V x = mnN (fun i => V.testBit i) (fun i => c x i + hV c n (V ||| 2 ^ i) i) n := by
  unfold hV
  obtain ⟨r, hr⟩ : ∃ r, rkN V n = r + 1 := ⟨rkN V n - 1, by omega⟩
  rw [hr]
  show mnN (fun i => V.testBit i) (fun i => c x i + hF c n r (V ||| 2 ^ i) i) n = _
  refine foldN_congr (fun k hk v => ?_)
  unfold mnF
  show (if V.testBit k = true then v else if c x k + hF c n r (V ||| 2 ^ k) k < v then c x k + hF c n r (V ||| 2 ^ k) k else v) = (if V.testBit k = true then v else if c x k + hF c n (rkN (V ||| 2 ^ k) n) (V ||| 2 ^ k) k < v then c x k + hF c n (rkN (V ||| 2 ^ k) n) (V ||| 2 ^ k) k else v)
  cases d : V.testBit k
  · have h3 := rk_or d n hk
    rw [show rkN (V ||| 2 ^ k) n = r by omega]
  · rw [if_pos rfl, if_pos rfl]
theorem hV_le {c : Nat → Nat → Nat} {n V x i : Nat} (hi : i < n) (h : V.testBit i = false) : hV c n V x ≤ c x i + hV c n (V ||| 2 ^ i) i := by
  rw [hV_eq (by have := rk_or h n hi; omega)]
  exact mn_le (f := fun i => V.testBit i) (g := fun i => c x i + hV c n (V ||| 2 ^ i) i) n i hi h
theorem hV_at {c : Nat → Nat → Nat} {n V x : Nat} (hc : ∀ i j, c i j ≤ 20) (hn : n ≤ 6) (h : ¬ rkN V n = 0) : ∃ i, i < n ∧ V.testBit i = false ∧ hV c n V x = c x i + hV c n (V ||| 2 ^ i) i := by
  have hb := hV_bound hc hn V x
  rw [hV_eq h] at hb ⊢
  rcases mn_at (fun i => V.testBit i) (fun i => c x i + hV c n (V ||| 2 ^ i) i) n with q | q
  · omega
  · exact q
/-- the first that f has, from k on, in m steps -/
def fstF (f : Nat → Bool) : Nat → Nat → Nat
  | 0, k => k
  | m + 1, k => if f k = true then k else fstF f m (k + 1)
theorem fstF_spec (f : Nat → Bool) : ∀ m k, (∃ i, k ≤ i ∧ i < k + m ∧ f i = true) → k ≤ fstF f m k ∧ fstF f m k < k + m ∧ f (fstF f m k) = true ∧ ∀ j, k ≤ j → j < fstF f m k → f j = false
  | 0, k, h => by
    obtain ⟨i, h1, h2, _⟩ := h
    omega
  | m + 1, k, h => by
    unfold fstF
    cases c : f k
    · rw [if_neg (by decide)]
      obtain ⟨i, h1, h2, h3⟩ := h
      have hne : ¬ i = k := fun z => by rw [z, c] at h3; cases h3
      obtain ⟨a1, a2, a3, a4⟩ := fstF_spec f m (k + 1) ⟨i, by omega, by omega, h3⟩
      refine ⟨by omega, by omega, a3, fun j j1 j2 => ?_⟩
      by_cases e : j = k
      · subst e; exact c
      · exact a4 j (by omega) j2
    · rw [if_pos rfl]
      exact ⟨Nat.le_refl _, by omega, c, fun j j1 j2 => by omega⟩
def gsB (c : Nat → Nat → Nat) (n V x i : Nat) : Bool := !V.testBit i && decide (c x i + hV c n (V ||| 2 ^ i) i = hV c n V x)
/-- the first that the shortest way home may go to -/
def gst (c : Nat → Nat → Nat) (n V x : Nat) : Nat := fstF (gsB c n V x) n 0
theorem gst_spec {c : Nat → Nat → Nat} {n V x : Nat} (hc : ∀ i j, c i j ≤ 20) (hn : n ≤ 6) (h : ¬ rkN V n = 0) : gst c n V x < n ∧ V.testBit (gst c n V x) = false ∧ c x (gst c n V x) + hV c n (V ||| 2 ^ (gst c n V x)) (gst c n V x) = hV c n V x ∧ ∀ j, j < gst c n V x → gsB c n V x j = false := by
  obtain ⟨i, h1, h2, h3⟩ := hV_at (x := x) hc hn h
  obtain ⟨a1, a2, a3, a4⟩ := fstF_spec (gsB c n V x) n 0 ⟨i, by omega, by omega, by unfold gsB; rw [h2, h3]; simp⟩
  have a5 : gsB c n V x (gst c n V x) = true := a3
  unfold gsB at a5
  simp only [Bool.and_eq_true, Bool.not_eq_true', decide_eq_true_eq] at a5
  exact ⟨by unfold gst; omega, a5.1, a5.2, fun j hj => a4 j (by omega) hj⟩
/-- the stage after i steps of the greedy way -/
def itN (c : Nat → Nat → Nat) (n : Nat) : Nat → Nat → Nat → Nat
  | 0, _, x => x
  | i + 1, V, x => itN c n i (V ||| 2 ^ (gst c n V x)) (gst c n V x)
/-! ===== all ways by their numbers ===== -/
def stlF (V : Nat) : Nat → Nat → Nat → Nat
  | 0, _, _ => 0
  | f + 1, k, t => if V.testBit k = true then stlF V f (k + 1) t else if t = 0 then k else stlF V f (k + 1) (t - 1)
/-- the t-th below n that V lacks -/
def stl (V n t : Nat) : Nat := stlF V n 0 t
set_option maxRecDepth 100000 in
theorem stl_in : ∀ n, n < 7 → ∀ V, V < 64 → ∀ t, t < rkN V n → stl V n t < n ∧ V.testBit (stl V n t) = false := by decide +kernel
set_option maxRecDepth 100000 in
theorem stl_on : ∀ n, n < 7 → ∀ V, V < 64 → ∀ v, v < n → V.testBit v = false → ∃ t, t < rkN V n ∧ stl V n t = v := by decide +kernel
def facN : Nat → Nat
  | 0 => 1
  | n + 1 => (n + 1) * facN n
def cwF (c : Nat → Nat → Nat) (n : Nat) : Nat → Nat → Nat → Nat → Nat
  | 0, _, x, _ => c x 0
  | r + 1, V, x, w => c x (stl V n (w % (r + 1))) + cwF c n r (V ||| 2 ^ (stl V n (w % (r + 1)))) (stl V n (w % (r + 1))) (w / (r + 1))
theorem pow6 {n : Nat} (hn : n ≤ 6) : 2 ^ n ≤ 64 := Nat.pow_le_pow_right (n := 2) (by omega) hn
theorem cw_ge {c : Nat → Nat → Nat} {n : Nat} (hn : n ≤ 6) : ∀ r V x w, V < 2 ^ n → rkN V n = r → hV c n V x ≤ cwF c n r V x w
  | 0, V, x, w, _, h => by
    rw [hV_full h]
    exact Nat.le_refl _
  | r + 1, V, x, w, hV0, h => by
    have h1 : w % (r + 1) < r + 1 := Nat.mod_lt _ (by omega)
    have h6 := pow6 hn
    obtain ⟨a1, a2⟩ := stl_in n (by omega) V (by omega) (w % (r + 1)) (by omega)
    have a3 := rk_or a2 n a1
    have a4 := cw_ge (c := c) hn r _ (stl V n (w % (r + 1))) (w / (r + 1)) (or_lt hV0 a1) (by omega)
    have a5 := hV_le (c := c) (x := x) a1 a2
    show _ ≤ c x (stl V n (w % (r + 1))) + cwF c n r _ _ _
    omega
theorem cw_at {c : Nat → Nat → Nat} {n : Nat} (hc : ∀ i j, c i j ≤ 20) (hn : n ≤ 6) : ∀ r V x, V < 2 ^ n → rkN V n = r → ∃ w, w < facN r ∧ cwF c n r V x w = hV c n V x
  | 0, V, x, _, h => ⟨0, by decide, by rw [hV_full h]; rfl⟩
  | r + 1, V, x, hV0, h => by
    have h6 := pow6 hn
    obtain ⟨v, v1, v2, v3⟩ := hV_at (x := x) hc hn (show ¬ rkN V n = 0 by omega)
    obtain ⟨t, t1, t2⟩ := stl_on n (by omega) V (by omega) v v1 v2
    have a3 := rk_or v2 n v1
    obtain ⟨w, w1, w2⟩ := cw_at hc hn r _ v (or_lt hV0 v1) (show rkN (V ||| 2 ^ v) n = r by omega)
    have t3 : t < r + 1 := by omega
    refine ⟨t + (r + 1) * w, ?_, ?_⟩
    · show _ < (r + 1) * facN r
      have : (r + 1) * (w + 1) ≤ (r + 1) * facN r := Nat.mul_le_mul_left _ w1
      rw [Nat.mul_add] at this
      omega
    · have e1 : (t + (r + 1) * w) % (r + 1) = t := by rw [Nat.add_mul_mod_self_left, Nat.mod_eq_of_lt t3]
      have e2 : (t + (r + 1) * w) / (r + 1) = w := by rw [Nat.add_mul_div_left _ _ (by omega), Nat.div_eq_of_lt t3, Nat.zero_add]
      show c x (stl V n _) + cwF c n r _ _ _ = _
      rw [e1, e2, t2, w2, v3]
theorem cw_min {c : Nat → Nat → Nat} {n V x r : Nat} (hc : ∀ i j, c i j ≤ 20) (hn : n ≤ 6) (hV0 : V < 2 ^ n) (h : rkN V n = r) : mnN (fun _ => false) (cwF c n r V x) (facN r) = hV c n V x := by
  obtain ⟨w, w1, w2⟩ := cw_at (x := x) hc hn r V hV0 h
  have h1 := mn_le (f := fun _ => false) (g := cwF c n r V x) (facN r) w w1 rfl
  have h2 := hV_bound hc hn V x
  rcases mn_at (fun _ => false) (cwF c n r V x) (facN r) with q | ⟨i, _, _, q⟩
  · omega
  · have := cw_ge (c := c) hn r V x i hV0 h
    omega
/-! ===== sums over stages ===== -/
def smF (l : Nat → Nat) (i acc : Nat) : Nat := acc + l i
def smN (l : Nat → Nat) (n : Nat) : Nat := foldN (smF l) n 0
theorem smN_s (l : Nat → Nat) (n : Nat) : smN l (n + 1) = smN l n + l n := rfl
theorem smN_congr {l m : Nat → Nat} : ∀ n, (∀ i, i < n → l i = m i) → smN l n = smN m n
  | 0, _ => rfl
  | n + 1, h => by rw [smN_s, smN_s, smN_congr n (fun i hi => h i (by omega)), h n (by omega)]
theorem smN_le {l : Nat → Nat} {M : Nat} : ∀ n, (∀ i, i < n → l i ≤ M) → smN l n ≤ M * n
  | 0, _ => Nat.le_refl _
  | n + 1, h => by
    have h1 := smN_le n (fun i hi => h i (by omega))
    have h2 := h n (by omega)
    rw [smN_s, Nat.mul_add]
    omega
/-! ===== rounds: the class's side ===== -/
theorem mx_rng {u v M : Int32} (h0 : 0 ≤ u) (hu : u ≤ M) (hv : v ≤ M) : 0 ≤ mxI u v ∧ mxI u v ≤ M := by
  refine ⟨mxI_pos h0, ?_⟩
  unfold mxI
  split
  · exact hv
  · exact hu
theorem mbv_rng {x M : Int32} {r : Nat → Int32} (hM : 0 ≤ M) : ∀ n, (∀ q, q < n → r q ≤ M) → 0 ≤ mbv x r n ∧ mbv x r n ≤ M
  | 0, _ => ⟨Int32.le_refl _, hM⟩
  | n + 1, h => by
    have ih := mbv_rng (x := x) hM n (fun q hq => h q (by omega))
    show 0 ≤ mbF x r n (mbv x r n) ∧ mbF x r n (mbv x r n) ≤ M
    unfold mbF
    split
    · exact mx_rng ih.1 ih.2 (h n (by omega))
    · exact ih
theorem chF_rng {b : ig_M} {np : Nat} (hnp : np ≤ 8) {M L C : Int32} (hM : 0 ≤ M) (h : ∀ p q, p < 8 → q < 8 → b 101 (8 * p + q) ≤ M) : ∀ n, n ≤ np → 0 ≤ foldN (chF b np L C) n 0 ∧ foldN (chF b np L C) n 0 ≤ M
  | 0, _ => ⟨Int32.le_refl _, hM⟩
  | n + 1, hn => by
    have ih := chF_rng hnp (L := L) (C := C) hM h n (by omega)
    show 0 ≤ chF b np L C n (foldN (chF b np L C) n 0) ∧ chF b np L C n (foldN (chF b np L C) n 0) ≤ M
    unfold chF
    split
    · exact mx_rng ih.1 ih.2 (mbv_rng hM np (fun q hq => h n q (by omega) (by omega))).2
    · exact ih
theorem nat_rng {x : Int32} {M : Nat} (hM : M < 2 ^ 31) (h0 : 0 ≤ x) (h1 : x ≤ nI M) : x = nI x.toNatClampNeg ∧ x.toNatClampNeg ≤ M := by
  obtain ⟨j, hj, rfl⟩ := nI_of (fun z => i_le.mpr z h0)
  rw [nI_clamp hj]
  exact ⟨rfl, (nI_leI hj hM).mp h1⟩
theorem vin_0_6 : vp_in 0 6 := vp_in_nI (n := 0) (by omega) (by omega)
theorem vin_1_64 : vp_in 1 64 := vp_in_nI (n := 1) (by omega) (by omega)
theorem mnF_f {f : Nat → Bool} {g : Nat → Nat} {i m : Nat} (h : f i = false) : mnF f g i m = if g i < m then g i else m := by
  unfold mnF
  rw [h, if_neg (by decide)]
theorem mnF_t {f : Nat → Bool} {g : Nat → Nat} {i m : Nat} (h : f i = true) : mnF f g i m = m := by
  unfold mnF
  rw [h, if_pos rfl]
def cN (b : ig_M) (np i j : Nat) : Nat := (chv b np i j).toNatClampNeg
def lgN (b : ig_M) (np s : Nat) : Nat := (mbv (b 102 s) (b 98) np).toNatClampNeg
/-- what round answers -/
def rdV (b : ig_M) (np ns : Nat) : Int32 := if ns = 0 then -1 else nI (smN (lgN b np) ns + hV (cN b np) ns 1 0)
theorem hb_V : ∀ V, V < 64 → ∀ i, i < 6 → hb (nI V) (nI i) = V.testBit i := by decide +kernel
theorem or_V : ∀ V, V < 64 → ∀ i, i < 6 → nI V ||| (1 <<< (nI i &&& 31)) = nI (V ||| 2 ^ i) := by decide +kernel
theorem sh_V : ∀ n, n < 7 → (1 : Int32) <<< (nI n &&& 31) = nI (2 ^ n) := by decide +kernel
theorem nI_m1 (n : Nat) : nI (n + 1) + (-1) = nI n := by
  rw [← nI_1 n, Int32.add_assoc, show (1 : Int32) + (-1) = 0 from rfl, Int32.add_zero]
theorem nI_m2 (n : Nat) : nI (n + 1) + (-2) = nI n - 1 := by
  rw [← nI_1 n, Int32.add_assoc, show (1 : Int32) + (-2) = -1 from rfl, Int32.sub_eq_add_neg]
theorem nI_min {A m : Nat} (hA : A < 2 ^ 31) (hm : m < 2 ^ 31) : (if nI A < nI m then nI A else nI m) = nI (if A < m then A else m) := by
  by_cases h : A < m
  · rw [if_pos h, if_pos ((nI_ltI hA hm).mpr h)]
  · rw [if_neg h, if_neg (fun z => h ((nI_ltI hA hm).mp z))]
theorem rk_nil (n : Nat) : rkN 0 n = n := by
  induction n with
  | zero => rfl
  | succ n ih => unfold rkN; rw [ih, Nat.zero_testBit]; rfl
theorem rk_one {n : Nat} (hn : 0 < n) : rkN 1 n + 1 = n := by
  have := rk_or (V := 0) (v := 0) (Nat.zero_testBit 0) n hn
  rw [rk_nil] at this
  exact this
theorem tb_odd (m : Nat) : (2 * m).testBit 0 = false := by rw [Nat.testBit_zero]; simp
theorem tb_odd1 (m : Nat) : (2 * m + 1).testBit 0 = true := by rw [Nat.testBit_zero]; simp
theorem tb_keep {V v i : Nat} (h : V.testBit i = true) : (V ||| 2 ^ v).testBit i = true := by rw [tb_or, h]; rfl
theorem tb_self (V v : Nat) : (V ||| 2 ^ v).testBit v = true := by rw [tb_or]; simp
section RNDA
variable {np ns t w : Nat} {a : ig_M} {la : Int64} {b : ig_M} {lb lo : Int64}
theorem cN_eq (h : ig_Q np ns t w a la b lb) (i j : Nat) : chv b np i j = nI (cN b np i j) ∧ cN b np i j ≤ 20 := by
  have hr := chF_rng (b := b) (np := np) h.1.1.1 (M := 20) (L := b 102 i &&& (b 102 j ^^^ (-1))) (C := b 102 j &&& (b 102 i ^^^ (-1))) (by decide) (fun p q hp hq => by
    have := h.2.2.1 p q hp hq
    rw [← this.1]; exact this.2.2) np (Nat.le_refl _)
  exact nat_rng (x := chv b np i j) (M := 20) (by omega) hr.1 hr.2
theorem lgN_eq (h : ig_Q np ns t w a la b lb) (s : Nat) : mbv (b 102 s) (b 98) np = nI (lgN b np s) ∧ lgN b np s ≤ 30 := by
  have hr := mbv_rng (x := b 102 s) (M := 30) (r := b 98) (by decide) np (fun q hq => by
    have := h.2.1 q (by have := h.1.1.1; omega)
    rw [← this.1.1]
    exact this.2.2.2.2.2.2.2)
  exact nat_rng (x := mbv (b 102 s) (b 98) np) (M := 30) (by omega) hr.1 hr.2
theorem Q_scr (h : ig_Q np ns t w a la b lb) {a' b' : ig_M} (ha : ∀ i, ¬ (26 ≤ i ∧ i < 97) → a' i = a i) (hb : ∀ i, ¬ (i = 113 ∨ i = 114) → b' i = b i) : ig_Q np ns t w a' la b' lb := by
  obtain ⟨h1, h2, h3, h4, h5, h6⟩ := h
  refine ⟨?_, ?_, ?_, ?_, ?_, ?_⟩
  · unfold ig_R1
    rw [ha 1 (by omega), ha 23 (by omega), hb 97 (by omega)]
    exact h1
  · intro q hq
    have h0 := h2 q hq
    rw [ha (3 + q) (by omega)]
    unfold ig_ph at *
    rw [hb 98 (by omega), hb 99 (by omega), hb 100 (by omega), hb 103 (by omega), hb 104 (by omega), hb 105 (by omega), hb 106 (by omega), hb 107 (by omega), hb 108 (by omega), hb 109 (by omega), hb 110 (by omega), hb 111 (by omega)]
    exact h0
  · intro u v hu hv
    rw [ha (12 + u) (by omega), hb 101 (by omega)]
    exact h3 u v hu hv
  · intro s hs
    rw [ha 20 (by omega), hb 102 (by omega)]
    exact h4 s hs
  · rw [ha 23 (by omega), hb 97 (by omega)]
    exact h5
  · intro u hu
    rw [ha 22 (by omega), hb 112 (by omega)]
    exact h6 u hu
theorem Q_a4 (h : ig_Q np ns t w a la b lb) : a 1 4 = nI ns := h.1.2.2.2.1
theorem Q_ns (h : ig_Q np ns t w a la b lb) : ns ≤ 6 := h.1.1.2.1
theorem w_findCh (h : ig_Q np ns t w a la b lb) (post : ig_M → Int64 → Prop) (hp : ∀ a', (∀ i, ¬ (26 ≤ i ∧ i < 32) → a' i = a i) → (∀ i j, i < ns → j < ns → a' (26 + i) j = chv b np i j) → post a' la) : wp_X4_findChanges a la post := by
  have hns := Q_ns h
  have e3 : ∀ s : ig_M, (∀ i, ¬ (26 ≤ i ∧ i < 32) → s i = a i) → s 1 4 = nI ns := fun s hs => by rw [hs 1 (by omega)]; exact Q_a4 h
  refine pk_loop (σ := ig_M) (fun n k s => wp_X4_findChanges_2 post n s la (nI k)) (fun k s => (∀ i, ¬ (26 ≤ i ∧ i < 32) → s i = a i) ∧ ∀ i j, i < k → j < ns → s (26 + i) j = chv b np i j) ns 0 a (Nat.zero_le _) ⟨fun i _ => rfl, fun i j hi _ => absurd hi (Nat.not_lt_zero i)⟩ ?_ ?_
  · intro n s hI
    exact ⟨fun _ => hp s hI.1 hI.2, fun z => absurd (by rw [e3 s hI.1]; exact le_self ns) z⟩
  · intro n k s hk hI ih
    refine ⟨fun z => absurd (by rw [e3 s hI.1] at z; exact z) (nle_of hk (by omega)), fun _ => ?_⟩
    refine pk_loop (σ := ig_M) (fun m j s => wp_X4_findChanges_15 (fun z0 z1 z2 => wp_X4_findChanges_2 post n z0 z1 z2) post m s la (nI k) (nI j)) (fun j s => (∀ i, ¬ (26 ≤ i ∧ i < 32) → s i = a i) ∧ (∀ i j, i < k → j < ns → s (26 + i) j = chv b np i j) ∧ ∀ j', j' < j → s (26 + k) j' = chv b np k j') ns 0 s (Nat.zero_le _) ⟨hI.1, hI.2, fun j hj => absurd hj (Nat.not_lt_zero j)⟩ ?_ ?_
    · intro m s hI
      refine ⟨fun _ => ?_, fun z => absurd (by rw [e3 s hI.1]; exact le_self ns) z⟩
      rw [nI_1]
      refine ih s ⟨hI.1, fun i j hi hj => ?_⟩
      rcases Nat.lt_succ_iff_lt_or_eq.mp hi with q | rfl
      · exact hI.2.1 i j q hj
      · exact hI.2.2 j hj
    · intro m j s hj hI ih2
      have hQ : ig_Q np ns t w s la b lb := Q_scr h (fun i hi => hI.1 i (by omega)) (fun _ _ => rfl)
      refine ⟨fun z => absurd (by rw [e3 s hI.1] at z; exact z) (nle_of hj (by omega)), fun _ => ⟨vp_in_nI (by omega) (by omega), w_chA hQ hk hj _ ⟨vp_in_nI (by omega) (by omega), fun a6 e6 => ?_⟩⟩⟩
      rw [nI_clamp (by omega), nI_clamp (by omega)] at e6
      rw [nI_1, e6]
      refine ih2 _ ⟨fun i hi => by rw [up_row (by omega)]; exact hI.1 i hi, fun i j' hi hj' => by rw [up_row (by omega)]; exact hI.2.1 i j' hi hj', fun j' hj' => ?_⟩
      rw [up_app, if_pos rfl]
      by_cases e : j' = j
      · rw [if_pos e, e]
      · rw [if_neg e]; exact hI.2.2 j' (by omega)
theorem w_homeBy {c : Nat → Nat → Nat} (hns : ns ≤ 6) {V x k : Nat} (hV0 : V < 2 ^ ns) (hx : x < ns) (hk : k < ns) (hch : a (26 + x) k = nI (c x k)) (hho : a (33 + (V ||| 2 ^ k)) k = nI (hV c ns (V ||| 2 ^ k) k)) (post : Int32 → Prop) (hp : post (nI (c x k + hV c ns (V ||| 2 ^ k) k))) : wp_X4_homeBy a la (nI x) (nI k) (nI V) post := by
  have h6 := pow6 hns
  have h7 := or_lt hV0 hk
  unfold wp_X4_homeBy
  rw [or_V V (by omega) k (by omega), nI_clamp (by omega), nI_clamp (by omega), nI_clamp (by omega), hch, hho, nI_add]
  exact ⟨vp_in_nI (by omega) (by omega), vp_in_nI (by omega) (by omega), vp_in_nI (by omega) (by omega), vp_in_nI (by omega) (by omega), hp⟩
theorem w_lh {c : Nat → Nat → Nat} (h : a 1 4 = nI ns) (hns : ns ≤ 6) (hc : ∀ i j, c i j ≤ 20) {V x : Nat} (hV0 : V < 2 ^ ns) (hx : x < ns) (hch : ∀ i j, i < ns → j < ns → a (26 + i) j = nI (c i j)) (hho : ∀ i, i < ns → V.testBit i = false → a (33 + (V ||| 2 ^ i)) i = nI (hV c ns (V ||| 2 ^ i) i)) (hr : ¬ rkN V ns = 0)
    (post : Int32 → Prop) (hp : post (nI (hV c ns V x))) : wp_X4_leastHome a la (nI x) (nI V) post := by
  have h6 := pow6 hns
  rw [hV_eq hr] at hp
  refine fold_loop (fun n k m => wp_X4_leastHome_6 a la post n (nI x) (nI V) (nI m) (nI k)) (mnF (fun i => V.testBit i) (fun i => c x i + hV c ns (V ||| 2 ^ i) i)) ns 1000000 (fun n => ⟨fun _ => hp, fun z => absurd (by rw [h]; exact le_self ns) z⟩) ?_
  intro n k hk ih
  have hm : foldN (mnF (fun i => V.testBit i) (fun i => c x i + hV c ns (V ||| 2 ^ i) i)) k 1000000 ≤ 1000000 := mn_big _ _ k
  generalize foldN _ k _ = m at hm ih ⊢
  refine ⟨fun z => absurd (by rw [h] at z; exact z) (nle_of hk (by omega)), fun _ => ?_⟩
  rw [w_has, hb_V V (by omega) k (by omega), nI_1]
  cases d : V.testBit k
  · have e : mnF (fun i => V.testBit i) (fun i => c x i + hV c ns (V ||| 2 ^ i) i) k m = (if c x k + hV c ns (V ||| 2 ^ k) k < m then c x k + hV c ns (V ||| 2 ^ k) k else m) := mnF_f d
    rw [e] at ih
    refine ⟨fun z => absurd rfl z, fun _ => w_homeBy hns hV0 hx hk (hch x k hx hk) (hho k hk d) _ ?_⟩
    have b1 := hc x k
    have b2 := hV_bound hc hns (V ||| 2 ^ k) k
    rw [nI_min (by omega) (by omega)]
    exact ih
  · have e : mnF (fun i => V.testBit i) (fun i => c x i + hV c ns (V ||| 2 ^ i) i) k m = m := mnF_t d
    rw [e] at ih
    exact ⟨fun _ => ih, fun z => absurd z ne10⟩
theorem w_ways (h : ig_Q np ns t w a la b lb) (hns0 : 0 < ns) (post : ig_M → Int64 → Prop) (hp : ∀ a', (∀ i, ¬ (26 ≤ i ∧ i < 97) → a' i = a i) → (∀ i j, i < ns → j < ns → a' (26 + i) j = nI (cN b np i j)) → (∀ V x, V < 2 ^ ns → V.testBit 0 = true → x < ns → V.testBit x = true → a' (33 + V) x = nI (hV (cN b np) ns V x)) → post a' la) : wp_X4_findWaysHome a la post := by
  have hns := Q_ns h
  have h6 := pow6 hns
  have hc : ∀ i j, cN b np i j ≤ 20 := fun i j => (cN_eq h i j).2
  unfold wp_X4_findWaysHome
  refine w_findCh h _ (fun a1 hf hch => ?_)
  have e14 : a1 1 4 = nI ns := by rw [hf 1 (by omega)]; exact Q_a4 h
  obtain ⟨M, hM⟩ : ∃ M, 2 ^ ns = 2 * M := ⟨2 ^ (ns - 1), by rw [← Nat.pow_succ']; congr 1; omega⟩
  have hM0 : 0 < M := by have := Nat.two_pow_pos ns; omega
  have e1 : (1 : Int32) <<< (nI ns &&& 31) - 1 = nI (2 ^ ns - 1) := by rw [sh_V ns (by omega)]; exact pk_sub (a := 2 ^ ns) (b := 1) (by omega)
  have e2 : nI (2 ^ ns - 1) = nI (2 * M) - 1 := by rw [hM]; exact (pk_sub (a := 2 * M) (b := 1) (by omega)).symm
  rw [e14, e1]
  have key : wp_X4_findWaysHome_18 post (M + 1) a1 la (nI (2 ^ ns - 1)) (nI (2 * M) - 1) := by
    refine pk_loopD (σ := ig_M) (fun n m s => wp_X4_findWaysHome_18 post n s la (nI (2 ^ ns - 1)) (nI (2 * m) - 1)) (fun m s => m ≤ M ∧ (∀ i, ¬ (26 ≤ i ∧ i < 97) → s i = a i) ∧ (∀ i j, i < ns → j < ns → s (26 + i) j = nI (cN b np i j)) ∧ ∀ V x, 2 * m ≤ V → V < 2 ^ ns → V.testBit 0 = true → x < ns → V.testBit x = true → s (33 + V) x = nI (hV (cN b np) ns V x)) ?_ ?_ M a1 ⟨Nat.le_refl _, fun i hi => hf i (by omega), fun i j hi hj => by rw [hch i j hi hj]; exact (cN_eq h i j).1, fun V x v1 v2 => by omega⟩
    · intro n s hI
      have z : nI (2 * 0) - 1 ≤ 0 := by decide
      exact ⟨fun _ => hp s hI.2.1 hI.2.2.1 (fun V x v1 v2 v3 v4 => hI.2.2.2 V x (by omega) v1 v2 v3 v4), fun y => absurd z y⟩
    · intro n m s hI ih
      have ev : nI (2 * (m + 1)) - 1 = nI (2 * m + 1) := pk_sub (a := 2 * m + 2) (b := 1) (by omega)
      have hm := hI.1
      have hVl : 2 * m + 1 < 2 ^ ns := by omega
      rw [ev]
      refine ⟨fun z => absurd z (nI_ge (a := 0) (b := 2 * m + 1) (by omega) (by omega)), fun _ => ?_⟩
      refine pk_loop (σ := ig_M) (fun j x s => wp_X4_findWaysHome_24 (fun z0 z1 z2 z3 => wp_X4_findWaysHome_18 post n z0 z1 z2 z3) post j s la (nI (2 ^ ns - 1)) (nI (2 * m + 1)) (nI x)) (fun x s => (∀ i, ¬ (26 ≤ i ∧ i < 97) → s i = a i) ∧ (∀ i j, i < ns → j < ns → s (26 + i) j = nI (cN b np i j)) ∧ (∀ V x, 2 * (m + 1) ≤ V → V < 2 ^ ns → V.testBit 0 = true → x < ns → V.testBit x = true → s (33 + V) x = nI (hV (cN b np) ns V x)) ∧ ∀ x', x' < x → (2 * m + 1).testBit x' = true → s (33 + (2 * m + 1)) x' = nI (hV (cN b np) ns (2 * m + 1) x')) ns 0 s (Nat.zero_le _) ⟨hI.2.1, hI.2.2.1, hI.2.2.2, fun x hx => absurd hx (Nat.not_lt_zero x)⟩ ?_ ?_
      · intro j s hI
        have e14 : s 1 4 = nI ns := by rw [hI.1 1 (by omega)]; exact Q_a4 h
        refine ⟨fun _ => ?_, fun z => absurd (by rw [e14]; exact le_self ns) z⟩
        rw [nI_m2]
        refine ih s ⟨by omega, hI.1, hI.2.1, fun V x v1 v2 v3 v4 v5 => ?_⟩
        by_cases c1 : V = 2 * m + 1
        · subst c1; exact hI.2.2.2 x v4 v5
        · by_cases c2 : V = 2 * m
          · subst c2; rw [tb_odd] at v3; cases v3
          · exact hI.2.2.1 V x (by omega) v2 v3 v4 v5
      · intro j x s hx hI ih2
        have e14 : s 1 4 = nI ns := by rw [hI.1 1 (by omega)]; exact Q_a4 h
        refine ⟨fun z => absurd (by rw [e14] at z; exact z) (nle_of hx (by omega)), fun _ => ?_⟩
        rw [w_has, hb_V (2 * m + 1) (by omega) x (by omega), nI_1]
        cases d : (2 * m + 1).testBit x
        · refine ⟨fun _ => ih2 s ⟨hI.1, hI.2.1, hI.2.2.1, fun x' hx' hb => ?_⟩, fun z => absurd rfl z⟩
          by_cases e : x' = x
          · subst e; rw [d] at hb; cases hb
          · exact hI.2.2.2 x' (by omega) hb
        · have fin : wp_X4_findWaysHome_72 (fun z0 z1 z2 z3 z4 => wp_X4_findWaysHome_24 (fun z0 z1 z2 z3 => wp_X4_findWaysHome_18 post n z0 z1 z2 z3) post j z0 z1 z2 z3 z4) post s la (nI (2 ^ ns - 1)) (nI (2 * m + 1)) (nI x) (nI (hV (cN b np) ns (2 * m + 1) x)) (nI x) (nI (2 * m + 1)).toNatClampNeg := by
            refine ⟨vp_in_nI (by omega) (by omega), fun a13 e13 => ?_⟩
            rw [nI_clamp (by omega), nI_clamp (by omega)] at e13
            rw [nI_1, e13]
            refine ih2 _ ⟨fun i hi => by rw [up_row (by omega)]; exact hI.1 i hi, fun i j hi hj => by rw [up_row (by omega)]; exact hI.2.1 i j hi hj, fun V x' v1 v2 v3 v4 v5 => by rw [up_row (by omega)]; exact hI.2.2.1 V x' v1 v2 v3 v4 v5, fun x' hx' hb => ?_⟩
            rw [up_app, if_pos rfl]
            by_cases e : x' = x
            · rw [if_pos e, e]
            · rw [if_neg e]; exact hI.2.2.2 x' (by omega) hb
          refine ⟨fun z => absurd z ne10, fun _ => ⟨vp_in_nI (by omega) (by omega), fun z => ?_, fun z => ?_⟩⟩
          · have hr : ¬ rkN (2 * m + 1) ns = 0 := fun y => z (by rw [full_iff hVl y])
            refine w_lh e14 hns hc hVl hx hI.2.1 (fun i hi hti => ?_) hr _ fin
            exact hI.2.2.1 _ i (by have := lt_or hti; omega) (or_lt hVl hi) (tb_keep (tb_odd1 m)) hi (tb_self _ _)
          · have hz : 2 * m + 1 = 2 ^ ns - 1 := (nI_eq (by omega) (by omega)).mp z
            have hr : rkN (2 * m + 1) ns = 0 := by rw [hz]; exact rk_all ns
            refine ⟨vp_in_nI (by omega) (by omega), vin_0_6, ?_⟩
            have e0 : s (26 + x) 0 = nI (hV (cN b np) ns (2 * m + 1) x) := by rw [hV_full hr]; exact hI.2.1 x 0 hx hns0
            have e00 : (0 : Int32).toNatClampNeg = 0 := by decide
            rw [e00, nI_clamp (show x < 2 ^ 31 by omega), e0]
            rw [nI_clamp (show 2 * m + 1 < 2 ^ 31 by omega)] at fin ⊢
            exact fin
  rw [← e2] at key
  exact ⟨M + 1, key⟩
theorem w_gl (h : ig_Q np ns t w a la b lb) {s : Nat} (hs : s < ns) (post : Int32 → Prop) (hp : post (mbv (b 102 s) (b 98) np)) : wp_X3_greatestLeast a la (nI s) post := by
  have hns := Q_ns h
  have hnp := Q_np h
  refine fold_loop (fun n k v => wp_X3_greatestLeast_4 a la post n (nI s) v (nI k)) (mbF (b 102 s) (b 98)) np 0 (fun n => ⟨fun _ => hp, fun z => absurd (by rw [Q_a1 h]; exact le_self np) z⟩) ?_
  intro n k hk ih
  generalize foldN _ k _ = v at ih ⊢
  refine ⟨fun z => absurd (by rw [Q_a1 h] at z; exact z) (nle_of hk (by omega)), fun _ => ?_⟩
  rw [w_setOf a la ns s hns hs (Q_a4 h), h.2.2.2.1 s (by omega), w_has, nI_1, nI_clamp (by omega), (h.2.1 k (by omega)).1.1]
  unfold mbF mxI at ih
  cases c : hb (b 102 s) (nI k)
  · rw [c, if_neg (by decide)] at ih
    exact ⟨fun _ => ih, fun z => absurd rfl z⟩
  · rw [c, if_pos rfl] at ih
    exact ⟨fun z => absurd z ne10, fun _ => ⟨vp_in_nI (by omega) (by omega), ih⟩⟩
theorem w_sog (h : ig_Q np ns t w a la b lb) (post : Int32 → Prop) (hp : post (nI (smN (lgN b np) ns))) : wp_X4_secondsOfGreens a la post := by
  have hns := Q_ns h
  refine fold_loop (fun n k v => wp_X4_secondsOfGreens_4 a la post n (nI v) (nI k)) (smF (lgN b np)) ns 0 (fun n => ⟨fun _ => hp, fun z => absurd (by rw [Q_a4 h]; exact le_self ns) z⟩) ?_
  intro n k hk ih
  generalize foldN _ k _ = v at ih ⊢
  refine ⟨fun z => absurd (by rw [Q_a4 h] at z; exact z) (nle_of hk (by omega)), fun _ => w_gl h hk _ ?_⟩
  rw [(lgN_eq h k).1, nI_add, nI_1]
  exact ih
theorem w_shortA (h : ig_Q np ns t w a la b lb) (post : Int32 → ig_M → Int64 → Prop) (hp : ∀ a', (∀ i, ¬ (26 ≤ i ∧ i < 97) → a' i = a i) → post (rdV b np ns) a' la) : wp_X4_shortest a la post := by
  have hns := Q_ns h
  unfold wp_X4_shortest
  rw [Q_a4 h]
  by_cases h0 : ns = 0
  · have e : rdV b np ns = -1 := if_pos h0
    rw [e] at hp
    exact ⟨fun z => absurd (by rw [h0]; rfl) z, fun _ => hp a (fun _ _ => rfl)⟩
  · have hz : ¬ nI ns = 0 := fun z => h0 ((nI_eq (a := ns) (b := 0) (by omega) (by omega)).mp z)
    refine ⟨fun _ => ?_, fun z => absurd z hz⟩
    refine w_ways h (by omega) _ (fun a' hf hch hho => ?_)
    refine w_sog (Q_scr h hf (fun _ _ => rfl)) _ ⟨vin_1_64, vin_0_6, ?_⟩
    have e1 : (1 : Int32).toNatClampNeg = 1 := by decide
    have e00 : (0 : Int32).toNatClampNeg = 0 := by decide
    have h2 : 1 < 2 ^ ns := Nat.one_lt_two_pow h0
    rw [e1, e00, hho 1 0 h2 (by decide) (by omega) (by decide), nI_add]
    have e : rdV b np ns = nI (smN (lgN b np) ns + hV (cN b np) ns 1 0) := if_neg h0
    rw [← e]
    exact hp a' hf
theorem w_sl (h : a 1 4 = nI ns) (hns : ns ≤ 6) {V : Nat} (hV0 : V < 64) (post : Int32 → Prop) : ∀ f k tt, k + f = ns → tt < 2 ^ 31 → post (nI (stlF V f k tt)) → wp_X4_stageLeft_5 a la post (f + 1) (nI V) (nI tt) (nI k)
  | 0, k, tt, hk, _, hp => by
    have e : k = ns := by omega
    subst e
    exact ⟨fun _ => hp, fun z => absurd (by rw [h]; exact le_self k) z⟩
  | f + 1, k, tt, hk, ht, hp => by
    refine ⟨fun z => absurd (by rw [h] at z; exact z) (nle_of (by omega) (by omega)), fun _ => ?_⟩
    rw [w_has, hb_V V hV0 k (by omega), nI_1]
    unfold stlF at hp
    cases d : V.testBit k
    · rw [d, if_neg (by decide)] at hp
      refine ⟨fun z => absurd rfl z, fun _ => ⟨fun z => ?_, fun z => ?_⟩⟩
      · have ht0 : ¬ tt = 0 := fun y => z (by rw [y]; rfl)
        rw [if_neg ht0] at hp
        obtain ⟨u, rfl⟩ : ∃ u, tt = u + 1 := ⟨tt - 1, by omega⟩
        rw [nI_m1]
        exact w_sl h hns hV0 post f (k + 1) u (by omega) (by omega) hp
      · have ht0 : tt = 0 := (nI_eq (a := tt) (b := 0) ht (by omega)).mp z
        rw [if_pos ht0] at hp
        exact hp
    · rw [d, if_pos rfl] at hp
      exact ⟨fun _ => w_sl h hns hV0 post f (k + 1) tt (by omega) ht hp, fun z => absurd z ne10⟩
theorem stl_lt (V : Nat) : ∀ f k tt, stlF V f k tt < k + f + 1
  | 0, k, tt => by unfold stlF; omega
  | f + 1, k, tt => by
    unfold stlF
    have h1 := stl_lt V f (k + 1) tt
    have h2 := stl_lt V f (k + 1) (tt - 1)
    split
    · omega
    · split <;> omega
theorem w_way {c : Nat → Nat → Nat} (h : a 1 4 = nI ns) (hns : ns ≤ 6) (hns0 : 0 < ns) (hch : ∀ i j, i < ns → j < ns → a (26 + i) j = nI (c i j)) (post : Int32 → Prop) : ∀ r V x sec v, V < 2 ^ ns → rkN V ns = r → x < ns → v < 2 ^ 31 → post (nI (sec + cwF c ns r V x v)) → ∃ j, wp_X4_secondsOfWay_21 a la post j (nI sec) (nI x) (nI V) (nI v) (nI r)
  | 0, V, x, sec, v, hV0, hr, hx, hv, hp => by
    refine ⟨1, fun _ => ⟨vp_in_nI (by omega) (by omega), vin_0_6, ?_⟩, fun z => absurd (Int32.le_refl _) z⟩
    have e00 : (0 : Int32).toNatClampNeg = 0 := by decide
    rw [e00, nI_clamp (by omega), hch x 0 hx hns0, nI_add]
    exact hp
  | r + 1, V, x, sec, v, hV0, hr, hx, hv, hp => by
    have h6 := pow6 hns
    have hrl := rk_le V ns
    have hmod : v % (r + 1) < r + 1 := Nat.mod_lt _ (by omega)
    obtain ⟨a1, a2⟩ := stl_in ns (by omega) V (by omega) (v % (r + 1)) (by omega)
    have a3 := rk_or a2 ns a1
    have hdl : v / (r + 1) ≤ v := Nat.div_le_self _ _
    have hp2 : post (nI ((sec + c x (stl V ns (v % (r + 1)))) + cwF c ns r (V ||| 2 ^ (stl V ns (v % (r + 1)))) (stl V ns (v % (r + 1))) (v / (r + 1)))) := by
      rw [Nat.add_assoc]
      exact hp
    obtain ⟨j, hj⟩ := w_way h hns hns0 hch post r _ (stl V ns (v % (r + 1))) _ (v / (r + 1)) (or_lt hV0 a1) (by omega) a1 (by omega) hp2
    have hz : ¬ nI (r + 1) = 0 := fun z => absurd ((nI_eq (a := r + 1) (b := 0) (by omega) (by omega)).mp z) (by omega)
    refine ⟨j + 1, fun z => absurd z (nI_ge (a := 0) (b := r + 1) (by omega) (by omega)), fun _ => ⟨hz, ?_⟩⟩
    have e1 : nI v / nI (r + 1) = nI (v / (r + 1)) := pk_div hv (by omega) (by omega)
    have e2 : nI v - nI (v / (r + 1)) * nI (r + 1) = nI (v % (r + 1)) := by
      have hdm := Nat.div_add_mod v (r + 1)
      have hcm := Nat.mul_comm (r + 1) (v / (r + 1))
      rw [pk_mul, pk_sub (a := v) (b := v / (r + 1) * (r + 1)) (by omega)]
      congr 1
      omega
    rw [e1, e2, nI_m1]
    refine ⟨ns + 1, w_sl h hns (by omega) _ ns 0 (v % (r + 1)) (by omega) (by omega) ?_⟩
    show ¬ nI (r + 1) = 0 ∧ vp_in (nI x) 6 ∧ vp_in (nI (stl V ns (v % (r + 1)))) 6 ∧ _
    refine ⟨hz, vp_in_nI (by omega) (by omega), vp_in_nI (by omega) (by omega), ?_⟩
    show wp_X4_secondsOfWay_21 a la post j (nI sec + a (26 + (nI x).toNatClampNeg) (nI (stl V ns (v % (r + 1)))).toNatClampNeg) (nI (stl V ns (v % (r + 1)))) (nI V ||| (1 <<< (nI (stl V ns (v % (r + 1))) &&& 31))) (nI (v / (r + 1))) (nI r)
    rw [or_V V (by omega) _ (by omega), nI_clamp (by omega), nI_clamp (by omega), hch x _ hx a1, nI_add]
    exact hj
theorem w_anewA (h : ig_Q np ns t w a la b lb) (post : Int32 → ig_M → Int64 → Prop) (hp : ∀ a', (∀ i, ¬ (26 ≤ i ∧ i < 97) → a' i = a i) → post (rdV b np ns) a' la) : wp_X4_shortestOfAll a la post := by
  have hns := Q_ns h
  unfold wp_X4_shortestOfAll
  rw [Q_a4 h]
  by_cases h0 : ns = 0
  · have e : rdV b np ns = -1 := if_pos h0
    rw [e] at hp
    exact ⟨fun z => absurd (by rw [h0]; rfl) z, fun _ => hp a (fun _ _ => rfl)⟩
  · have hz : ¬ nI ns = 0 := fun z => h0 ((nI_eq (a := ns) (b := 0) (by omega) (by omega)).mp z)
    have hc : ∀ i j, cN b np i j ≤ 20 := fun i j => (cN_eq h i j).2
    refine ⟨fun _ => w_findCh h _ (fun a' hf hch => ?_), fun z => absurd z hz⟩
    have hf2 : ∀ i, ¬ (26 ≤ i ∧ i < 97) → a' i = a i := fun i hi => hf i (by omega)
    have hch2 : ∀ i j, i < ns → j < ns → a' (26 + i) j = nI (cN b np i j) := fun i j hi hj => by rw [hch i j hi hj]; exact (cN_eq h i j).1
    have hQ : ig_Q np ns t w a' la b lb := Q_scr h hf2 (fun _ _ => rfl)
    have e14 := Q_a4 hQ
    have h2 : 1 < 2 ^ ns := Nat.one_lt_two_pow h0
    have hr1 := rk_one (n := ns) (by omega)
    obtain ⟨E, hE⟩ : ∃ E, E = if ns = 1 then 2 else ns := ⟨_, rfl⟩
    have hE1 : 2 ≤ E ∧ ns ≤ E ∧ E ≤ 6 ∧ facN (E - 1) = facN (ns - 1) := by
      by_cases e : ns = 1
      · rw [if_pos e] at hE; subst e; subst hE; exact ⟨by omega, by omega, by omega, rfl⟩
      · rw [if_neg e] at hE; subst hE; exact ⟨by omega, by omega, by omega, rfl⟩
    refine pk_loop (σ := Nat) (fun n k s => wp_X4_shortestOfAll_20 post n a' la (nI s) (nI k)) (fun k s => 2 ≤ k ∧ s = facN (k - 1)) E 2 1 hE1.1 ⟨Nat.le_refl _, rfl⟩ ?_ ?_
    · intro n s hI
      refine ⟨fun _ => ?_, fun z => absurd (by rw [e14]; exact nI_le hE1.2.1 (by omega)) z⟩
      have hs : s = facN (ns - 1) := by rw [hI.2]; exact hE1.2.2.2
      have hfac : ∀ m, m < 6 → facN m ≤ 720 := by decide
      have hsb := hfac (ns - 1) (by omega)
      rw [← hs] at hsb
      have hcm : mnN (fun _ => false) (cwF (cN b np) ns (ns - 1) 1 0) s = hV (cN b np) ns 1 0 := by rw [hs]; exact cw_min hc hns h2 (by omega)
      refine fold_loop (fun n k m => wp_X4_shortestOfAll_46 post n a' la (nI s) (nI m) (nI k)) (mnF (fun _ => false) (cwF (cN b np) ns (ns - 1) 1 0)) s 1000000 ?_ ?_
      · intro n
        refine ⟨fun _ => w_sog hQ _ ?_, fun z => absurd (le_self s) z⟩
        have e5 : foldN (mnF (fun _ => false) (cwF (cN b np) ns (ns - 1) 1 0)) s 1000000 = hV (cN b np) ns 1 0 := hcm
        rw [e5, nI_add]
        have e : rdV b np ns = nI (smN (lgN b np) ns + hV (cN b np) ns 1 0) := if_neg h0
        rw [← e]
        exact hp a' hf2
      · intro n k hk ih
        have hm : foldN (mnF (fun _ => false) (cwF (cN b np) ns (ns - 1) 1 0)) k 1000000 ≤ 1000000 := mn_big _ _ k
        generalize foldN _ k _ = m at hm ih ⊢
        refine ⟨fun z => absurd z (nle_of hk (by omega)), fun _ => ?_⟩
        unfold wp_X4_secondsOfWay
        rw [e14, show nI ns - 1 = nI (ns - 1) from pk_sub (a := ns) (b := 1) (by omega)]
        refine w_way (c := cN b np) e14 hns (by omega) hch2 _ (ns - 1) 1 0 0 k h2 (by omega) (by omega) (by omega) ?_
        rw [Nat.zero_add, nI_1]
        have hcb : ∀ r V x v, cwF (cN b np) ns r V x v ≤ 20 * (r + 1) := by
          intro r
          induction r with
          | zero => intro V x v; exact hc x 0
          | succ r ih =>
            intro V x v
            have h1 := ih (V ||| 2 ^ (stl V ns (v % (r + 1)))) (stl V ns (v % (r + 1))) (v / (r + 1))
            have h2 := hc x (stl V ns (v % (r + 1)))
            show cN b np x _ + cwF (cN b np) ns r _ _ _ ≤ _
            omega
        have hb := hcb (ns - 1) 1 0 k
        rw [nI_min (by omega) (by omega)]
        exact ih
    · intro n k s hk hI ih
      have hkn : k < ns := by
        by_cases e : ns = 1
        · rw [if_pos e] at hE; have := hI.1; omega
        · rw [if_neg e] at hE; omega
      refine ⟨fun z => absurd (by rw [e14] at z; exact z) (nle_of hkn (by omega)), fun _ => ?_⟩
      rw [pk_mul, nI_1]
      refine ih (s * k) ⟨by have := hI.1; omega, ?_⟩
      obtain ⟨u, rfl⟩ : ∃ u, k = u + 1 := ⟨k - 1, by have := hI.1; omega⟩
      rw [hI.2]
      show facN u * (u + 1) = (u + 1) * facN u
      exact Nat.mul_comm _ _
theorem w_fob {c : Nat → Nat → Nat} (h : a 1 4 = nI ns) (hns : ns ≤ 6) (hc : ∀ i j, c i j ≤ 20) {V x : Nat} (hV0 : V < 2 ^ ns) (hx : x < ns) (hV1 : V.testBit 0 = true) (hVx : V.testBit x = true) (hch : ∀ i j, i < ns → j < ns → a (26 + i) j = nI (c i j)) (hho : ∀ V x, V < 2 ^ ns → V.testBit 0 = true → x < ns → V.testBit x = true → a (33 + V) x = nI (hV c ns V x)) (hr : ¬ rkN V ns = 0)
    (post : Int32 → Prop) (hp : post (nI (gst c ns V x))) : wp_X4_firstOfBest a la (nI x) (nI V) post := by
  have h6 := pow6 hns
  obtain ⟨g1, g2, g3, g4⟩ := gst_spec (x := x) hc hns hr
  generalize gst c ns V x = g at g1 g2 g3 g4 hp
  refine pk_loop (σ := Unit) (fun n k _ => wp_X4_firstOfBest_2 a la post n (nI x) (nI V) (nI k)) (fun _ _ => True) g 0 () (Nat.zero_le _) trivial ?_ ?_
  · intro n _ _
    refine ⟨fun z => absurd (by rw [h] at z; exact z) (nle_of g1 (by omega)), fun _ => ?_⟩
    rw [w_has, hb_V V (by omega) g (by omega), g2]
    refine ⟨fun z => absurd rfl z, fun _ => w_homeBy hns hV0 hx g1 (hch x g hx g1) (hho _ g (or_lt hV0 g1) (tb_keep hV1) g1 (tb_self _ _)) _ ⟨vp_in_nI (by omega) (by omega), vp_in_nI (by omega) (by omega), ?_⟩⟩
    rw [nI_clamp (by omega), nI_clamp (by omega), hho V x hV0 hV1 hx hVx, g3]
    exact ⟨fun z => absurd rfl z, fun _ => hp⟩
  · intro n k _ hk _ ih
    have hkn : k < ns := by omega
    refine ⟨fun z => absurd (by rw [h] at z; exact z) (nle_of hkn (by omega)), fun _ => ?_⟩
    rw [w_has, hb_V V (by omega) k (by omega), nI_1]
    cases d : V.testBit k
    · refine ⟨fun z => absurd rfl z, fun _ => w_homeBy hns hV0 hx hkn (hch x k hx hkn) (hho _ k (or_lt hV0 hkn) (tb_keep hV1) hkn (tb_self _ _)) _ ⟨vp_in_nI (by omega) (by omega), vp_in_nI (by omega) (by omega), ?_⟩⟩
      rw [nI_clamp (by omega), nI_clamp (by omega), hho V x hV0 hV1 hx hVx]
      refine ⟨fun _ => ih () trivial, fun z => ?_⟩
      have hg := g4 k hk
      have b1 := hc x k
      have b2 := hV_bound hc hns (V ||| 2 ^ k) k
      have b3 := hV_bound hc hns V x
      have e := (nI_eq (by omega) (by omega)).mp z
      unfold gsB at hg
      rw [d, e] at hg
      simp at hg
    · exact ⟨fun _ => ih () trivial, fun z => absurd z ne10⟩
theorem w_steps {c : Nat → Nat → Nat} (h : a 1 4 = nI ns) (hns : ns ≤ 6) (hc : ∀ i j, c i j ≤ 20) (hch : ∀ i j, i < ns → j < ns → a (26 + i) j = nI (c i j)) (hho : ∀ V x, V < 2 ^ ns → V.testBit 0 = true → x < ns → V.testBit x = true → a (33 + V) x = nI (hV c ns V x)) {p : Nat} (hp6 : p < 6) (post : Int32 → ig_M → Int64 → Prop) : ∀ r V x s, s + r = p → r ≤ rkN V ns → V < 2 ^ ns → x < ns → V.testBit 0 = true → V.testBit x = true → post (nI (itN c ns r V x)) a la → ∃ j, wp_X4_stageAt_11 post j a la (nI p) (nI x) (nI V) (nI s)
  | 0, V, x, s, hs, _, _, _, _, _, hp => by
    have e : s = p := by omega
    subst e
    exact ⟨1, fun _ => hp, fun z => absurd (le_self s) z⟩
  | r + 1, V, x, s, hs, hrk, hV0, hx, hV1, hVx, hp => by
    have h6 := pow6 hns
    have hr : ¬ rkN V ns = 0 := by omega
    obtain ⟨g1, g2, g3, g4⟩ := gst_spec (x := x) hc hns hr
    have a3 := rk_or g2 ns g1
    obtain ⟨j, hj⟩ := w_steps h hns hc hch hho hp6 post r (V ||| 2 ^ (gst c ns V x)) (gst c ns V x) (s + 1) (by omega) (by omega) (or_lt hV0 g1) g1 (tb_keep hV1) (tb_self _ _) hp
    refine ⟨j + 1, fun z => absurd z (nle_of (by omega) (by omega)), fun _ => w_fob h hns hc hV0 hx hV1 hVx hch hho hr _ ?_⟩
    rw [or_V V (by omega) _ (by omega), nI_1]
    exact hj
theorem w_placeA (h : ig_Q np ns t w a la b lb) {p : Nat} (hpn : p < ns) (post : Int32 → ig_M → Int64 → Prop) (hp : ∀ a', (∀ i, ¬ (26 ≤ i ∧ i < 97) → a' i = a i) → post (nI (itN (cN b np) ns p 1 0)) a' la) : wp_X4_stageAt a la (nI p) post := by
  have hns := Q_ns h
  have hc : ∀ i j, cN b np i j ≤ 20 := fun i j => (cN_eq h i j).2
  have h2 : 1 < 2 ^ ns := Nat.one_lt_two_pow (by omega)
  have hr1 := rk_one (n := ns) (by omega)
  refine w_ways h (by omega) _ (fun a' hf hch hho => ?_)
  have e14 : a' 1 4 = nI ns := by rw [hf 1 (by omega)]; exact Q_a4 h
  exact w_steps e14 hns hc hch hho (by omega) post p 1 0 0 (by omega) (by omega) h2 (by omega) (by decide) (by decide) (hp a' hf)
end RNDA
