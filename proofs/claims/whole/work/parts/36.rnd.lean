/-! ===== rounds: sets of stages as numbers, the least seconds home, the greedy way, all ways; no memory here ===== -/
/-- how many of the first n are not in V -/
def rkN (V : Nat) : Nat → Nat
  | 0 => 0
  | n + 1 => rkN V n + cond (V.testBit n) 0 1
theorem tb_or (V v i : Nat) : (V ||| 2 ^ v).testBit i = (V.testBit i || decide (v = i)) := by
  rw [Nat.testBit_or, Nat.testBit_two_pow]
theorem rk_same {V v : Nat} : ∀ n, n ≤ v → rkN (V ||| 2 ^ v) n = rkN V n
  | 0, _ => rfl
  | n + 1, h => by
    unfold rkN
    rw [rk_same n (by omega), tb_or, decide_eq_false (by omega), Bool.or_false]
theorem rk_or {V v : Nat} (hV : V.testBit v = false) : ∀ n, v < n → rkN (V ||| 2 ^ v) n + 1 = rkN V n
  | 0, h => absurd h (Nat.not_lt_zero v)
  | n + 1, h => by
    unfold rkN
    rw [tb_or]
    by_cases e : v = n
    · subst e
      rw [rk_same v (Nat.le_refl v), hV]
      simp
    · rw [decide_eq_false e, Bool.or_false, ← rk_or hV n (by omega)]
      omega
theorem rk_zero {V : Nat} : ∀ n, rkN V n = 0 → ∀ i, i < n → V.testBit i = true
  | 0, _, i, h => absurd h (Nat.not_lt_zero i)
  | n + 1, h0, i, h => by
    unfold rkN at h0
    have h1 : rkN V n = 0 := by omega
    by_cases e : i = n
    · subst e
      cases c : V.testBit i
      · rw [c] at h0; simp at h0
      · rfl
    · exact rk_zero n h1 i (by omega)
theorem rk_some {V : Nat} : ∀ n, ¬ rkN V n = 0 → ∃ i, i < n ∧ V.testBit i = false
  | 0, h => absurd rfl h
  | n + 1, h => by
    cases c : V.testBit n
    · exact ⟨n, by omega, c⟩
    · unfold rkN at h
      rw [c] at h
      obtain ⟨i, h1, h2⟩ := rk_some n (fun z => h (by rw [z]; rfl))
      exact ⟨i, by omega, h2⟩
theorem rk_le (V : Nat) : ∀ n, rkN V n ≤ n
  | 0 => Nat.le_refl 0
  | n + 1 => by
    unfold rkN
    have := rk_le V n
    cases V.testBit n <;> simp <;> omega
theorem full_iff {V n : Nat} (hV : V < 2 ^ n) (h : rkN V n = 0) : V = 2 ^ n - 1 := by
  apply Nat.eq_of_testBit_eq
  intro i
  rw [Nat.testBit_two_pow_sub_one]
  by_cases c : i < n
  · rw [rk_zero n h i c, decide_eq_true c]
  · rw [decide_eq_false c]
    exact Nat.testBit_lt_two_pow (Nat.lt_of_lt_of_le hV (Nat.pow_le_pow_right (by omega) (by omega)))
theorem rk_all (n : Nat) : rkN (2 ^ n - 1) n = 0 := by
  rcases Nat.eq_zero_or_pos (rkN (2 ^ n - 1) n) with h | h
  · exact h
  · obtain ⟨i, h1, h2⟩ := rk_some n (show ¬ rkN (2 ^ n - 1) n = 0 by omega)
    rw [Nat.testBit_two_pow_sub_one, decide_eq_true h1] at h2
    cases h2
theorem or_lt {V v n : Nat} (hV : V < 2 ^ n) (hv : v < n) : V ||| 2 ^ v < 2 ^ n := Nat.or_lt_two_pow hV (Nat.pow_lt_pow_right (by omega) hv)
theorem lt_or {V v : Nat} (h : V.testBit v = false) : V < V ||| 2 ^ v := by
  rcases Nat.lt_or_eq_of_le ((Nat.left_le_or : V ≤ V ||| 2 ^ v)) with q | q
  · exact q
  · have h2 : (V ||| 2 ^ v).testBit v = true := by rw [tb_or]; simp
    rw [← q, h] at h2
    cases h2
/-- the least of g over those below n that f doesn't have, at most 1000000 -/
def mnF (f : Nat → Bool) (g : Nat → Nat) (i m : Nat) : Nat := if f i = true then m else if g i < m then g i else m
def mnN (f : Nat → Bool) (g : Nat → Nat) (n : Nat) : Nat := foldN (mnF f g) n 1000000
theorem mn_big (f : Nat → Bool) (g : Nat → Nat) : ∀ n, mnN f g n ≤ 1000000
  | 0 => Nat.le_refl _
  | n + 1 => by
    have ih := mn_big f g n
    show mnF f g n (mnN f g n) ≤ _
    unfold mnF
    split
    · exact ih
    · split <;> omega
theorem mn_le {f : Nat → Bool} {g : Nat → Nat} : ∀ n i, i < n → f i = false → mnN f g n ≤ g i
  | 0, i, h, _ => absurd h (Nat.not_lt_zero i)
  | n + 1, i, h, hf => by
    show mnF f g n (mnN f g n) ≤ _
    unfold mnF
    by_cases e : i = n
    · subst e
      rw [hf, if_neg (by decide)]
      split <;> omega
    · have ih := mn_le (f := f) (g := g) n i (by omega) hf
      split
      · exact ih
      · split <;> omega
theorem mn_at (f : Nat → Bool) (g : Nat → Nat) : ∀ n, mnN f g n = 1000000 ∨ ∃ i, i < n ∧ f i = false ∧ mnN f g n = g i
  | 0 => Or.inl rfl
  | n + 1 => by
    have e : mnN f g (n + 1) = mnF f g n (mnN f g n) := rfl
    rw [e]
    unfold mnF
    cases c : f n
    · rw [if_neg (by decide)]
      by_cases d : g n < mnN f g n
      · rw [if_pos d]
        exact Or.inr ⟨n, by omega, c, rfl⟩
      · rw [if_neg d]
        rcases mn_at f g n with h | ⟨i, h1, h2, h3⟩
        · exact Or.inl h
        · exact Or.inr ⟨i, by omega, h2, h3⟩
    · rw [if_pos rfl]
      rcases mn_at f g n with h | ⟨i, h1, h2, h3⟩
      · exact Or.inl h
      · exact Or.inr ⟨i, by omega, h2, h3⟩
/-- the least seconds from x home, over all that V lacks; r: how many those are -/
def hF (c : Nat → Nat → Nat) (n : Nat) : Nat → Nat → Nat → Nat
  | 0, _, x => c x 0
  | r + 1, V, x => mnN (fun i => V.testBit i) (fun i => c x i + hF c n r (V ||| 2 ^ i) i) n
def hV (c : Nat → Nat → Nat) (n V x : Nat) : Nat := hF c n (rkN V n) V x
theorem hF_bound {c : Nat → Nat → Nat} {n : Nat} (hc : ∀ i j, c i j ≤ 20) : ∀ r V x, rkN V n = r → hF c n r V x ≤ 20 * (r + 1)
  | 0, V, x, _ => by
    have := hc x 0
    show c x 0 ≤ _
    omega
  | r + 1, V, x, h => by
    obtain ⟨i, h1, h2⟩ := rk_some (V := V) n (by omega)
    have h3 := rk_or h2 n h1
    have h4 := hF_bound (n := n) hc r (V ||| 2 ^ i) i (by omega)
    have h5 := mn_le (f := fun i => V.testBit i) (g := fun i => c x i + hF c n r (V ||| 2 ^ i) i) n i h1 h2
    have h6 := hc x i
    show mnN (fun i => V.testBit i) (fun i => c x i + hF c n r (V ||| 2 ^ i) i) n ≤ _
    omega
theorem hV_bound {c : Nat → Nat → Nat} {n : Nat} (hc : ∀ i j, c i j ≤ 20) (hn : n ≤ 6) (V x : Nat) : hV c n V x ≤ 140 := by
  have h1 := hF_bound (n := n) hc _ V x rfl
  have h2 := rk_le V n
  unfold hV
  omega
theorem hV_full {c : Nat → Nat → Nat} {n V x : Nat} (h : rkN V n = 0) : hV c n V x = c x 0 := by
  unfold hV
  rw [h]
  rfl
theorem hV_eq {c : Nat → Nat → Nat} {n V x : Nat} (h : ¬ rkN V n = 0) : hV c n V x = mnN (fun i => V.testBit i) (fun i => c x i + hV c n (V ||| 2 ^ i) i) n := by
  unfold hV
  obtain ⟨r, hr⟩ : ∃ r, rkN V n = r + 1 := ⟨rkN V n - 1, by omega⟩
  rw [hr]
  show mnN (fun i => V.testBit i) (fun i => c x i + hF c n r (V ||| 2 ^ i) i) n = _
  refine foldN_congr (fun k hk v => ?_)
  unfold mnF
  show (if V.testBit k = true then v else if c x k + hF c n r (V ||| 2 ^ k) k < v then c x k + hF c n r (V ||| 2 ^ k) k else v) = (if V.testBit k = true then v else if c x k + hF c n (rkN (V ||| 2 ^ k) n) (V ||| 2 ^ k) k < v then c x k + hF c n (rkN (V ||| 2 ^ k) n) (V ||| 2 ^ k) k else v)
  cases d : V.testBit k
  · have h3 := rk_or d n hk
    rw [show rkN (V ||| 2 ^ k) n = r by omega]
  · rw [if_pos rfl, if_pos rfl]
theorem hV_le {c : Nat → Nat → Nat} {n V x i : Nat} (hi : i < n) (h : V.testBit i = false) : hV c n V x ≤ c x i + hV c n (V ||| 2 ^ i) i := by
  rw [hV_eq (by have := rk_or h n hi; omega)]
  exact mn_le (f := fun i => V.testBit i) (g := fun i => c x i + hV c n (V ||| 2 ^ i) i) n i hi h
theorem hV_at {c : Nat → Nat → Nat} {n V x : Nat} (hc : ∀ i j, c i j ≤ 20) (hn : n ≤ 6) (h : ¬ rkN V n = 0) : ∃ i, i < n ∧ V.testBit i = false ∧ hV c n V x = c x i + hV c n (V ||| 2 ^ i) i := by
  have hb := hV_bound hc hn V x
  rw [hV_eq h] at hb ⊢
  rcases mn_at (fun i => V.testBit i) (fun i => c x i + hV c n (V ||| 2 ^ i) i) n with q | q
  · omega
  · exact q
/-- the first that f has, from k on, in m steps -/
def fstF (f : Nat → Bool) : Nat → Nat → Nat
  | 0, k => k
  | m + 1, k => if f k = true then k else fstF f m (k + 1)
theorem fstF_spec (f : Nat → Bool) : ∀ m k, (∃ i, k ≤ i ∧ i < k + m ∧ f i = true) → k ≤ fstF f m k ∧ fstF f m k < k + m ∧ f (fstF f m k) = true ∧ ∀ j, k ≤ j → j < fstF f m k → f j = false
  | 0, k, h => by
    obtain ⟨i, h1, h2, _⟩ := h
    omega
  | m + 1, k, h => by
    unfold fstF
    cases c : f k
    · rw [if_neg (by decide)]
      obtain ⟨i, h1, h2, h3⟩ := h
      have hne : ¬ i = k := fun z => by rw [z, c] at h3; cases h3
      obtain ⟨a1, a2, a3, a4⟩ := fstF_spec f m (k + 1) ⟨i, by omega, by omega, h3⟩
      refine ⟨by omega, by omega, a3, fun j j1 j2 => ?_⟩
      by_cases e : j = k
      · subst e; exact c
      · exact a4 j (by omega) j2
    · rw [if_pos rfl]
      exact ⟨Nat.le_refl _, by omega, c, fun j j1 j2 => by omega⟩
def gsB (c : Nat → Nat → Nat) (n V x i : Nat) : Bool := !V.testBit i && decide (c x i + hV c n (V ||| 2 ^ i) i = hV c n V x)
/-- the first that the shortest way home may go to -/
def gst (c : Nat → Nat → Nat) (n V x : Nat) : Nat := fstF (gsB c n V x) n 0
theorem gst_spec {c : Nat → Nat → Nat} {n V x : Nat} (hc : ∀ i j, c i j ≤ 20) (hn : n ≤ 6) (h : ¬ rkN V n = 0) : gst c n V x < n ∧ V.testBit (gst c n V x) = false ∧ c x (gst c n V x) + hV c n (V ||| 2 ^ (gst c n V x)) (gst c n V x) = hV c n V x ∧ ∀ j, j < gst c n V x → gsB c n V x j = false := by
  obtain ⟨i, h1, h2, h3⟩ := hV_at (x := x) hc hn h
  obtain ⟨a1, a2, a3, a4⟩ := fstF_spec (gsB c n V x) n 0 ⟨i, by omega, by omega, by unfold gsB; rw [h2, h3]; simp⟩
  have a5 : gsB c n V x (gst c n V x) = true := a3
  unfold gsB at a5
  simp only [Bool.and_eq_true, Bool.not_eq_true', decide_eq_true_eq] at a5
  exact ⟨by unfold gst; omega, a5.1, a5.2, fun j hj => a4 j (by omega) hj⟩
theorem gst_eq {c : Nat → Nat → Nat} {n V x g : Nat} (hc : ∀ i j, c i j ≤ 20) (hn : n ≤ 6) (hg : g < n) (h1 : V.testBit g = false) (h2 : ∀ j, j < n → V.testBit j = false → c x g + hV c n (V ||| 2 ^ g) g ≤ c x j + hV c n (V ||| 2 ^ j) j)
    (h3 : ∀ j, j < g → V.testBit j = false → c x g + hV c n (V ||| 2 ^ g) g < c x j + hV c n (V ||| 2 ^ j) j) : gst c n V x = g ∧ hV c n V x = c x g + hV c n (V ||| 2 ^ g) g := by
  have hr : ¬ rkN V n = 0 := by have := rk_or h1 n hg; omega
  obtain ⟨a1, a2, a3, a4⟩ := gst_spec (x := x) hc hn hr
  have a5 := hV_le (c := c) (x := x) hg h1
  have a6 := h2 _ a1 a2
  refine ⟨?_, by omega⟩
  rcases Nat.lt_trichotomy (gst c n V x) g with q | q | q
  · have := h3 _ q a2
    omega
  · exact q
  · have := a4 g q
    unfold gsB at this
    rw [h1] at this
    simp at this
    omega
/-- the stage after i steps of the greedy way -/
def itN (c : Nat → Nat → Nat) (n : Nat) : Nat → Nat → Nat → Nat
  | 0, _, x => x
  | i + 1, V, x => itN c n i (V ||| 2 ^ (gst c n V x)) (gst c n V x)
/-! ===== all ways by their numbers ===== -/
def stlF (V : Nat) : Nat → Nat → Nat → Nat
  | 0, _, _ => 0
  | f + 1, k, t => if V.testBit k = true then stlF V f (k + 1) t else if t = 0 then k else stlF V f (k + 1) (t - 1)
/-- the t-th below n that V lacks -/
def stl (V n t : Nat) : Nat := stlF V n 0 t
set_option maxRecDepth 100000 in
theorem stl_in : ∀ n, n < 7 → ∀ V, V < 64 → ∀ t, t < rkN V n → stl V n t < n ∧ V.testBit (stl V n t) = false := by decide +kernel
set_option maxRecDepth 100000 in
theorem stl_on : ∀ n, n < 7 → ∀ V, V < 64 → ∀ v, v < n → V.testBit v = false → ∃ t, t < rkN V n ∧ stl V n t = v := by decide +kernel
def facN : Nat → Nat
  | 0 => 1
  | n + 1 => (n + 1) * facN n
def cwF (c : Nat → Nat → Nat) (n : Nat) : Nat → Nat → Nat → Nat → Nat
  | 0, _, x, _ => c x 0
  | r + 1, V, x, w => c x (stl V n (w % (r + 1))) + cwF c n r (V ||| 2 ^ (stl V n (w % (r + 1)))) (stl V n (w % (r + 1))) (w / (r + 1))
theorem pow6 {n : Nat} (hn : n ≤ 6) : 2 ^ n ≤ 64 := Nat.pow_le_pow_right (n := 2) (by omega) hn
theorem cw_ge {c : Nat → Nat → Nat} {n : Nat} (hn : n ≤ 6) : ∀ r V x w, V < 2 ^ n → rkN V n = r → hV c n V x ≤ cwF c n r V x w
  | 0, V, x, w, _, h => by
    rw [hV_full h]
    exact Nat.le_refl _
  | r + 1, V, x, w, hV0, h => by
    have h1 : w % (r + 1) < r + 1 := Nat.mod_lt _ (by omega)
    have h6 := pow6 hn
    obtain ⟨a1, a2⟩ := stl_in n (by omega) V (by omega) (w % (r + 1)) (by omega)
    have a3 := rk_or a2 n a1
    have a4 := cw_ge (c := c) hn r _ (stl V n (w % (r + 1))) (w / (r + 1)) (or_lt hV0 a1) (by omega)
    have a5 := hV_le (c := c) (x := x) a1 a2
    show _ ≤ c x (stl V n (w % (r + 1))) + cwF c n r _ _ _
    omega
theorem cw_at {c : Nat → Nat → Nat} {n : Nat} (hc : ∀ i j, c i j ≤ 20) (hn : n ≤ 6) : ∀ r V x, V < 2 ^ n → rkN V n = r → ∃ w, w < facN r ∧ cwF c n r V x w = hV c n V x
  | 0, V, x, _, h => ⟨0, by decide, by rw [hV_full h]; rfl⟩
  | r + 1, V, x, hV0, h => by
    have h6 := pow6 hn
    obtain ⟨v, v1, v2, v3⟩ := hV_at (x := x) hc hn (show ¬ rkN V n = 0 by omega)
    obtain ⟨t, t1, t2⟩ := stl_on n (by omega) V (by omega) v v1 v2
    have a3 := rk_or v2 n v1
    obtain ⟨w, w1, w2⟩ := cw_at hc hn r _ v (or_lt hV0 v1) (show rkN (V ||| 2 ^ v) n = r by omega)
    have t3 : t < r + 1 := by omega
    refine ⟨t + (r + 1) * w, ?_, ?_⟩
    · show _ < (r + 1) * facN r
      have : (r + 1) * (w + 1) ≤ (r + 1) * facN r := Nat.mul_le_mul_left _ w1
      rw [Nat.mul_add] at this
      omega
    · have e1 : (t + (r + 1) * w) % (r + 1) = t := by rw [Nat.add_mul_mod_self_left, Nat.mod_eq_of_lt t3]
      have e2 : (t + (r + 1) * w) / (r + 1) = w := by rw [Nat.add_mul_div_left _ _ (by omega), Nat.div_eq_of_lt t3, Nat.zero_add]
      show c x (stl V n _) + cwF c n r _ _ _ = _
      rw [e1, e2, t2, w2, v3]
theorem cw_min {c : Nat → Nat → Nat} {n V x r : Nat} (hc : ∀ i j, c i j ≤ 20) (hn : n ≤ 6) (hV0 : V < 2 ^ n) (h : rkN V n = r) : mnN (fun _ => false) (cwF c n r V x) (facN r) = hV c n V x := by
  obtain ⟨w, w1, w2⟩ := cw_at (x := x) hc hn r V hV0 h
  have h1 := mn_le (f := fun _ => false) (g := cwF c n r V x) (facN r) w w1 rfl
  have h2 := hV_bound hc hn V x
  rcases mn_at (fun _ => false) (cwF c n r V x) (facN r) with q | ⟨i, _, _, q⟩
  · omega
  · have := cw_ge (c := c) hn r V x i hV0 h
    omega
/-! ===== sums over stages ===== -/
def smF (l : Nat → Nat) (i acc : Nat) : Nat := acc + l i
def smN (l : Nat → Nat) (n : Nat) : Nat := foldN (smF l) n 0
def smV (l : Nat → Nat) (V n : Nat) : Nat := smN (fun i => cond (V.testBit i) (l i) 0) n
theorem smN_s (l : Nat → Nat) (n : Nat) : smN l (n + 1) = smN l n + l n := rfl
theorem smN_congr {l m : Nat → Nat} : ∀ n, (∀ i, i < n → l i = m i) → smN l n = smN m n
  | 0, _ => rfl
  | n + 1, h => by rw [smN_s, smN_s, smN_congr n (fun i hi => h i (by omega)), h n (by omega)]
theorem smN_le {l : Nat → Nat} {M : Nat} : ∀ n, (∀ i, i < n → l i ≤ M) → smN l n ≤ M * n
  | 0, _ => Nat.le_refl _
  | n + 1, h => by
    have h1 := smN_le n (fun i hi => h i (by omega))
    have h2 := h n (by omega)
    rw [smN_s, Nat.mul_add]
    omega
theorem smV_same (l : Nat → Nat) (V v : Nat) : ∀ n, n ≤ v → smV l (V ||| 2 ^ v) n = smV l V n := fun n h => smN_congr n (fun i hi => by rw [tb_or, decide_eq_false (by omega), Bool.or_false])
theorem smV_or (l : Nat → Nat) {V v : Nat} (hV : V.testBit v = false) : ∀ n, v < n → smV l (V ||| 2 ^ v) n = smV l V n + l v
  | 0, h => absurd h (Nat.not_lt_zero v)
  | n + 1, h => by
    have e1 : ∀ W, smV l W (n + 1) = smV l W n + cond (W.testBit n) (l n) 0 := fun W => rfl
    rw [e1, e1, tb_or]
    by_cases e : v = n
    · subst e
      rw [smV_same l V v v (Nat.le_refl v), hV]
      simp
    · rw [smV_or l hV n (by omega), decide_eq_false e, Bool.or_false]
      omega
theorem smV_full (l : Nat → Nat) {V n : Nat} (h : rkN V n = 0) : smV l V n = smN l n := smN_congr n (fun i hi => by rw [rk_zero n h i hi]; rfl)
theorem smV_zero (l : Nat → Nat) (n : Nat) : smV l 0 n = 0 := by
  have : smV l 0 n = smN (fun _ => 0) n := smN_congr n (fun i _ => by rw [Nat.zero_testBit]; rfl)
  rw [this]
  have := smN_le (l := fun _ => 0) (M := 0) n (fun _ _ => Nat.le_refl _)
  omega
/-- what a row of all stages takes -/
def tkF (l : Nat → Nat) (c : Nat → Nat → Nat) (row : Nat → Nat) (n k acc : Nat) : Nat := acc + (l (row k) + c (row k) (row ((k + 1) % n)))
theorem tk_part (l : Nat → Nat) (c : Nat → Nat → Nat) (row : Nat → Nat) (n : Nat) : ∀ k, k < n → foldN (tkF l c row n) k 0 = smN (fun j => l (row j)) k + smN (fun j => c (row j) (row (j + 1))) k
  | 0, _ => rfl
  | k + 1, h => by
    show foldN (tkF l c row n) k 0 + (l (row k) + c (row k) (row ((k + 1) % n))) = _
    rw [tk_part l c row n k (by omega), Nat.mod_eq_of_lt h, smN_s, smN_s]
    omega
theorem tk_all (l : Nat → Nat) (c : Nat → Nat → Nat) (row : Nat → Nat) (m : Nat) : foldN (tkF l c row (m + 1)) (m + 1) 0 = smN (fun j => l (row j)) (m + 1) + smN (fun j => c (row j) (row (j + 1))) m + c (row m) (row 0) := by
  show foldN (tkF l c row (m + 1)) m 0 + (l (row m) + c (row m) (row ((m + 1) % (m + 1)))) = _
  rw [tk_part l c row (m + 1) m (by omega), Nat.mod_self, smN_s]
  omega
