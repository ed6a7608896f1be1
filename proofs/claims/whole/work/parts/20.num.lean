/-! ===== the pure side: numbers, bits, small readings of wp ===== -/
def iw (x lo hi : Int32) : Bool := !decide (x < lo) && !decide (hi < x)
def hb (x y : Int32) : Bool := !decide (((x >>> (y &&& 31)) &&& 1) = 0)
theorem and1_or (z : Int32) : z &&& 1 = 0 ∨ z &&& 1 = 1 := by
  have h := pk_andE z (m := 1) 1 (by decide)
  obtain ⟨j, hj, e⟩ := h
  rcases (show j = 0 ∨ j = 1 by omega) with rfl | rfl
  · left; exact e
  · right; exact e
theorem w_with (x lo hi : Int32) (post : Int32 → Prop) : wp_X5_isWithin x lo hi post = post (cond (iw x lo hi) 1 0) := by
  unfold wp_X5_isWithin iw
  by_cases h1 : x < lo <;> by_cases h2 : hi < x <;> simp [h1, h2]
theorem w_in (x lo hi : Int32) (post : Int32 → Prop) : wp_X6_in x lo hi post = post (cond (iw x lo hi) 1 0) := by
  unfold wp_X6_in iw
  by_cases h1 : x < lo <;> by_cases h2 : hi < x <;> simp [h1, h2]
theorem w_has (x y : Int32) (post : Int32 → Prop) : wp_X5_has x y post = post (cond (hb x y) 1 0) := by
  unfold wp_X5_has hb
  by_cases h1 : (x >>> (y &&& 31)) &&& 1 = 0 <;> simp [h1]
theorem w_has6 (x y : Int32) (post : Int32 → Prop) : wp_X6_has x y post = post (cond (hb x y) 1 0) := by
  unfold wp_X6_has hb
  rcases and1_or (x >>> (y &&& 31)) with h1 | h1 <;> simp [h1]
theorem w_needPhase (a : ig_M) (la : Int64) (x : Int32) (post : Prop) (px : Nat → Prop) : wp_X5_needPhase a la x post px = cond (iw x 0 (a 1 1 - 1)) post (px 2) := by
  unfold wp_X5_needPhase
  rw [w_with]
  cases iw x 0 (a 1 1 - 1) <;> simp
theorem w_needStage (a : ig_M) (la : Int64) (x : Int32) (post : Prop) (px : Nat → Prop) : wp_X5_needStage a la x post px = cond (iw x 0 (a 1 4 - 1)) post (px 2) := by
  unfold wp_X5_needStage
  rw [w_with]
  cases iw x 0 (a 1 4 - 1) <;> simp
theorem w_isPhase (b : ig_M) (lb : Int64) (x : Int32) (post : Int32 → Prop) : wp_X6_isPhase b lb x post = post (cond (iw x 0 (b 97 2 - 1)) 1 0) := by
  unfold wp_X6_isPhase
  rw [w_in]
  cases iw x 0 (b 97 2 - 1) <;> simp
theorem w_isStage (b : ig_M) (lb : Int64) (x : Int32) (post : Int32 → Prop) : wp_X6_isStage b lb x post = post (cond (iw x 0 (b 97 7 - 1)) 1 0) := by
  unfold wp_X6_isStage
  rw [w_in]
  cases iw x 0 (b 97 7 - 1) <;> simp
theorem w_isBroken (a : ig_M) (la : Int64) (k : Nat) (x : Int32) (post : Int32 → Prop) : wp_X2_isBroken a la k x post = post (cond (hb (a (3 + k) 11) x) 1 0) := by
  unfold wp_X2_isBroken
  rw [w_has]
  cases hb (a (3 + k) 11) x <;> simp
theorem w_setOf (a : ig_M) (la : Int64) (ns s : Nat) (hns : ns ≤ 6) (hs : s < ns) (h : a 1 4 = nI ns) (post : Int32 → Prop) : wp_X3_setOf a la (nI s) post = post (a 20 s) := by
  unfold wp_X3_setOf
  rw [w_with, h]
  have h1 : iw (nI s) 0 (nI ns - 1) = true := by
    unfold iw
    rw [show nI ns - 1 = nI (ns - 1) from pk_sub (a := ns) (b := 1) (by omega)]
    simp only [Bool.and_eq_true, Bool.not_eq_true', decide_eq_false_iff_not]
    exact ⟨nI_pos (by omega), nI_nlt (by omega) (by omega)⟩
  rw [h1]
  simp [vp_in_nI (show s < 6 by omega) (by omega), nI_clamp (show s < 2 ^ 31 by omega)]
theorem w_well (b : ig_M) (lb : Int64) (x : Int32) (post : Int32 → ig_M → Int64 → Prop) : wp_X6_goesWell b lb x post = post (cond (decide (x = 0)) 1 0) (ig_up b 97 0 x) lb := by
  unfold wp_X6_goesWell
  by_cases h : x = 0 <;> simp [h]
/-- in the range of a count: a number below it -/
theorem iw_nat {x : Int32} {n : Nat} (hn : n ≤ 100) (h : iw x 0 (nI n - 1) = true) : ∃ p : Nat, p < n ∧ x = nI p := by
  unfold iw at h
  simp only [Bool.and_eq_true, Bool.not_eq_true', decide_eq_false_iff_not] at h
  obtain ⟨p, hp, rfl⟩ := nI_of h.1
  refine ⟨p, ?_, rfl⟩
  rcases Nat.eq_zero_or_pos n with rfl | h0
  · exact absurd (show nI 0 - 1 < nI p by
      rw [Int32.lt_iff_toInt_lt, nI_toInt hp]
      have : (nI 0 - 1).toInt = -1 := by decide
      omega) h.2
  · rw [show nI n - 1 = nI (n - 1) from pk_sub (a := n) (b := 1) (by omega)] at h
    have h2 := h.2
    rw [nI_ltI (by omega) hp] at h2
    omega
theorem iw_of_nat {p n : Nat} (hn : n ≤ 100) (h : p < n) : iw (nI p) 0 (nI n - 1) = true := by
  unfold iw
  rw [show nI n - 1 = nI (n - 1) from pk_sub (a := n) (b := 1) (by omega)]
  simp only [Bool.and_eq_true, Bool.not_eq_true', decide_eq_false_iff_not]
  exact ⟨nI_pos (by omega), nI_nlt (by omega) (by omega)⟩
theorem cmp0 (x y : Int64) : lg_cmp x y = 0 ↔ x = y := by
  unfold lg_cmp
  by_cases h : x > y
  · simp only [h, if_true]
    constructor
    · intro h1; exact absurd h1 (by decide)
    · intro h1; subst h1; exact absurd h (Int64.lt_irrefl)
  · by_cases h2 : x = y
    · simp [h, h2]
    · simp only [h, h2, if_false]
      constructor
      · intro h1; exact absurd h1 (by decide)
      · intro h1; exact h1.elim
theorem up_app (a : ig_M) (i j : Nat) (v : Int32) (x y : Nat) : ig_up a i j v x y = if x = i then (if y = j then v else a i y) else a x y := by
  unfold ig_up upd
  by_cases h : x = i
  · rw [if_pos h, if_pos h]
  · rw [if_neg h, if_neg h]
