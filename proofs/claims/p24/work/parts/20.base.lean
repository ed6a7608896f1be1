/-! ===== out of the rows of whole: numbers, bits, tools, the class beside flat rows b ===== -/
/-! ===== the pure side: numbers, bits, small readings of wp ===== -/
def iw (x lo hi : Int32) : Bool := !decide (x < lo) && !decide (hi < x)
def hb (x y : Int32) : Bool := !decide (((x >>> (y &&& 31)) &&& 1) = 0)
theorem and1_or (z : Int32) : z &&& 1 = 0 ∨ z &&& 1 = 1 := by
  have h := pk_andE z (m := 1) 1 (by decide)
  obtain ⟨j, hj, e⟩ := h
  rcases (show j = 0 ∨ j = 1 by omega) with rfl | rfl
  · left; exact e
  · right; exact e
theorem w_with (x lo hi : Int32) (post : Int32 → Prop) : wp_X5_isWithin x lo hi post = post (cond (iw x lo hi) 1 0) := by
  unfold wp_X5_isWithin iw
  by_cases h1 : x < lo <;> by_cases h2 : hi < x <;> simp [h1, h2]
theorem w_has (x y : Int32) (post : Int32 → Prop) : wp_X5_has x y post = post (cond (hb x y) 1 0) := by
  unfold wp_X5_has hb
  by_cases h1 : (x >>> (y &&& 31)) &&& 1 = 0 <;> simp [h1]
theorem w_needPhase (a : ig_M) (la : Int64) (x : Int32) (post : Prop) (px : Nat → Prop) : wp_X5_needPhase a la x post px = cond (iw x 0 (a 1 1 - 1)) post (px 2) := by
  unfold wp_X5_needPhase
  rw [w_with]
  cases iw x 0 (a 1 1 - 1) <;> simp
theorem w_needStage (a : ig_M) (la : Int64) (x : Int32) (post : Prop) (px : Nat → Prop) : wp_X5_needStage a la x post px = cond (iw x 0 (a 1 4 - 1)) post (px 2) := by
  unfold wp_X5_needStage
  rw [w_with]
  cases iw x 0 (a 1 4 - 1) <;> simp
theorem w_isBroken (a : ig_M) (la : Int64) (k : Nat) (x : Int32) (post : Int32 → Prop) : wp_X2_isBroken a la k x post = post (cond (hb (a (3 + k) 11) x) 1 0) := by
  unfold wp_X2_isBroken
  rw [w_has]
  cases hb (a (3 + k) 11) x <;> simp
theorem w_setOf (a : ig_M) (la : Int64) (ns s : Nat) (hns : ns ≤ 6) (hs : s < ns) (h : a 1 4 = nI ns) (post : Int32 → Prop) : wp_X3_setOf a la (nI s) post = post (a 20 s) := by
  unfold wp_X3_setOf
  rw [w_with, h]
  have h1 : iw (nI s) 0 (nI ns - 1) = true := by
    unfold iw
    rw [show nI ns - 1 = nI (ns - 1) from pk_sub (a := ns) (b := 1) (by omega)]
    simp only [Bool.and_eq_true, Bool.not_eq_true', decide_eq_false_iff_not]
    exact ⟨nI_pos (by omega), nI_nlt (by omega) (by omega)⟩
  rw [h1]
  simp [vp_in_nI (show s < 6 by omega) (by omega), nI_clamp (show s < 2 ^ 31 by omega)]
/-- in the range of a count: a number below it -/
theorem iw_nat {x : Int32} {n : Nat} (hn : n ≤ 100) (h : iw x 0 (nI n - 1) = true) : ∃ p : Nat, p < n ∧ x = nI p := by
  unfold iw at h
  simp only [Bool.and_eq_true, Bool.not_eq_true', decide_eq_false_iff_not] at h
  obtain ⟨p, hp, rfl⟩ := nI_of h.1
  refine ⟨p, ?_, rfl⟩
  rcases Nat.eq_zero_or_pos n with rfl | h0
  · exact absurd (show nI 0 - 1 < nI p by
      rw [Int32.lt_iff_toInt_lt, nI_toInt hp]
      have : (nI 0 - 1).toInt = -1 := by decide
      omega) h.2
  · rw [show nI n - 1 = nI (n - 1) from pk_sub (a := n) (b := 1) (by omega)] at h
    have h2 := h.2
    rw [nI_ltI (by omega) hp] at h2
    omega
theorem iw_of_nat {p n : Nat} (hn : n ≤ 100) (h : p < n) : iw (nI p) 0 (nI n - 1) = true := by
  unfold iw
  rw [show nI n - 1 = nI (n - 1) from pk_sub (a := n) (b := 1) (by omega)]
  simp only [Bool.and_eq_true, Bool.not_eq_true', decide_eq_false_iff_not]
  exact ⟨nI_pos (by omega), nI_nlt (by omega) (by omega)⟩
theorem cmp0 (x y : Int64) : lg_cmp x y = 0 ↔ x = y := by
  unfold lg_cmp
  by_cases h : x > y
  · simp only [h, if_true]
    constructor
    · intro h1; exact absurd h1 (by decide)
    · intro h1; subst h1; exact absurd h (Int64.lt_irrefl)
  · by_cases h2 : x = y
    · simp [h, h2]
    · simp only [h, h2, if_false]
      constructor
      · intro h1; exact absurd h1 (by decide)
      · intro h1; exact h1.elim
theorem up_app (a : ig_M) (i j : Nat) (v : Int32) (x y : Nat) : ig_up a i j v x y = if x = i then (if y = j then v else a i y) else a x y := by
  unfold ig_up upd
  by_cases h : x = i
  · rw [if_pos h, if_pos h]
  · rw [if_neg h, if_neg h]
/-! ===== how the class's memory a and the model's memory b stand to each other ===== -/
/-- one phase: its row and the model's rows at p -/
def ig_ph (r : Nat → Int32) (b : ig_M) (p : Nat) : Prop :=
  (r 0 = b 98 p ∧ r 1 = b 99 p ∧ r 2 = b 100 p ∧ r 3 = b 103 p ∧ r 4 = b 105 p ∧ r 5 = b 106 p ∧ r 6 = b 107 p ∧ r 7 = b 108 p ∧ r 8 = b 109 p ∧ r 9 = b 104 p ∧ r 10 = b 110 p)
  ∧ (∀ c : Nat, c < 3 → b 111 (3 * p + c) = cond (hb (r 11) (nI c)) 1 0)
  ∧ (r 3 = 0 ∨ r 3 = 1 ∨ r 3 = 2) ∧ (0 ≤ r 6 ∧ r 6 ≤ 1000) ∧ (r 7 ≤ r 8 ∧ 0 ≤ r 8) ∧ (r 10 = 0 ∨ r 10 = 1) ∧ (0 ≤ r 0 ∧ r 0 ≤ 30)
def ig_R1 (np ns t : Nat) (a : ig_M) (la : Int64) (b : ig_M) (lb : Int64) : Prop :=
  (np ≤ 8 ∧ ns ≤ 6 ∧ t ≤ 5000) ∧ a 1 1 = nI np ∧ b 97 2 = nI np ∧ a 1 4 = nI ns ∧ b 97 7 = nI ns ∧ a 23 6 = nI t ∧ b 97 11 = nI t ∧ a 23 7 = b 97 22 ∧ la = lb
def ig_R2 (a b : ig_M) : Prop := ∀ p : Nat, p < 8 → ig_ph (a (3 + p)) b p
def ig_R3 (a b : ig_M) : Prop := ∀ p q : Nat, p < 8 → q < 8 → a (12 + p) q = b 101 (8 * p + q) ∧ 0 ≤ a (12 + p) q ∧ a (12 + p) q ≤ 20
def ig_R4 (a b : ig_M) : Prop := ∀ s : Nat, s < 6 → a 20 s = b 102 s
def ig_wk (r : Nat → Int32) : Prop := r 2 = 1 ∨ r 2 = 2
/-- the lights' rows r, m -/
def ig_R5 (np ns : Nat) (r m : Nat → Int32) : Prop :=
  r 2 = m 9 ∧ r 4 = m 1 ∧ r 5 = m 21 ∧ (r 2 = 0 ∨ r 2 = 1 ∨ r 2 = 2 ∨ r 2 = 3) ∧ (r 4 = 0 ∨ r 4 = 1) ∧ (r 5 = -1 ∨ ∃ p : Nat, p < np ∧ r 5 = nI p)
  ∧ (∃ s : Nat, s < 6 ∧ m 10 = nI s ∧ (ig_wk r → s < ns ∧ r 3 = nI s)) ∧ (¬ ig_wk r → r 3 = -1)
def ig_R6 (t : Nat) (a b : ig_M) : Prop := ∀ u : Nat, u < t → a 22 u = b 112 u
/-! ===== the cases that the law tells, one by one: what a call comes to on both sides ===== -/
section CASES
variable {np ns t : Nat} {a : ig_M} {la : Int64} {b : ig_M} {lb lo : Int64}
end CASES
/-! ===== meet and stage ===== -/
section MEET
variable {np ns t : Nat} {a : ig_M} {la : Int64} {b : ig_M} {lb lo : Int64}
theorem ne10 : ¬ (1 : Int32) = 0 := by decide
theorem le_self (n : Nat) : nI n ≤ nI n := Int32.le_refl _
theorem nle_of {i n : Nat} (h : i < n) (hn : n ≤ 10000) : ¬ nI n ≤ nI i := nI_ge h (by omega)
def ig_both (r : Nat → Int32) (x y : Int32) (s : Nat) : Prop := hb (r s) x = true ∧ hb (r s) y = true
theorem w_hswb (hns : ns ≤ 6) (h : a 1 4 = nI ns) (x y : Int32) (post : Int32 → Prop) (h1 : (∃ s, s < ns ∧ ig_both (a 20) x y s) → post 1) (h0 : (¬ ∃ s, s < ns ∧ ig_both (a 20) x y s) → post 0) : wp_X3_hasStageWithBoth a la x y post := by
  refine ⟨ns + 1, loop_i (fun n k (_ : Unit) => wp_X3_hasStageWithBoth_2 a la post n x y (nI k)) (fun k _ => ∀ s, s < k → ¬ ig_both (a 20) x y s) ns ?_ ?_ (ns + 1) 0 () (Nat.zero_le _) (by omega) (fun s hs => absurd hs (Nat.not_lt_zero s))⟩
  · intro n _ hI
    refine ⟨fun _ => h0 (fun ⟨s, q1, q2⟩ => hI s q1 q2), fun q => absurd (by rw [h]; exact le_self ns) q⟩
  · intro n k _ hk hI ih
    refine ⟨fun q => absurd (by rw [h] at q; exact q) (nle_of hk (by omega)), fun _ => ?_⟩
    rw [w_setOf a la ns k hns hk h, w_has]
    cases g1 : hb (a 20 k) x
    · simp only [cond_false, true_implies, not_true_eq_false, false_implies, and_true]
      rw [nI_1]
      exact ih () (fun s hs => by
        rcases Nat.lt_succ_iff_lt_or_eq.mp hs with q | rfl
        · exact hI s q
        · intro q; rw [q.1] at g1; cases g1)
    · refine ⟨fun q => absurd q (by decide), fun _ => ?_⟩
      rw [w_setOf a la ns k hns hk h, w_has]
      cases g2 : hb (a 20 k) y
      · refine ⟨fun _ => ?_, fun q => absurd rfl q⟩
        rw [nI_1]
        exact ih () (fun s hs => by
          rcases Nat.lt_succ_iff_lt_or_eq.mp hs with q | rfl
          · exact hI s q
          · intro q; rw [q.2] at g2; cases g2)
      · exact ⟨fun q => absurd q (by decide), fun _ => h1 ⟨k, hk, g1, g2⟩⟩
theorem iw_le {x : Int32} {m n : Nat} (hm : m ≤ 1000) (hn : n ≤ 10000) (h : iw x (nI m) (nI n) = true) : ∃ k : Nat, m ≤ k ∧ k ≤ n ∧ x = nI k := by
  unfold iw at h
  simp only [Bool.and_eq_true, Bool.not_eq_true', decide_eq_false_iff_not] at h
  have h0 : ¬ x < 0 := fun q => h.1 (Int32.lt_of_lt_of_le q (nI_pos' (by omega)))
  obtain ⟨k, hk, rfl⟩ := nI_of h0
  rw [nI_ltI hk (by omega), nI_ltI (by omega) hk] at h
  exact ⟨k, by omega, by omega, rfl⟩
theorem iw_k {k m n : Nat} (hn : n ≤ 10000) (h1 : m ≤ k) (h2 : k ≤ n) : iw (nI k) (nI m) (nI n) = true := by
  unfold iw
  simp only [Bool.and_eq_true, Bool.not_eq_true', decide_eq_false_iff_not]
  rw [nI_ltI (by omega) (by omega), nI_ltI (by omega) (by omega)]
  omega
theorem idx8 (p q : Nat) : 8 * nI p + nI q = nI (8 * p + q) := by
  show nI 8 * nI p + nI q = _
  rw [pk_mul, nI_add]
end MEET
/-! ===== tools: folds, any, first, loops ===== -/
def anyN (f : Nat → Bool) : Nat → Bool
  | 0 => false
  | n + 1 => anyN f n || f n
theorem anyN_iff (f : Nat → Bool) (n : Nat) : anyN f n = true ↔ ∃ i, i < n ∧ f i = true := by
  induction n with
  | zero => exact ⟨fun h => by simp [anyN] at h, fun ⟨i, h, _⟩ => absurd h (Nat.not_lt_zero i)⟩
  | succ n ih =>
    rw [anyN, Bool.or_eq_true, ih]
    constructor
    · rintro (⟨i, h1, h2⟩ | h)
      · exact ⟨i, by omega, h2⟩
      · exact ⟨n, by omega, h⟩
    · rintro ⟨i, h1, h2⟩
      rcases Nat.lt_succ_iff_lt_or_eq.mp h1 with q | rfl
      · exact Or.inl ⟨i, q, h2⟩
      · exact Or.inr h2
theorem anyN_f (f : Nat → Bool) (n : Nat) : anyN f n = false ↔ ∀ i, i < n → f i = false := by
  constructor
  · intro h i hi
    cases hf : f i
    · rfl
    · rw [(anyN_iff f n).mpr ⟨i, hi, hf⟩] at h; cases h
  · intro h
    cases hf : anyN f n
    · rfl
    · obtain ⟨i, h1, h2⟩ := (anyN_iff f n).mp hf
      rw [h i h1] at h2; cases h2
theorem anyN_congr {f g : Nat → Bool} {n : Nat} (h : ∀ i, i < n → f i = g i) : anyN f n = anyN g n := by
  induction n with
  | zero => rfl
  | succ n ih => rw [anyN, anyN, ih (fun i hi => h i (by omega)), h n (by omega)]
theorem anyN_hit {f : Nat → Bool} {n k : Nat} (hk : k < n) (h : f k = true) : anyN f n = true := (anyN_iff f n).mpr ⟨k, hk, h⟩
/-- a loop that returns 1 at the first hit -/
theorem any_loop (W : Nat → Nat → Prop) (P : Int32 → Prop) (f : Nat → Bool) (e : Nat) (hx : ∀ n, P 0 → W (n + 1) e)
    (hs : ∀ n k, k < e → (f k = true → P 1) → (f k = false → W n (k + 1)) → W (n + 1) k) (h : P (cond (anyN f e) 1 0)) : ∃ j, W j 0 := by
  refine pk_loop (σ := Unit) (fun n k _ => W n k) (fun k _ => ∀ i, i < k → f i = false) e 0 () (Nat.zero_le _) (fun i hi => absurd hi (Nat.not_lt_zero i)) ?_ ?_
  · intro n _ hI
    apply hx
    rw [(anyN_f f e).mpr hI] at h
    exact h
  · intro n k _ hk hI ih
    apply hs n k hk
    · intro hf
      rw [anyN_hit hk hf] at h
      exact h
    · intro hf
      exact ih () (fun i hi => by
        rcases Nat.lt_succ_iff_lt_or_eq.mp hi with q | rfl
        · exact hI i q
        · exact hf)
def foldN {σ : Type} (F : Nat → σ → σ) : Nat → σ → σ
  | 0, s => s
  | n + 1, s => F n (foldN F n s)
theorem fold_loop {σ : Type} (W : Nat → Nat → σ → Prop) (F : Nat → σ → σ) (e : Nat) (s0 : σ) (hx : ∀ n, W (n + 1) e (foldN F e s0))
    (hs : ∀ n k, k < e → W n (k + 1) (F k (foldN F k s0)) → W (n + 1) k (foldN F k s0)) : ∃ j, W j 0 s0 := by
  refine pk_loop W (fun k s => s = foldN F k s0) e 0 s0 (Nat.zero_le _) rfl ?_ ?_
  · intro n s hI; subst hI; exact hx n
  · intro n k s hk hI ih
    subst hI
    exact hs n k hk (ih _ rfl)
/-- v is the first below n where f holds; -1 where none -/
def isFst (f : Nat → Bool) (n : Nat) (g : Nat → Int32) (v : Int32) : Prop := (v = -1 ∧ ∀ i, i < n → f i = false) ∨ ∃ i, i < n ∧ v = g i ∧ f i = true ∧ ∀ j, j < i → f j = false
theorem ex_fst (f : Nat → Bool) (n : Nat) (g : Nat → Int32) : ∃ v, isFst f n g v := by
  by_cases h : ∃ i, i < n ∧ f i = true
  · obtain ⟨i, ⟨h1, h2⟩, h3⟩ := pk_least (fun i => i < n ∧ f i = true) h
    refine ⟨g i, Or.inr ⟨i, h1, rfl, h2, fun j hj => ?_⟩⟩
    cases hf : f j
    · rfl
    · exact absurd ⟨by omega, hf⟩ (h3 j hj)
  · refine ⟨-1, Or.inl ⟨rfl, fun i hi => ?_⟩⟩
    cases hf : f i
    · rfl
    · exact absurd ⟨i, hi, hf⟩ h
theorem isFst_none {f : Nat → Bool} {n : Nat} {g : Nat → Int32} {v : Int32} (h : isFst f n g v) (h0 : ∀ i, i < n → f i = false) : v = -1 := by
  rcases h with ⟨q, _⟩ | ⟨i, h1, _, h3, _⟩
  · exact q
  · rw [h0 i h1] at h3; cases h3
theorem isFst_at {f : Nat → Bool} {n : Nat} {g : Nat → Int32} {v : Int32} (h : isFst f n g v) {k : Nat} (hk : k < n) (hf : f k = true) (h0 : ∀ i, i < k → f i = false) : v = g k := by
  rcases h with ⟨_, q⟩ | ⟨i, h1, h2, h3, h4⟩
  · rw [q k hk] at hf; cases hf
  · rcases Nat.lt_trichotomy i k with q | rfl | q
    · rw [h0 i q] at h3; cases h3
    · exact h2
    · rw [h4 k q] at hf; cases hf
/-! ===== bits ===== -/
def bt (x : Int32) (i : Nat) : Bool := x.toBitVec.getLsbD i
theorem b_ext {x y : Int32} (h : ∀ i, i < 32 → bt x i = bt y i) : x = y := Int32.toBitVec_inj.mp (BitVec.eq_of_getLsbD_eq (fun i hi => h i hi))
theorem b_or (x y : Int32) (i : Nat) : bt (x ||| y) i = (bt x i || bt y i) := by unfold bt; rw [Int32.toBitVec_or, BitVec.getLsbD_or]
theorem b_and (x y : Int32) (i : Nat) : bt (x &&& y) i = (bt x i && bt y i) := by unfold bt; rw [Int32.toBitVec_and, BitVec.getLsbD_and]
theorem b_xor (x y : Int32) (i : Nat) : bt (x ^^^ y) i = (bt x i ^^ bt y i) := by unfold bt; rw [Int32.toBitVec_xor, BitVec.getLsbD_xor]
theorem b_big {x : Int32} {i : Nat} (h : 32 ≤ i) : bt x i = false := BitVec.getLsbD_of_ge _ _ h
theorem b_m1 : ∀ i, i < 32 → bt (-1) i = true := by decide +kernel
theorem b_0 (i : Nat) : bt 0 i = false := BitVec.getLsbD_zero
theorem s_l : ∀ n, n < 32 → ((nI n &&& 31).toBitVec.smod 32).toNat = n := by decide +kernel
theorem s_u : ∀ n, n < 32 → (((nI n).toUInt32 &&& Int32.toUInt32 31).toBitVec % 32).toNat = n := by decide +kernel
theorem b_shl (n : Nat) (hn : n < 32) (x : Int32) {i : Nat} (hi : i < 32) : bt (x <<< (nI n &&& 31)) i = (decide (n ≤ i) && bt x (i - n)) := by
  unfold bt
  rw [Int32.toBitVec_shiftLeft]
  show (x.toBitVec <<< ((nI n &&& 31).toBitVec.smod 32).toNat).getLsbD i = _
  rw [s_l n hn, BitVec.getLsbD_shiftLeft]
  rcases Nat.lt_or_ge i n with h | h
  · simp [h, Nat.not_le.mpr h]
  · simp [hi, h, Nat.not_lt.mpr h]
theorem b_ushr (n : Nat) (hn : n < 32) (x : Int32) (i : Nat) : bt ((x.toUInt32 >>> ((nI n).toUInt32 &&& Int32.toUInt32 31)).toInt32) i = bt x (n + i) := by
  show (x.toUInt32 >>> ((nI n).toUInt32 &&& Int32.toUInt32 31)).toBitVec.getLsbD i = x.toUInt32.toBitVec.getLsbD (n + i)
  rw [UInt32.toBitVec_shiftRight]
  show (x.toUInt32.toBitVec >>> (((nI n).toUInt32 &&& Int32.toUInt32 31).toBitVec % 32).toNat).getLsbD i = _
  rw [s_u n hn, BitVec.getLsbD_ushiftRight]
theorem b_sshr (n : Nat) (hn : n < 32) (x : Int32) {i : Nat} (hi : i < 32) : bt (x >>> (nI n &&& 31)) i = if n + i < 32 then bt x (n + i) else bt x 31 := by
  unfold bt
  rw [Int32.toBitVec_shiftRight]
  show (x.toBitVec.sshiftRight ((nI n &&& 31).toBitVec.smod 32).toNat).getLsbD i = _
  rw [s_l n hn, BitVec.getLsbD_sshiftRight, BitVec.msb_eq_getLsbD_last]
  simp [hi]
theorem b_1 (i : Nat) : bt 1 i = decide (i = 0) := by
  rcases Nat.lt_or_ge i 32 with h | h
  · exact (by decide +kernel : ∀ i, i < 32 → bt 1 i = decide (i = 0)) i h
  · rw [b_big h, decide_eq_false (by omega)]
theorem b_3 (i : Nat) : bt 3 i = decide (i < 2) := by
  rcases Nat.lt_or_ge i 32 with h | h
  · exact (by decide +kernel : ∀ i, i < 32 → bt 3 i = decide (i < 2)) i h
  · rw [b_big h, decide_eq_false (by omega)]
theorem b_65535 (i : Nat) : bt 65535 i = decide (i < 16) := by
  rcases Nat.lt_or_ge i 32 with h | h
  · exact (by decide +kernel : ∀ i, i < 32 → bt 65535 i = decide (i < 16)) i h
  · rw [b_big h, decide_eq_false (by omega)]
theorem hb_bt (x : Int32) {n : Nat} (hn : n < 32) : hb x (nI n) = bt x n := by
  unfold hb
  rcases and1_or (x >>> (nI n &&& 31)) with h | h
  · rw [h]
    have h2 : bt ((x >>> (nI n &&& 31)) &&& 1) 0 = bt (0 : Int32) 0 := by rw [h]
    rw [b_and, b_sshr n hn x (by omega), b_1, b_0] at h2
    simpa [hn] using h2.symm
  · rw [h]
    have h2 : bt ((x >>> (nI n &&& 31)) &&& 1) 0 = bt (1 : Int32) 0 := by rw [h]
    rw [b_and, b_sshr n hn x (by omega), b_1] at h2
    have h3 : ¬ (1 : Int32) = 0 := by decide
    simpa [hn, h3] using h2.symm
/-! ===== R, with the log's length apart; one phase, the lights ===== -/
def ig_Q (np ns t w : Nat) (a : ig_M) (la : Int64) (b : ig_M) (lb : Int64) : Prop := ig_R1 np ns t a la b lb ∧ ig_R2 a b ∧ ig_R3 a b ∧ ig_R4 a b ∧ ig_R5 np ns (a 23) (b 97) ∧ ig_R6 w a b
theorem Q_phase {np ns t w : Nat} {a : ig_M} {la : Int64} {b : ig_M} {lb : Int64} (h : ig_Q np ns t w a la b lb) {p : Nat} (hp : p < 8) (a' b' : ig_M) (ha : ∀ i, i ≠ 3 + p → a' i = a i)
    (hb : ∀ i j, ¬ ((98 ≤ i ∧ i ≤ 100 ∨ 103 ≤ i ∧ i ≤ 110) ∧ j = p) → b' i j = b i j) (hph : ig_ph (a' (3 + p)) b' p) : ig_Q np ns t w a' la b' lb := by
  obtain ⟨h1, h2, h3, h4, h5, h6⟩ := h
  have e97 : b' 97 = b 97 := funext (fun j => hb 97 j (by omega))
  refine ⟨?_, ?_, ?_, ?_, ?_, ?_⟩
  · unfold ig_R1
    rw [ha 1 (by omega), ha 23 (by omega), e97]
    exact h1
  · intro q hq
    by_cases hpq : q = p
    · subst hpq; exact hph
    · have h0 := h2 q hq
      rw [ha (3 + q) (by omega)]
      unfold ig_ph at *
      rw [hb 98 q (by omega), hb 99 q (by omega), hb 100 q (by omega), hb 103 q (by omega), hb 104 q (by omega), hb 105 q (by omega), hb 106 q (by omega), hb 107 q (by omega), hb 108 q (by omega), hb 109 q (by omega), hb 110 q (by omega)]
      refine ⟨h0.1, fun c hc => ?_, h0.2.2⟩
      rw [hb 111 _ (by omega)]
      exact h0.2.1 c hc
  · intro u v hu hv
    rw [ha (12 + u) (by omega), hb 101 _ (by omega)]
    exact h3 u v hu hv
  · intro s hs
    rw [ha 20 (by omega), hb 102 _ (by omega)]
    exact h4 s hs
  · rw [ha 23 (by omega), e97]
    exact h5
  · intro u hu
    rw [ha 22 (by omega), hb 112 _ (by omega)]
    exact h6 u hu
theorem Q_lights {np ns t w np' ns' t' : Nat} {a : ig_M} {la la' : Int64} {b : ig_M} {lb lb' : Int64} (h : ig_Q np ns t w a la b lb) (a' b' : ig_M) (ha : ∀ i, i ≠ 23 → a' i = a i) (hb : ∀ i, i ≠ 97 → b' i = b i)
    (h1 : ig_R1 np' ns' t' a' la' b' lb') (h5 : ig_R5 np' ns' (a' 23) (b' 97)) : ig_Q np' ns' t' w a' la' b' lb' := by
  obtain ⟨_, h2, h3, h4, _, h6⟩ := h
  refine ⟨h1, ?_, ?_, ?_, h5, ?_⟩
  · intro q hq
    have h0 := h2 q hq
    rw [ha (3 + q) (by omega)]
    unfold ig_ph at *
    rw [hb 98 (by omega), hb 99 (by omega), hb 100 (by omega), hb 103 (by omega), hb 104 (by omega), hb 105 (by omega), hb 106 (by omega), hb 107 (by omega), hb 108 (by omega), hb 109 (by omega), hb 110 (by omega), hb 111 (by omega)]
    exact h0
  · intro u v hu hv
    rw [ha (12 + u) (by omega), hb 101 (by omega)]
    exact h3 u v hu hv
  · intro s hs
    rw [ha 20 (by omega), hb 102 (by omega)]
    exact h4 s hs
  · intro u hu
    rw [ha 22 (by omega), hb 112 (by omega)]
    exact h6 u hu
theorem up_row {a : ig_M} {i j : Nat} {v : Int32} {x : Nat} (h : x ≠ i) : ig_up a i j v x = a x := by
  funext y
  rw [up_app, if_neg h]
theorem up_self (a : ig_M) (i j : Nat) : ig_up a i j (a i j) = a := by
  funext x y
  rw [up_app]
  by_cases h : x = i
  · subst h
    by_cases h2 : y = j
    · subst h2; simp
    · simp [h2]
  · simp [h]
