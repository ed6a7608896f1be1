/-! ===== what prepare tells ===== -/
theorem lowN (x : Int32) {n : Nat} (h0 : 0 < n) (hn : n ≤ 100) : ∃ m : Nat, m < n ∧ (x &&& 2147483647) - (x &&& 2147483647) / nI n * nI n = nI m := by
  obtain ⟨j, hj, e⟩ := pk_andE x (m := 2147483647) 31 (by decide)
  rw [e]
  exact ⟨j % n, Nat.mod_lt _ h0, pk_rem (by omega) h0 (by omega)⟩
theorem w_low (x : Int32) {n : Nat} (h0 : 0 < n) (hn : n ≤ 100) : ∃ m : Nat, m < n ∧ ∀ post : Int32 → Prop, post (nI m) → wp_L_low x (nI n) post := by
  obtain ⟨m, hm, e⟩ := lowN x h0 hn
  refine ⟨m, hm, fun post hp => ⟨nI_ne0 h0 (by omega), ?_⟩⟩
  rw [e]
  exact hp
/-- flat rows of a new object -/
def zb0 : ig_M := fun i => if i = 97 then (fun j => if j = 21 then -1 else 0) else if i = 104 then (fun _ => -1) else fun _ => 0
theorem z_new : zQ 0 0 0 0 ig_a0 0 zb0 ∧ ig_a0 23 4 = 0 ∧ ∀ p q, p < 8 → q < 8 → ig_a0 (12 + p) q = 0 := by
  have r3 : ∀ p, p < 8 → ig_a0 (3 + p) = fun j => if j = 9 then -1 else 0 := fun p hp => by
    unfold ig_a0
    rw [if_pos (by omega)]
  have r12 : ∀ p, p < 8 → ig_a0 (12 + p) = fun _ => 0 := fun p hp => by
    unfold ig_a0
    rw [if_neg (by omega), if_neg (by omega)]
  have nw : ¬ ig_wk (ig_a0 23) := by
    unfold ig_wk
    decide
  refine ⟨⟨⟨⟨⟨by omega, by omega, by omega⟩, rfl, rfl, rfl, rfl, rfl, rfl, rfl, rfl⟩, ?_, ?_, ?_, ?_, ?_⟩, ⟨?_, ?_, ?_⟩, ⟨?_, ?_, ?_, ?_, ?_, ?_, ?_, ?_⟩, ?_⟩, rfl, fun p q hp _ => by rw [r12 p hp]⟩
  · intro p hp
    rw [r3 p hp]
    have hb0 : ∀ c, c < 3 → hb 0 (nI c) = false := by decide
    refine ⟨⟨rfl, rfl, rfl, rfl, rfl, rfl, rfl, rfl, rfl, rfl, rfl⟩, fun c hc => ?_, Or.inl rfl, ⟨by decide, by decide⟩, ⟨by decide, by decide⟩, Or.inl rfl, ⟨by decide, by decide⟩⟩
    show (0 : Int32) = cond (hb 0 (nI c)) 1 0
    rw [hb0 c hc]
    rfl
  · intro p q hp hq
    rw [r12 p hp]
    exact ⟨rfl, (by decide : (0 : Int32) ≤ 0), (by decide : (0 : Int32) ≤ 20)⟩
  · intro s hs
    rfl
  · refine ⟨rfl, rfl, rfl, Or.inl rfl, Or.inl rfl, Or.inl rfl, ⟨0, by omega, rfl, fun z => absurd z nw⟩, fun _ => rfl⟩
  · intro u hu
    exact absurd hu (Nat.not_lt_zero u)
  · exact fun p hp => absurd hp (Nat.not_lt_zero p)
  · intro p q hp hq hm
    rw [r12 p hp] at hm
    exact absurd (show (0 : Int32) < 0 from hm) (by decide)
  · exact fun s hs => absurd hs (Nat.not_lt_zero s)
  · intro _ p hp
    rw [r3 p hp]
    rfl
  · exact fun _ => ⟨nw, fun u p hu => absurd hu (Nat.not_lt_zero u)⟩
  · intro p hp
    rw [r3 p hp]
    exact Or.inl rfl
  · exact fun u p hu => absurd hu (Nat.not_lt_zero u)
  · intro p q hp hq hm
    rw [r12 p hp] at hm
    exact absurd (show (0 : Int32) < 0 from hm) (by decide)
  · intro p q hp hq hm
    rw [r12 p hp] at hm
    exact absurd (show (0 : Int32) < 0 from hm) (by decide)
  · intro p q hp hq hm
    rw [r12 p hp] at hm
    exact absurd (show (0 : Int32) < 0 from hm) (by decide)
  · intro p hp _
    rw [r3 p hp]
    rfl
  · exact ⟨by decide, by decide, by decide, by decide⟩
/-- while prepare tells phases -/
def zP (k : Nat) (a : ig_M) (b : ig_M) : Prop := zQ k 0 0 0 a 0 b ∧ a 23 4 = 0 ∧ ∀ p q, p < 8 → q < 8 → a (12 + p) q = 0
theorem prep_phases (v : Int32) : ∀ (n k : Nat) (a b : ig_M), k + n = 4 → zP k a b → ∃ a' b', zP 4 a' b' ∧ ∀ post : ig_M → Int64 → Prop, (wp_L_prepare_2 post 1 a' 0 v (nI 4)) → wp_L_prepare_2 post (n + 1) a 0 v (nI k)
  | 0, k, a, b, hk, h => by
    have e : k = 4 := by omega
    subst e
    exact ⟨a, b, h, fun post hp => hp⟩
  | n + 1, k, a, b, hk, h => by
    obtain ⟨m1, h1, A1⟩ := w_low (v >>> ((3 * nI k) &&& 31)) (n := 6) (by omega) (by omega)
    obtain ⟨m2, h2, A2⟩ := w_low (v >>> ((2 * nI k) &&& 31)) (n := 20) (by omega) (by omega)
    obtain ⟨m3, h3, A3⟩ := w_low (v >>> (nI k &&& 31)) (n := 5) (by omega) (by omega)
    obtain ⟨hQ, hst, hz⟩ := h
    have e1 : (1 : Int32) + nI m1 = nI (1 + m1) := nI_add 1 m1
    have e2 : nI (1 + m1) + nI m2 = nI (1 + m1 + m2) := nI_add _ _
    have g1 : iw (nI (1 + m1)) 1 30 = true := iw_k (m := 1) (n := 30) (by omega) (by omega) (by omega)
    have g2 : iw (nI (1 + m1 + m2)) (nI (1 + m1)) 120 = true := iw_k (m := 1 + m1) (n := 120) (by omega) (by omega) (by omega)
    have g3 : iw (nI m3) 0 10 = true := iw_k (m := 0) (n := 10) (by omega) (by omega) (by omega)
    have hk8 : k < 8 := by omega
    obtain ⟨a', b', hP', A'⟩ := prep_phases v n (k + 1) (phA k (nI (1 + m1)) (nI (1 + m1 + m2)) (nI m3) a) (phB k (nI (1 + m1)) (nI (1 + m1 + m2)) (nI m3) b) (by omega) ⟨z_phase hQ hk8 _ _ (iw_rng g1), by rw [phA_off _ _ _ (by omega) (by omega)]; exact hst, fun p q hp hq => by rw [phA_off _ _ _ (by omega) (by omega)]; exact hz p q hp hq⟩
    refine ⟨a', b', hP', fun post hp => ?_⟩
    refine ⟨fun z => absurd z (nle_of (i := k) (n := 4) (by omega) (by omega)), fun _ => A1 _ (A2 _ (A3 _ ?_))⟩
    rw [e1, e2]
    refine w_phaseOk hQ.1 hk8 hst g1 g2 g3 _ _ ?_
    rw [nI_1]
    exact A' post hp
/-- the pairs that meet -/
def prs (l : List (Nat × Nat)) (a : ig_M) : Prop := ∀ p q, p < 8 → q < 8 → 0 < a (12 + p) q → (p, q) ∈ l
theorem prs_meet {l : List (Nat × Nat)} {a : ig_M} (h : prs l a) {p q : Nat} (hpq : ¬ p = q) (v w : Int32) : prs ((p, q) :: (q, p) :: l) (mtA p q v w a) := by
  intro r s hr hs hm
  rw [mtA_at hpq] at hm
  by_cases c1 : r = q ∧ s = p
  · obtain ⟨rfl, rfl⟩ := c1
    exact List.mem_cons_of_mem _ List.mem_cons_self
  · by_cases c2 : r = p ∧ s = q
    · obtain ⟨rfl, rfl⟩ := c2
      exact List.mem_cons_self
    · rw [if_neg c1, if_neg c2] at hm
      exact List.mem_cons_of_mem _ (List.mem_cons_of_mem _ (h r s hr hs hm))
theorem prs_stage {np ns t w : Nat} {a : ig_M} {la : Int64} {b : ig_M} (hQ : ig_Q np ns t w a la b la) {l : List (Nat × Nat)} (h : prs l a) {x : Int32} (hx : ∀ p, p < np → ∀ q, q < np → ¬ (hb x (nI p) = true ∧ hb x (nI q) = true ∧ (p, q) ∈ l)) : meetsB b x np = false := by
  have hnp := Q_np hQ
  unfold meetsB
  rw [anyN_f]
  intro p hp
  rw [anyN_f]
  intro q hq
  cases c : hb x (nI p)
  · rfl
  · cases d : hb x (nI q)
    · rfl
    · have hb := (hQ.2.2.1 p q (by omega) (by omega)).1
      have : b 101 (8 * p + q) ≤ 0 := by
        rw [← hb]
        apply Classical.byContradiction
        intro z
        exact hx p hp q hq ⟨c, d, h p q (by omega) (by omega) (i_le.mp z)⟩
      simp [this]
theorem d_prepare (v : Int32) : ∃ a' la', zI a' la' ∧ ∀ post : ig_M → Int64 → Prop, post a' la' → wp_L_prepare ig_a0 0 v post := by
  obtain ⟨hQ0, hs0, hz0⟩ := z_new
  obtain ⟨a1, b1, ⟨h1, hst, hz⟩, A1⟩ := prep_phases v 4 0 ig_a0 zb0 rfl ⟨hQ0, hs0, hz0⟩
  obtain ⟨m1, q1, B1⟩ := w_low (v >>> (4 &&& 31)) (n := 8) (by omega) (by omega)
  obtain ⟨m2, q2, B2⟩ := w_low (v >>> (7 &&& 31)) (n := 8) (by omega) (by omega)
  obtain ⟨m3, q3, B3⟩ := w_low (v >>> (5 &&& 31)) (n := 8) (by omega) (by omega)
  obtain ⟨m4, q4, B4⟩ := w_low (v >>> (9 &&& 31)) (n := 8) (by omega) (by omega)
  obtain ⟨m5, q5, B5⟩ := w_low (v >>> (6 &&& 31)) (n := 8) (by omega) (by omega)
  obtain ⟨m6, q6, B6⟩ := w_low (v >>> (3 &&& 31)) (n := 8) (by omega) (by omega)
  obtain ⟨m7, q7, B7⟩ := w_low (v >>> (8 &&& 31)) (n := 2) (by omega) (by omega)
  have no : ∀ (a : ig_M) (p q : Nat), ¬ ∃ s, s < 0 ∧ ig_both (a 20) (nI p) (nI q) s := fun a p q ⟨s, hs, _⟩ => absurd hs (Nat.not_lt_zero s)
  have hp0 : prs [] a1 := fun p q hp hq hm => by rw [hz p q hp hq] at hm; exact absurd hm (by decide)
  -- three pairs that meet
  obtain ⟨a2, e2⟩ : ∃ x, x = mtA 0 1 (nI (1 + m1)) (nI (1 + m2)) a1 := ⟨_, rfl⟩
  have z2 := z_meet h1 hst (p := 0) (q := 1) (m := 1 + m1) (n := 1 + m2) (by omega) (by omega) (by omega) (by omega) (by omega)
  have s2 : a2 23 4 = 0 := by rw [e2, mtA_off _ _ (by omega) (by omega)]; exact hst
  have p2 := prs_meet hp0 (p := 0) (q := 1) (by omega) (nI (1 + m1)) (nI (1 + m2))
  rw [← e2] at z2 p2
  obtain ⟨a3, e3⟩ : ∃ x, x = mtA 0 2 (nI (1 + m3)) (nI (1 + m4)) a2 := ⟨_, rfl⟩
  have z3 := z_meet z2 s2 (p := 0) (q := 2) (m := 1 + m3) (n := 1 + m4) (by omega) (by omega) (by omega) (by omega) (by omega)
  have s3 : a3 23 4 = 0 := by rw [e3, mtA_off _ _ (by omega) (by omega)]; exact s2
  have p3 := prs_meet p2 (p := 0) (q := 2) (by omega) (nI (1 + m3)) (nI (1 + m4))
  rw [← e3] at z3 p3
  obtain ⟨a4, e4⟩ : ∃ x, x = mtA 2 3 (nI (1 + m5)) (nI (1 + m6)) a3 := ⟨_, rfl⟩
  have z4 := z_meet z3 s3 (p := 2) (q := 3) (m := 1 + m5) (n := 1 + m6) (by omega) (by omega) (by omega) (by omega) (by omega)
  have s4 : a4 23 4 = 0 := by rw [e4, mtA_off _ _ (by omega) (by omega)]; exact s3
  have p4 := prs_meet p3 (p := 2) (q := 3) (by omega) (nI (1 + m5)) (nI (1 + m6))
  rw [← e4] at z4 p4
  have pos : ∀ n : Nat, n < 100 → 0 < nI (1 + n) := fun n hn => nI_lt (a := 0) (b := 1 + n) (by omega) (by omega)
  have M1 : 0 < a4 12 1 := by
    show 0 < a4 (12 + 0) 1
    rw [e4, mtA_at (by omega), if_neg (by omega), if_neg (by omega), e3, mtA_at (by omega), if_neg (by omega), if_neg (by omega), e2, mtA_at (by omega), if_neg (by omega), if_pos ⟨rfl, rfl⟩]
    exact pos m1 (by omega)
  have M2 : 0 < a4 12 2 := by
    show 0 < a4 (12 + 0) 2
    rw [e4, mtA_at (by omega), if_neg (by omega), if_neg (by omega), e3, mtA_at (by omega), if_neg (by omega), if_pos ⟨rfl, rfl⟩]
    exact pos m3 (by omega)
  have M3 : 0 < a4 14 3 := by
    show 0 < a4 (12 + 2) 3
    rw [e4, mtA_at (by omega), if_neg (by omega), if_pos ⟨rfl, rfl⟩]
    exact pos m5 (by omega)
  -- three stages
  have g9 : iw 9 1 ((1 <<< (nI 4 &&& 31)) - 1) = true := by decide
  have g6 : iw 6 1 ((1 <<< (nI 4 &&& 31)) - 1) = true := by decide
  have x9 := prs_stage z4.1 p4 (x := 9) (by decide)
  have z5 := z_stage z4 (by omega) (st_bit (by omega) g9)
  obtain ⟨a5, e5⟩ : ∃ x, x = stA 0 9 a4 := ⟨_, rfl⟩
  have off5 : ∀ i, i ≠ 1 → i ≠ 20 → a5 i = a4 i := fun i g1 g2 => by rw [e5]; unfold stA; rw [up_row g1, up_row g2]
  rw [← e5] at z5
  have s5 : a5 23 4 = 0 := by rw [off5 23 (by omega) (by omega)]; exact s4
  have p5 : prs _ a5 := fun p q hp hq hm => p4 p q hp hq (by rw [off5 _ (by omega) (by omega)] at hm; exact hm)
  have x6 := prs_stage z5.1 p5 (x := 6) (by decide)
  have z6 := z_stage z5 (by omega) (st_bit (by omega) g6)
  obtain ⟨a6, e6⟩ : ∃ x, x = stA 1 6 a5 := ⟨_, rfl⟩
  have off6 : ∀ i, i ≠ 1 → i ≠ 20 → a6 i = a5 i := fun i g1 g2 => by rw [e6]; unfold stA; rw [up_row g1, up_row g2]
  rw [← e6] at z6
  have s6 : a6 23 4 = 0 := by rw [off6 23 (by omega) (by omega)]; exact s5
  have p6 : prs _ a6 := fun p q hp hq hm => p5 p q hp hq (by rw [off6 _ (by omega) (by omega)] at hm; exact hm)
  obtain ⟨X, hX, eX⟩ : ∃ X : Int32, (X = 8 ∨ X = 10) ∧ ∀ post : ig_M → Int64 → Prop, wp_L_prepare_165 post a6 0 X → ((¬ nI m7 = 0 → wp_L_prepare_165 post a6 0 10) ∧ (nI m7 = 0 → wp_L_prepare_165 post a6 0 8)) := by
    by_cases c : nI m7 = 0
    · exact ⟨8, Or.inl rfl, fun post hp => ⟨fun z => absurd c z, fun _ => hp⟩⟩
    · exact ⟨10, Or.inr rfl, fun post hp => ⟨fun _ => hp, fun z => absurd z c⟩⟩
  have gX : iw X 1 ((1 <<< (nI 4 &&& 31)) - 1) = true := by rcases hX with rfl | rfl <;> decide
  have xX : meetsB _ X 4 = false := prs_stage z6.1 p6 (x := X) (by rcases hX with rfl | rfl <;> decide)
  have z7 := z_stage z6 (by omega) (st_bit (by omega) gX)
  have off7 : ∀ i, i ≠ 1 → i ≠ 20 → stA 2 X a6 i = a6 i := fun i g1 g2 => by unfold stA; rw [up_row g1, up_row g2]
  refine ⟨stA 2 X a6, 0, ⟨4, 3, 0, _, by omega, by omega, z7, ?_⟩, fun post hp => ?_⟩
  · unfold zM
    rw [off7 12 (by omega) (by omega), off7 14 (by omega) (by omega), off6 12 (by omega) (by omega), off6 14 (by omega) (by omega), off5 12 (by omega) (by omega), off5 14 (by omega) (by omega)]
    exact ⟨M1, M2, M3⟩
  · refine ⟨5, by omega, A1 post ⟨fun _ => ?_, fun z => absurd (le_self 4) z⟩⟩
    have c1 : ∀ n : Nat, (1 : Int32) + nI n = nI (1 + n) := fun n => nI_add 1 n
    refine B1 _ (B2 _ ?_)
    rw [c1, c1]
    refine w_meetOk h1.1 hst (p := 0) (q := 1) (by omega) (by omega) (by omega) (by omega) (by omega) (no _ _ _) _ _ ?_
    rw [← e2]
    refine B3 _ (B4 _ ?_)
    rw [c1, c1]
    refine w_meetOk z2.1 s2 (p := 0) (q := 2) (by omega) (by omega) (by omega) (by omega) (by omega) (no _ _ _) _ _ ?_
    rw [← e3]
    refine B5 _ (B6 _ ?_)
    rw [c1, c1]
    refine w_meetOk z3.1 s3 (p := 2) (q := 3) (by omega) (by omega) (by omega) (by omega) (by omega) (no _ _ _) _ _ ?_
    rw [← e4]
    refine w_stageOk z4.1 s4 (by omega) g9 x9 _ _ ?_
    rw [← e5]
    refine w_stageOk z5.1 s5 (by omega) g6 x6 _ _ ?_
    rw [← e6]
    refine B7 _ (eX post ?_)
    unfold wp_L_prepare_165
    exact w_stageOk z6.1 s6 (by omega) gX xX _ _ hp
