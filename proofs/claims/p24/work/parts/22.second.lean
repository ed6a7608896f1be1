/-! ===== out of the rows of whole: what the class does in a second ===== -/
/-! ===== go: leaving a stage ===== -/
def meB (b : ig_M) (p : Nat) (tr : Bool) : Bool := !decide (b 105 p < b 98 p) && (tr || decide (b 106 p = 0) || !decide (b 105 p < b 99 p))
def neB (b : ig_M) (np : Nat) (L : Int32) (tr : Bool) : Bool := anyN (fun p => hb L (nI p) && !meB b p tr) np
def egA (L : Int32) (k : Nat) (a : ig_M) : ig_M := if hb L (nI k) = true then ig_up (ig_up a (3 + k) 3 2) (3 + k) 9 (a 23 6) else a
def egB (L : Int32) (k : Nat) (b : ig_M) : ig_M := if hb L (nI k) = true then ig_up (ig_up b 103 k 2) 104 k (b 97 11) else b
section LEAVE2
variable {np ns t w : Nat} {a : ig_M} {la : Int64} {b : ig_M} {lb lo : Int64}
theorem Q_eg (L : Int32) (h : ig_Q np ns t w a la b lb) {k : Nat} (hk : k < 8) : ig_Q np ns t w (egA L k a) la (egB L k b) lb := by
  unfold egA egB
  by_cases c : hb L (nI k) = true
  · rw [if_pos c, if_pos c]
    have hph := h.2.1 k hk
    obtain ⟨_, e1, e2, e3, e4, e5, e6, e7, _⟩ := h.1
    refine Q_phase h hk _ _ (fun i hi => by rw [up_row hi, up_row hi]) (fun i j hij => by rw [up_col (by omega), up_col (by omega)]) ?_
    obtain ⟨⟨q0, q1, q2, q3, q4, q5, q6, q7, q8, q9, q10⟩, qb, qc, qd, qe, qf⟩ := hph
    simp [ig_ph, up_app, q0, q1, q2, q3, q4, q5, q6, q7, q8, q9, q10, e5, e6]
    simp [q0, q6, q7, q8, q10] at qd qe qf
    exact ⟨by simpa using qb, qd, qe, qf⟩
  · rw [if_neg c, if_neg c]
    exact h
theorem w_meA {k : Nat} (hph : ig_ph (a (3 + k)) b k) (tr : Bool) (post : Int32 → Prop) : wp_X2_mayEnd a la k (cond tr 1 0) post = post (cond (meB b k tr) 1 0) := by
  obtain ⟨⟨q0, q1, q2, q3, q4, q5, q6, q7, q8, q9, q10⟩, _⟩ := hph
  unfold wp_X2_mayEnd meB
  rw [q0, q1, q4, q5]
  by_cases c1 : b 105 k < b 98 k <;> by_cases c2 : b 106 k = 0 <;> by_cases c3 : b 105 k < b 99 k <;> cases tr <;> simp [c1, c2, c3]
theorem w_mayA (h : ig_Q np ns t w a la b lb) (L : Int32) (tr : Bool) (post : Int32 → Prop) (hp : post (cond (neB b np L tr) 0 1)) : wp_X0_mayEnd a la L (cond tr 1 0) post := by
  have hnp := Q_np h
  have e1 := Q_a1 h
  refine any_loop (fun n k => wp_X0_mayEnd_2 a la post n L (cond tr 1 0) (nI k)) (fun r => post (if r = 0 then 1 else 0)) (fun p => hb L (nI p) && !meB b p tr) np ?_ ?_ ?_
  · intro n hp0
    exact ⟨fun _ => hp0, fun z => absurd (by rw [e1]; exact le_self np) z⟩
  · intro n k hk h1 h2
    refine ⟨fun z => absurd (by rw [e1] at z; exact z) (nle_of hk (by omega)), fun _ => ?_⟩
    rw [w_has, nI_1]
    cases c : hb L (nI k)
    · exact ⟨fun _ => h2 (by rw [c]; rfl), fun z => absurd rfl z⟩
    · refine ⟨fun z => absurd z ne10, fun _ => ⟨vp_in_nI (by omega) (by omega), ?_⟩⟩
      rw [nI_clamp (by omega), w_meA (h.2.1 k (by omega))]
      cases d : meB b k tr
      · exact ⟨fun z => absurd rfl z, fun _ => h1 (by rw [c, d]; rfl)⟩
      · exact ⟨fun _ => h2 (by rw [c, d]; rfl), fun z => absurd z ne10⟩
  · unfold neB at hp
    cases c : anyN (fun p => hb L (nI p) && !meB b p tr) np <;> rw [c] at hp <;> exact hp
theorem w_egA (h : ig_Q np ns t w a la b lb) (L : Int32) (post : ig_M → Int64 → Prop) (hp : post (foldN (egA L) np a) la) : wp_X0_endGreens a la L post := by
  have hQ := Q_fold h (fun k x y hk hq => Q_eg L hq (by have := Q_np h; omega)) (F := egA L) (G := egB L)
  have hnp := Q_np h
  refine fold_loop (fun n k s => wp_X0_endGreens_2 post n s la L (nI k)) (egA L) np a ?_ ?_
  · intro n
    exact ⟨fun _ => hp, fun z => absurd (by rw [Q_a1 (hQ np (Nat.le_refl _))]; exact le_self np) z⟩
  · intro n k hk ih
    refine ⟨fun z => absurd (by rw [Q_a1 (hQ k (by omega))] at z; exact z) (nle_of hk (by omega)), fun _ => ?_⟩
    rw [w_has, nI_clamp (by omega), nI_1]
    generalize foldN (egA L) k a = x at ih ⊢
    unfold egA at ih
    cases c : hb L (nI k)
    · rw [c, if_neg (by decide)] at ih
      exact ⟨fun _ => ih, fun z => absurd rfl z⟩
    · rw [c, if_pos rfl] at ih
      refine ⟨fun z => absurd z ne10, fun _ => ⟨vp_in_nI (by omega) (by omega), fun a1 u1 a2 u2 => ?_⟩⟩
      rw [u2, u1]
      exact ih
theorem fold_keep {F : Nat → ig_M → ig_M} {i j : Nat} (h : ∀ k x, F k x i j = x i j) (n : Nat) (x : ig_M) : foldN F n x i j = x i j := by
  induction n with
  | zero => rfl
  | succ n ih => rw [foldN, h, ih]
end LEAVE2
/-! ===== go: entering a stage ===== -/
def letsB (b : ig_M) (q : Nat) (d : Int32) : Bool := !decide (b 103 q = 1) && (decide (b 104 q = -1) || !decide (b 97 11 - b 104 q < d))
def nbB (b : ig_M) (np p : Nat) : Bool := anyN (fun q => !decide (b 101 (8 * q + p) ≤ 0) && !letsB b q (b 101 (8 * q + p))) np
def tgA (k : Nat) (a : ig_M) : ig_M := ig_up (ig_up (ig_up (ig_up (ig_up a (3 + k) 3 1) (3 + k) 4 0) (3 + k) 5 (a (3 + k) 2)) (3 + k) 7 0) (3 + k) 10 0
def tgB (k : Nat) (b : ig_M) : ig_M := ig_up (ig_up (ig_up (ig_up (ig_up b 103 k 1) 105 k 0) 106 k (b 100 k)) 108 k 0) 110 k 0
def enF (E : Int32) (np k : Nat) (s : ig_M × ig_M × Int32) : ig_M × ig_M × Int32 :=
  if hb E (nI k) = true ∧ ¬ s.2.1 103 k = 1 then (if nbB s.2.1 np k = true then (s.1, s.2.1, 0) else (tgA k s.1, tgB k s.2.1, s.2.2)) else s
section ENTER
variable {np ns t w : Nat} {a : ig_M} {la : Int64} {b : ig_M} {lb lo : Int64}
theorem Q_tg (h : ig_Q np ns t w a la b lb) {k : Nat} (hk : k < 8) : ig_Q np ns t w (tgA k a) la (tgB k b) lb := by
  have hph := h.2.1 k hk
  unfold tgA tgB
  refine Q_phase h hk _ _ (fun i hi => by rw [up_row hi, up_row hi, up_row hi, up_row hi, up_row hi]) (fun i j hij => by rw [up_col (by omega), up_col (by omega), up_col (by omega), up_col (by omega), up_col (by omega)]) ?_
  obtain ⟨⟨q0, q1, q2, q3, q4, q5, q6, q7, q8, q9, q10⟩, qb, qc, qd, qe, qf⟩ := hph
  simp [ig_ph, up_app, q0, q1, q2, q3, q4, q5, q6, q7, q8, q9, q10]
  simp [q0, q6, q7, q8, q10] at qd qe qf
  exact ⟨by simpa using qb, qd, qe.2, qf.2⟩
theorem w_letsA {k : Nat} (hph : ig_ph (a (3 + k)) b k) (d : Int32) (post : Int32 → Prop) : wp_X2_lets a la k (b 97 11) d post = post (cond (letsB b k d) 1 0) := by
  obtain ⟨⟨q0, q1, q2, q3, q4, q5, q6, q7, q8, q9, q10⟩, _⟩ := hph
  unfold wp_X2_lets letsB
  rw [q3, q9]
  by_cases c1 : b 103 k = 1 <;> by_cases c2 : b 104 k = -1 <;> by_cases c3 : b 97 11 - b 104 k < d <;> simp [c1, c2, c3]
theorem w_nbA (h : ig_Q np ns t w a la b lb) {p : Nat} (hp8 : p < 8) (post : Int32 → Prop) (hp : post (cond (nbB b np p) 0 1)) : wp_X0_mayBegin a la (nI p) post := by
  have hnp := Q_np h
  have e1 := Q_a1 h
  have e5 : a 23 6 = b 97 11 := by rw [h.1.2.2.2.2.2.1, h.1.2.2.2.2.2.2.1]
  have vp : vp_in (nI p) 8 := vp_in_nI hp8 (by omega)
  refine any_loop (fun n k => wp_X0_mayBegin_2 a la post n (nI p) (nI k)) (fun r => post (if r = 0 then 1 else 0)) (fun q => !decide (b 101 (8 * q + p) ≤ 0) && !letsB b q (b 101 (8 * q + p))) np ?_ ?_ ?_
  · intro n hp0
    exact ⟨fun _ => hp0, fun z => absurd (by rw [e1]; exact le_self np) z⟩
  · intro n k hk h1 h2
    have vk : vp_in (nI k) 8 := vp_in_nI (by omega) (by omega)
    refine ⟨fun z => absurd (by rw [e1] at z; exact z) (nle_of hk (by omega)), fun _ => ⟨vk, vp, ?_⟩⟩
    rw [nI_clamp (show k < 2 ^ 31 by omega), nI_clamp (show p < 2 ^ 31 by omega), (h.2.2.1 k p (by omega) hp8).1, e5, nI_1]
    refine ⟨fun c => h2 (by simp [c]), fun c => ⟨vk, ?_⟩⟩
    rw [w_letsA (h.2.1 k (by omega))]
    cases d : letsB b k (b 101 (8 * k + p))
    · exact ⟨fun z => absurd rfl z, fun _ => h1 (by simp [c, d])⟩
    · exact ⟨fun _ => h2 (by simp [d]), fun z => absurd z ne10⟩
  · unfold nbB at hp
    cases c : anyN (fun q => !decide (b 101 (8 * q + p) ≤ 0) && !letsB b q (b 101 (8 * q + p))) np <;> rw [c] at hp <;> exact hp
/-- what holds as the phases of the stage s turn green, one by one -/
def enI (np ns t w : Nat) (la lb : Int64) (b0 : ig_M) (s : ig_M × ig_M × Int32) : Prop := ig_Q np ns t w s.1 la s.2.1 lb ∧ s.2.1 97 = b0 97 ∧ s.2.1 102 = b0 102 ∧ (s.2.2 = 0 ∨ s.2.2 = 1)
theorem enI_step {b0 : ig_M} {s : ig_M × ig_M × Int32} (E : Int32) (h : enI np ns t w la lb b0 s) {k : Nat} (hk : k < 8) : enI np ns t w la lb b0 (enF E np k s) := by
  obtain ⟨h1, h2, h3, h4⟩ := h
  unfold enF
  by_cases c : hb E (nI k) = true ∧ ¬ s.2.1 103 k = 1
  · rw [if_pos c]
    by_cases d : nbB s.2.1 np k = true
    · rw [if_pos d]
      exact ⟨h1, h2, h3, Or.inl rfl⟩
    · rw [if_neg d]
      refine ⟨Q_tg h1 hk, ?_, ?_, h4⟩
      · show tgB k s.2.1 97 = _
        unfold tgB
        rw [up_row (by omega), up_row (by omega), up_row (by omega), up_row (by omega), up_row (by omega)]
        exact h2
      · show tgB k s.2.1 102 = _
        unfold tgB
        rw [up_row (by omega), up_row (by omega), up_row (by omega), up_row (by omega), up_row (by omega)]
        exact h3
  · rw [if_neg c]
    exact ⟨h1, h2, h3, h4⟩
theorem enI_fold {b0 : ig_M} {s : ig_M × ig_M × Int32} (E : Int32) (h : enI np ns t w la lb b0 s) : ∀ n, n ≤ 8 → enI np ns t w la lb b0 (foldN (enF E np) n s)
  | 0, _ => h
  | n + 1, hn => enI_step E (enI_fold E h n (by omega)) (by omega)
end ENTER
/-! ===== go: fading, watching ===== -/
def fdA (k : Nat) (a : ig_M) : ig_M := if a (3 + k) 3 = 2 ∧ ¬ (a 23 6 - a (3 + k) 9 < 3) then ig_up a (3 + k) 3 0 else a
def fdB (k : Nat) (b : ig_M) : ig_M := if b 103 k = 2 ∧ ¬ (b 97 11 - b 104 k < 3) then ig_up b 103 k 0 else b
def dgI (b : ig_M) (p q : Nat) : Bool := decide (b 103 p = 0) && (!decide (b 111 (3 * p) = 0) && (!decide (b 101 (8 * p + q) ≤ 0) && !decide (b 103 q = 0)))
def dgB (b : ig_M) (np : Nat) : Bool := anyN (fun p => anyN (fun q => dgI b p q) np) np
section WATCH
variable {np ns t w : Nat} {a : ig_M} {la : Int64} {b : ig_M} {lb lo : Int64}
theorem Q_fd (h : ig_Q np ns t w a la b lb) {k : Nat} (hk : k < 8) : ig_Q np ns t w (fdA k a) la (fdB k b) lb := by
  have hph := h.2.1 k hk
  obtain ⟨_, e1, e2, e3, e4, e5, e6, e7, _⟩ := h.1
  obtain ⟨⟨q0, q1, q2, q3, q4, q5, q6, q7, q8, q9, q10⟩, qb, qc, qd, qe, qf⟩ := hph
  unfold fdA fdB
  rw [q3, q9, e5, e6]
  by_cases c : b 103 k = 2 ∧ ¬ (nI t - b 104 k < 3)
  · rw [if_pos c, if_pos c]
    refine Q_phase h hk _ _ (fun i hi => up_row hi) (fun i j hij => up_col (by omega)) ?_
    simp [ig_ph, up_app, q0, q1, q2, q3, q4, q5, q6, q7, q8, q9, q10]
    simp [q0, q6, q7, q8, q10] at qd qe qf
    exact ⟨by simpa using qb, qd, qe, qf⟩
  · rw [if_neg c, if_neg c]
    exact h
theorem w_litA (h : ig_Q np ns t w a la b lb) {p : Nat} (hp8 : p < 8) (post : Int32 → Prop) (hp : post (cond (anyN (fun q => !decide (b 101 (8 * p + q) ≤ 0) && !decide (b 103 q = 0)) np) 1 0)) : wp_X0_isAgainstLit a la (nI p) post := by
  have hnp := Q_np h
  have e1 := Q_a1 h
  have vp : vp_in (nI p) 8 := vp_in_nI hp8 (by omega)
  refine any_loop (fun n k => wp_X0_isAgainstLit_2 a la post n (nI p) (nI k)) post _ np ?_ ?_ hp
  · intro n hp0
    exact ⟨fun _ => hp0, fun z => absurd (by rw [e1]; exact le_self np) z⟩
  · intro n k hk h1 h2
    have vk : vp_in (nI k) 8 := vp_in_nI (by omega) (by omega)
    refine ⟨fun z => absurd (by rw [e1] at z; exact z) (nle_of hk (by omega)), fun _ => ⟨vp, vk, ?_⟩⟩
    rw [nI_clamp (show k < 2 ^ 31 by omega), nI_clamp (show p < 2 ^ 31 by omega), (h.2.2.1 p k hp8 (by omega)).1, (h.2.1 k (by omega)).1.2.2.2.1, nI_1]
    refine ⟨fun c => ⟨fun _ => h2 (by simp [c]), fun z => absurd rfl z⟩, fun c => ⟨fun z => absurd z ne10, fun _ => ⟨vk, fun d => h2 (by simp [d]), fun d => h1 (by simp [c, d])⟩⟩⟩
theorem w_bool {x : Bool} {A B : Prop} (h1 : x = true → A) (h0 : x = false → B) : (cond x (1 : Int32) 0 = 1 → A) ∧ (cond x (1 : Int32) 0 = 0 → B) := by
  cases x
  · exact ⟨fun z => absurd z.symm ne10, fun _ => h0 rfl⟩
  · exact ⟨fun _ => h1 rfl, fun z => absurd z ne10⟩
theorem w_dgA (h : ig_Q np ns t w a la b lb) (post : ig_M → Int64 → Prop) (h1 : dgB b np = true → wp_X0_fallBack a la 3 post) (h0 : dgB b np = false → post a la) : ∃ j, wp_X0_watch_10 post j a la 0 := by
  have hnp := Q_np h
  have e1 := Q_a1 h
  have e : dgB b np = anyN (fun p => decide (b 103 p = 0) && (!decide (b 111 (3 * p) = 0) && anyN (fun q => !decide (b 101 (8 * p + q) ≤ 0) && !decide (b 103 q = 0)) np)) np := by
    refine anyN_congr (fun p hp => ?_)
    unfold dgI
    cases c : decide (b 103 p = 0)
    · rw [(anyN_f _ _).mpr (fun q _ => by simp)]; rfl
    · cases d : !decide (b 111 (3 * p) = 0)
      · rw [(anyN_f _ _).mpr (fun q _ => by simp)]; rfl
      · simp
  rw [e] at h1 h0
  refine any_loop (fun n k => wp_X0_watch_10 post n a la (nI k)) (fun r => (r = 1 → wp_X0_fallBack a la 3 post) ∧ (r = 0 → post a la)) (fun p => decide (b 103 p = 0) && (!decide (b 111 (3 * p) = 0) && anyN (fun q => !decide (b 101 (8 * p + q) ≤ 0) && !decide (b 103 q = 0)) np)) np ?_ ?_ (w_bool h1 h0)
  · intro n hp0
    exact ⟨fun _ => hp0.2 rfl, fun z => absurd (by rw [e1]; exact le_self np) z⟩
  · intro n k hk g1 g2
    have vk : vp_in (nI k) 8 := vp_in_nI (by omega) (by omega)
    have hph := h.2.1 k (by omega)
    have hb0 := hph.2.1 0 (by omega)
    rw [Nat.add_zero] at hb0
    refine ⟨fun z => absurd (by rw [e1] at z; exact z) (nle_of hk (by omega)), fun _ => ⟨vk, ?_⟩⟩
    rw [nI_clamp (by omega), hph.1.2.2.2.1, nI_1]
    refine ⟨fun c => g2 (by simp [c]), fun c => ?_⟩
    rw [w_isBroken]
    rw [show nI 0 = 0 from rfl] at hb0
    cases d : hb (a (3 + k) 11) 0
    · rw [d] at hb0
      exact ⟨fun _ => g2 (by simp [hb0]), fun z => absurd rfl z⟩
    · rw [d] at hb0
      refine ⟨fun z => absurd z ne10, fun _ => w_litA h (by omega) _ ?_⟩
      cases g : anyN (fun q => !decide (b 101 (8 * k + q) ≤ 0) && !decide (b 103 q = 0)) np
      · exact ⟨fun _ => g2 (by rw [g]; simp), fun z => absurd rfl z⟩
      · exact ⟨fun z => absurd z ne10, fun _ => (g1 (by rw [g]; simp [c, hb0])).1 rfl⟩
end WATCH
/-! ===== go: writing the log ===== -/
theorem bt_nI (n : Nat) {j : Nat} (hj : j < 32) : bt (nI n) j = n.testBit j := by
  unfold bt
  show (BitVec.ofNat 32 n).getLsbD j = _
  rw [BitVec.getLsbD_ofNat]
  simp [hj]
/-- what the phase p shows, as a number -/
def wrD (b : ig_M) (np p : Nat) : Nat := if p < np ∧ (b 97 9 = 1 ∨ b 97 9 = 2) ∧ b 111 (3 * p + (b 103 p).toNatClampNeg) = 0 then (b 103 p).toNatClampNeg else 3
def mmR (d : Nat → Nat) : Nat → Nat
  | 0 => 0
  | r + 1 => 4 * mmR d r + d (7 - r)
theorem mmR_lt {d : Nat → Nat} (h : ∀ p, d p < 4) : ∀ r, mmR d r < 4 ^ r
  | 0 => by show 0 < 4 ^ 0; decide
  | r + 1 => by
    have h1 := mmR_lt h r
    have h2 := h (7 - r)
    have h3 : 4 ^ (r + 1) = 4 * 4 ^ r := by rw [Nat.pow_succ, Nat.mul_comm]
    show 4 * mmR d r + d (7 - r) < 4 ^ (r + 1)
    omega
theorem mmR_bt {d : Nat → Nat} (h : ∀ p, d p < 4) : ∀ r, r ≤ 8 → ∀ j, (mmR d r).testBit j = if j / 2 < r then (d (8 - r + j / 2)).testBit (j % 2) else false
  | 0, _, j => by simp [mmR]
  | r + 1, hr, j => by
    have ih := mmR_bt h r (by omega)
    show (2 ^ 2 * mmR d r + d (7 - r)).testBit j = _
    rw [Nat.testBit_two_pow_mul_add _ (h (7 - r))]
    by_cases c : j < 2
    · rw [if_pos c, show j / 2 = 0 by omega, if_pos (by omega), show j % 2 = j by omega, show 8 - (r + 1) + 0 = 7 - r by omega]
    · rw [if_neg c, ih, show (j - 2) / 2 = j / 2 - 1 by omega, show (j - 2) % 2 = j % 2 by omega]
      by_cases e : j / 2 < r + 1
      · rw [if_pos e, if_pos (by omega), show 8 - r + (j / 2 - 1) = 8 - (r + 1) + j / 2 by omega]
      · rw [if_neg e, if_neg (by omega)]
def wvF (d : Nat → Nat) (k : Nat) (v : Int32) : Int32 := (v &&& ((3 <<< (nI (2 * k) &&& 31)) ^^^ (-1))) ||| (nI (d k) <<< (nI (2 * k) &&& 31))
theorem wv_bt {d : Nat → Nat} (h : ∀ p, d p < 4) : ∀ k, k ≤ 8 → ∀ j, j < 32 → bt (foldN (wvF d) k 65535) j = if j < 16 then (if j / 2 < k then (d (j / 2)).testBit (j % 2) else true) else false
  | 0, _, j, hj => by
    show bt 65535 j = _
    rw [b_65535]
    by_cases c : j < 16 <;> simp [c]
  | k + 1, hk, j, hj => by
    have ih := wv_bt h k (by omega) j hj
    show bt (wvF d k (foldN (wvF d) k 65535)) j = _
    generalize foldN (wvF d) k 65535 = v at ih ⊢
    unfold wvF
    rw [b_or, b_and, ih, b_xor, b_m1 j hj, b_shl (2 * k) (by omega) _ hj, b_shl (2 * k) (by omega) _ hj, b_3, bt_nI _ (show j - 2 * k < 32 by omega)]
    by_cases c : j < 2 * k
    · rw [decide_eq_false (by omega : ¬ 2 * k ≤ j)]
      by_cases e : j < 16
      · simp [e, show j / 2 < k by omega, show j / 2 < k + 1 by omega]
      · omega
    · rw [decide_eq_true (by omega : 2 * k ≤ j)]
      by_cases e : j < 2 * k + 2
      · rw [decide_eq_true (by omega : j - 2 * k < 2), if_pos (by omega), if_pos (by omega : j < 16), if_pos (by omega : j / 2 < k + 1), show j / 2 = k by omega, show j - 2 * k = j % 2 by omega]
        simp
      · rw [decide_eq_false (by omega : ¬ j - 2 * k < 2)]
        have p4 : 2 ^ 2 ≤ 2 ^ (j - 2 * k) := Nat.pow_le_pow_right (by omega) (by omega)
        have f : (d k).testBit (j - 2 * k) = false := Nat.testBit_lt_two_pow (Nat.lt_of_lt_of_le (h k) p4)
        rw [f]
        by_cases g : j < 16
        · simp [g, show ¬ j / 2 < k by omega, show ¬ j / 2 < k + 1 by omega]
        · simp [g]
theorem wr_eq {d : Nat → Nat} (h : ∀ p, d p < 4) {np : Nat} (hnp : np ≤ 8) (h3 : ∀ p, np ≤ p → d p = 3) : foldN (wvF d) np 65535 = nI (mmR d 8) := by
  apply b_ext
  intro j hj
  rw [wv_bt h np hnp j hj, bt_nI _ hj, mmR_bt h 8 (by omega)]
  by_cases c : j < 16
  · by_cases e : j / 2 < np
    · rw [if_pos c, if_pos e, if_pos (show j / 2 < 8 by omega), show 8 - 8 + j / 2 = j / 2 by omega]
    · rw [if_pos c, if_neg e, if_pos (show j / 2 < 8 by omega), h3 _ (by omega)]
      rcases (show j % 2 = 0 ∨ j % 2 = 1 by omega) with f | f <;> rw [f] <;> decide
  · rw [if_neg c, if_neg (by omega)]
theorem up_up (a : ig_M) (i j : Nat) (u v : Int32) : ig_up (ig_up a i j u) i j v = ig_up a i j v := by
  funext x y
  simp only [up_app]
  by_cases h : x = i <;> by_cases h2 : y = j <;> simp [h, h2]
section WRITE
variable {np ns t w : Nat} {a : ig_M} {la : Int64} {b : ig_M} {lb lo : Int64}
theorem col_of (h : ig_Q np ns t w a la b lb) {p : Nat} (hp : p < 8) : ∃ c, c < 3 ∧ b 103 p = nI c := by
  have hph := h.2.1 p hp
  have := hph.2.2.1
  rw [hph.1.2.2.2.1] at this
  rcases this with z | z | z
  · exact ⟨0, by omega, z⟩
  · exact ⟨1, by omega, z⟩
  · exact ⟨2, by omega, z⟩
theorem wrD_lt (h : ig_Q np ns t w a la b lb) (p : Nat) : wrD b np p < 4 := by
  unfold wrD
  split
  · rename_i z
    obtain ⟨c, hc, e⟩ := col_of h (p := p) (by have := Q_np h; omega)
    rw [e, nI_clamp (by omega)]
    omega
  · omega
end WRITE
/-! ===== go: vehicles, waits, the second's end ===== -/
def mvA (k : Nat) (a : ig_M) : ig_M :=
  if a (3 + k) 3 = 1 then
    (if a (3 + k) 6 = 0 then ig_up (ig_up (ig_up a (3 + k) 4 (a (3 + k) 4 + 1)) (3 + k) 5 (if a (3 + k) 5 ≤ 0 then a (3 + k) 5 else a (3 + k) 5 - 1)) 23 7 (a 23 7 + 0)
     else ig_up (ig_up (ig_up (ig_up (ig_up a (3 + k) 4 (a (3 + k) 4 + 1)) (3 + k) 5 (if a (3 + k) 5 ≤ 0 then a (3 + k) 5 else a (3 + k) 5 - 1)) (3 + k) 6 (a (3 + k) 6 - 1)) (3 + k) 5 (a (3 + k) 2)) 23 7 (a 23 7 + 1))
  else
    (if (a (3 + k) 10 = 0 ∧ a (3 + k) 6 ≤ 0) then ig_up a 23 7 (a 23 7 + 0)
     else ig_up (ig_up (ig_up a (3 + k) 7 (a (3 + k) 7 + 1)) (3 + k) 8 (if a (3 + k) 8 < a (3 + k) 7 + 1 then a (3 + k) 7 + 1 else a (3 + k) 8)) 23 7 (a 23 7 + 0))
def mvB (k : Nat) (b : ig_M) : ig_M :=
  if b 103 k = 1 then
    (if b 107 k ≤ 0 then ig_up (ig_up (ig_up (ig_up (ig_up b 105 k (b 105 k + 1)) 106 k (b 106 k - (if b 106 k ≤ 0 then 0 else 1))) 106 k (b 106 k - (if b 106 k ≤ 0 then 0 else 1))) 97 22 (b 97 22 + 0)) 107 k (b 107 k - 0)
     else ig_up (ig_up (ig_up (ig_up (ig_up b 105 k (b 105 k + 1)) 106 k (b 106 k - (if b 106 k ≤ 0 then 0 else 1))) 106 k (b 100 k)) 97 22 (b 97 22 + 1)) 107 k (b 107 k - 1))
  else
    (if dmB b k = true then ig_up (ig_up b 108 k (b 108 k + 1)) 109 k (if b 108 k + 1 ≤ b 109 k then b 109 k else b 108 k + 1)
     else ig_up (ig_up b 108 k (b 108 k + 0)) 109 k (if b 108 k + 0 ≤ b 109 k then b 109 k else b 108 k + 0))
section MOVE
variable {np ns t w : Nat} {a : ig_M} {la : Int64} {b : ig_M} {lb lo : Int64}
theorem Q_move (h : ig_Q np ns t w a la b lb) {p : Nat} (hp : p < 8) (a' b' : ig_M) (ha : ∀ i j, ¬ (i = 3 + p ∨ (i = 23 ∧ j = 7)) → a' i j = a i j)
    (hb : ∀ i j, ¬ (((98 ≤ i ∧ i ≤ 100 ∨ 103 ≤ i ∧ i ≤ 110) ∧ j = p) ∨ (i = 97 ∧ j = 22)) → b' i j = b i j) (hg : a' 23 7 = b' 97 22) (hph : ig_ph (a' (3 + p)) b' p) : ig_Q np ns t w a' la b' lb := by
  obtain ⟨h1, h2, h3, h4, h5, h6⟩ := h
  refine ⟨?_, ?_, ?_, ?_, ?_, ?_⟩
  · unfold ig_R1
    rw [ha 1 1 (by omega), ha 1 4 (by omega), ha 23 6 (by omega), hb 97 2 (by omega), hb 97 7 (by omega), hb 97 11 (by omega)]
    obtain ⟨q1, q2, q3, q4, q5, q6, q7, q8, q9⟩ := h1
    exact ⟨q1, q2, q3, q4, q5, q6, q7, hg, q9⟩
  · intro q hq
    by_cases hpq : q = p
    · subst hpq; exact hph
    · have h0 := h2 q hq
      unfold ig_ph at *
      rw [ha (3 + q) 0 (by omega), ha (3 + q) 1 (by omega), ha (3 + q) 2 (by omega), ha (3 + q) 3 (by omega), ha (3 + q) 4 (by omega), ha (3 + q) 5 (by omega), ha (3 + q) 6 (by omega), ha (3 + q) 7 (by omega), ha (3 + q) 8 (by omega), ha (3 + q) 9 (by omega), ha (3 + q) 10 (by omega), ha (3 + q) 11 (by omega)]
      rw [hb 98 q (by omega), hb 99 q (by omega), hb 100 q (by omega), hb 103 q (by omega), hb 104 q (by omega), hb 105 q (by omega), hb 106 q (by omega), hb 107 q (by omega), hb 108 q (by omega), hb 109 q (by omega), hb 110 q (by omega)]
      refine ⟨h0.1, fun c hc => ?_, h0.2.2⟩
      rw [hb 111 _ (by omega)]
      exact h0.2.1 c hc
  · intro u v hu hv
    rw [ha (12 + u) _ (by omega), hb 101 _ (by omega)]
    exact h3 u v hu hv
  · intro s hs
    rw [ha 20 _ (by omega), hb 102 _ (by omega)]
    exact h4 s hs
  · unfold ig_R5 ig_wk
    rw [ha 23 2 (by omega), ha 23 3 (by omega), ha 23 4 (by omega), ha 23 5 (by omega), hb 97 9 (by omega), hb 97 1 (by omega), hb 97 21 (by omega), hb 97 10 (by omega)]
    exact h5
  · intro u hu
    rw [ha 22 _ (by omega), hb 112 _ (by omega)]
    exact h6 u hu
theorem i_sub0 (x : Int32) : x - 0 = x := by
  rw [Int32.sub_zero]
theorem i_add0 (x : Int32) : x + 0 = x := by
  rw [Int32.add_zero]
theorem mvB_off (b : ig_M) (k i j : Nat) (h : ¬ (((98 ≤ i ∧ i ≤ 100 ∨ 103 ≤ i ∧ i ≤ 110) ∧ j = k) ∨ (i = 97 ∧ j = 22))) : mvB k b i j = b i j := by
  unfold mvB
  repeat' split
  all_goals (repeat rw [up_col (by omega)])
theorem mvA_off (a : ig_M) (k i j : Nat) (h : ¬ (i = 3 + k ∨ (i = 23 ∧ j = 7))) : mvA k a i j = a i j := by
  unfold mvA
  repeat' split
  all_goals (repeat rw [up_col (by omega)])
theorem Q_mv (h : ig_Q np ns t w a la b lb) {k : Nat} (hk : k < 8) : ig_Q np ns t w (mvA k a) la (mvB k b) lb := by
  have hph := h.2.1 k hk
  obtain ⟨_, e1, e2, e3, e4, e5, e6, e7, _⟩ := h.1
  obtain ⟨⟨q0, q1, q2, q3, q4, q5, q6, q7, q8, q9, q10⟩, qb, qc, qd, qe, qf, qg⟩ := hph
  rw [q0] at qg
  have n23 : ¬ 23 = 3 + k := by omega
  refine Q_move h hk _ _ (fun i j => mvA_off a k i j) (fun i j => mvB_off b k i j) ?_ ?_
  · unfold mvA mvB
    rw [q3, q6, q10, e7]
    rw [q6] at qd
    have z0 : b 107 k ≤ 0 ↔ b 107 k = 0 := ⟨fun z => Int32.le_antisymm z qd.1, fun z => by rw [z]; exact Int32.le_refl _⟩
    by_cases c : b 103 k = 1
    · rw [if_pos c, if_pos c]
      by_cases d : b 107 k = 0
      · rw [if_pos d, if_pos (z0.mpr d)]; simp [up_app]
      · rw [if_neg d, if_neg (fun y => d (z0.mp y))]; simp [up_app]
    · rw [if_neg c, if_neg c]
      by_cases d : b 110 k = 0 ∧ b 107 k ≤ 0
      · rw [if_pos d]; by_cases m : dmB b k = true <;> simp [m, up_app, e7]
      · rw [if_neg d]; by_cases m : dmB b k = true <;> simp [m, up_app, e7]
  · unfold mvA mvB
    have rr : b 106 k - (if b 106 k ≤ 0 then 0 else 1) = if b 106 k ≤ 0 then b 106 k else b 106 k - 1 := by
      split
      · exact i_sub0 _
      · rfl
    rw [rr, q3, q6, q10, q4, q5, q7, q8, q2]
    have qc' := qc
    have qd' := qd
    have qe' := qe
    have qf' := qf
    rw [q3] at qc'
    rw [q6] at qd'
    rw [q7, q8] at qe'
    rw [q10] at qf'
    have z0 : b 107 k ≤ 0 ↔ b 107 k = 0 := ⟨fun z => Int32.le_antisymm z qd'.1, fun z => by rw [z]; exact Int32.le_refl _⟩
    by_cases c : b 103 k = 1
    · rw [if_pos c, if_pos c]
      by_cases d : b 107 k = 0
      · rw [if_pos d, if_pos (z0.mpr d)]
        simp [ig_ph, up_app, show ¬ 3 + k = 23 by omega, q0, q1, q2, q3, q4, q5, q6, q7, q8, q9, q10, qc', qd', qe', qf']
        exact ⟨by simpa using qb, qg⟩
      · rw [if_neg d, if_neg (fun y => d (z0.mp y))]
        obtain ⟨n, n1, n2, n3⟩ : ∃ n : Nat, 0 ≤ n ∧ n ≤ 1000 ∧ b 107 k = nI n := iw_le (m := 0) (n := 1000) (by omega) (by omega) (by
          unfold iw
          simp only [Bool.and_eq_true, Bool.not_eq_true', decide_eq_false_iff_not]
          exact ⟨fun z => (i_le.mpr z) qd'.1, fun z => (i_le.mpr z) qd'.2⟩)
        have n0 : ¬ n = 0 := fun z => d (by rw [n3, z]; rfl)
        have n4 : b 107 k - 1 = nI (n - 1) := by rw [n3]; exact pk_sub (a := n) (b := 1) (by omega)
        have n5 : (0 : Int32) ≤ b 107 k - 1 := by rw [n4]; exact nI_pos' (by omega)
        have n6 : b 107 k - 1 ≤ 1000 := by rw [n4]; exact nI_le (a := n - 1) (b := 1000) (by omega) (by omega)
        simp [ig_ph, up_app, show ¬ 3 + k = 23 by omega, q0, q1, q2, q3, q4, q5, q6, q7, q8, q9, q10, qc', qe', qf', n5, n6]
        exact ⟨by simpa using qb, qg⟩
    · rw [if_neg c, if_neg c]
      unfold dmB
      by_cases d : b 110 k = 0 ∧ b 107 k ≤ 0
      · rw [if_pos d]
        have m : (if b 108 k + 0 ≤ b 109 k then b 109 k else b 108 k + 0) = b 109 k := by rw [i_add0, if_pos qe'.1]
        rw [m]
        simp [c, d.1, d.2, ig_ph, up_app, show ¬ 3 + k = 23 by omega, q0, q1, q2, q3, q4, q5, q6, q7, q8, q9, q10, qc', qd', qe', qf']
        exact ⟨by simpa using qb, by simpa [c] using qc', qg⟩
      · rw [if_neg d]
        have d2 : (!decide (b 103 k = 1) && (!decide (b 110 k = 0) || !decide (b 107 k ≤ 0))) = true := by
          rw [decide_eq_false c]
          by_cases d3 : b 110 k = 0
          · rw [decide_eq_false (fun z => d ⟨d3, z⟩ : ¬ b 107 k ≤ 0)]; simp
          · simp [d3]
        rw [if_pos d2, mxI_if]
        have m1 : b 108 k + 1 ≤ mxI (b 109 k) (b 108 k + 1) := by
          rw [Int32.le_iff_toInt_le, mxI_t]; split <;> omega
        have m2 : 0 ≤ mxI (b 109 k) (b 108 k + 1) := mxI_pos qe'.2
        have m3 : (if b 109 k < b 108 k + 1 then b 108 k + 1 else b 109 k) = mxI (b 109 k) (b 108 k + 1) := rfl
        rw [m3]
        simp [c, ig_ph, up_app, show ¬ 3 + k = 23 by omega, q0, q1, q2, q3, q4, q5, q6, q7, q8, q9, q10, qc', qd', qf', m1, m2]
        exact ⟨by simpa using qb, by simpa [c] using qc', qg⟩
theorem w_mvA (x : ig_M) (la : Int64) (k : Nat) (K : ig_M → Int64 → Prop) (h : K (mvA k x) la) : wp_X2_passSecond x la k (fun r3 a4 la5 => (∀ a6 : ig_M, a6 = ig_up a4 23 7 ((x 23 7) + r3) → K a6 la5)) := by
  have n23 : ¬ 3 + k = 23 ∨ True := Or.inr trivial
  unfold wp_X2_passSecond wp_X2_passSecond_35 wp_X2_letOneGo wp_X2_isDemanded
  unfold mvA at h
  refine ⟨fun c => ⟨fun z => absurd z c, fun _ => ?_⟩, fun c a6 u6 => ?_⟩
  · rw [if_neg c] at h
    have up : ¬ (x (3 + k) 10 = 0 ∧ x (3 + k) 6 ≤ 0) → ((1 : Int32) = 0 → (∀ a6 : ig_M, a6 = ig_up x 23 7 ((x 23 7) + 0) → K a6 la)) ∧ (¬ (1 : Int32) = 0 → (∀ a4 : ig_M, a4 = ig_up x (3 + k) 7 ((x (3 + k) 7) + 1) → (∀ a5 : ig_M, a5 = ig_up a4 (3 + k) 8 (if (a4 (3 + k) 8) < (a4 (3 + k) 7) then (a4 (3 + k) 7) else (a4 (3 + k) 8)) → (∀ a6 : ig_M, a6 = ig_up a5 23 7 ((x 23 7) + 0) → K a6 la)))) := by
      intro d
      rw [if_neg d] at h
      refine ⟨fun z => absurd z ne10, fun _ a4 u4 a5 u5 a6 u6 => ?_⟩
      rw [u6, u5, u4]
      have m7 : ig_up x (3 + k) 7 (x (3 + k) 7 + 1) (3 + k) 7 = x (3 + k) 7 + 1 := by simp [up_app]
      have m8 : ig_up x (3 + k) 7 (x (3 + k) 7 + 1) (3 + k) 8 = x (3 + k) 8 := by simp [up_app]
      rw [m7, m8]
      exact h
    refine ⟨fun d => up (fun z => d z.1), fun d => ⟨fun e => ⟨fun _ a6 u6 => ?_, fun z => absurd rfl z⟩, fun e => up (fun z => e z.2)⟩⟩
    rw [if_pos ⟨d, e⟩] at h
    rw [u6]
    exact h
  · rw [if_pos c] at h
    have m5 : a6 (3 + k) 5 = x (3 + k) 5 := by rw [u6]; simp [up_app]
    have m6 : a6 (3 + k) 6 = x (3 + k) 6 := by rw [u6]; simp [up_app]
    have m2 : a6 (3 + k) 2 = x (3 + k) 2 := by rw [u6]; simp [up_app]
    have fin : ∀ y : ig_M, y = ig_up a6 (3 + k) 5 (if x (3 + k) 5 ≤ 0 then x (3 + k) 5 else x (3 + k) 5 - 1) → (¬ y (3 + k) 6 = 0 → ∀ a2 : ig_M, a2 = ig_up y (3 + k) 6 (y (3 + k) 6 - 1) → ∀ a3 : ig_M, a3 = ig_up a2 (3 + k) 5 (a2 (3 + k) 2) → ∀ a6 : ig_M, a6 = ig_up a3 23 7 ((x 23 7) + 1) → K a6 la) ∧ (y (3 + k) 6 = 0 → ∀ a6 : ig_M, a6 = ig_up y 23 7 ((x 23 7) + 0) → K a6 la) := by
      intro y hy
      have y6 : y (3 + k) 6 = x (3 + k) 6 := by rw [hy, ← m6]; simp [up_app]
      have y2 : y (3 + k) 2 = x (3 + k) 2 := by rw [hy, ← m2]; simp [up_app]
      rw [y6]
      refine ⟨fun d a2 v2 a3 v3 a7 v7 => ?_, fun d a7 v7 => ?_⟩
      · rw [if_neg d] at h
        have z2 : a2 (3 + k) 2 = x (3 + k) 2 := by rw [v2, ← y2]; simp [up_app]
        rw [v7, v3, z2, v2, hy, u6]
        exact h
      · rw [if_pos d] at h
        rw [v7, hy, u6]
        exact h
    rw [m5]
    refine ⟨fun d => fin a6 ?_, fun d a8 u8 => fin a8 ?_⟩
    · rw [if_pos d, ← m5, up_self]
    · rw [if_neg d, u8]
end MOVE
/-! ===== go ===== -/
def sumA (r : Nat → Int32) (k : Nat) (l : Int64) : Int64 := l + (r k).toInt64
theorem sum_congr {r s : Nat → Int32} (l : Int64) (n : Nat) (h : ∀ k, k < n → r k = s k) : foldN (sumA r) n l = foldN (sumA s) n l :=
  foldN_congr (fun k hk v => by unfold sumA; rw [h k hk])
section GO
variable {np ns t w : Nat} {a : ig_M} {la : Int64} {b : ig_M} {lb lo : Int64}
end GO
