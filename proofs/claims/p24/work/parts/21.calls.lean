/-! ===== out of the rows of whole: what the class does, call by call ===== -/
/-! ===== the calls without a loop, and stop ===== -/
def dmB (b : ig_M) (p : Nat) : Bool := !decide (b 103 p = 1) && (!decide (b 110 p = 0) || !decide (b 107 p ≤ 0))
theorem w_dmA {a b : ig_M} {p : Nat} (h : ig_ph (a (3 + p)) b p) (la : Int64) (post : Int32 → Prop) : wp_X2_isDemanded a la p post = post (cond (dmB b p) 1 0) := by
  unfold wp_X2_isDemanded dmB
  obtain ⟨⟨_, _, _, h3, _, _, h6, _, _, _, h10⟩, _⟩ := h
  rw [h3, h6, h10]
  by_cases c1 : b 103 p = 1 <;> by_cases c2 : b 110 p = 0 <;> by_cases c3 : b 107 p ≤ 0 <;> simp [c1, c2, c3]
section SIMPLE
variable {np ns t : Nat} {a : ig_M} {la : Int64} {b : ig_M} {lb lo : Int64}
end SIMPLE
section MORE
variable {np ns t : Nat} {a : ig_M} {la : Int64} {b : ig_M} {lb lo : Int64}
theorem i_le {x y : Int32} : ¬ x ≤ y ↔ y < x := by
  rw [Int32.le_iff_toInt_le, Int32.lt_iff_toInt_lt]; omega
theorem iw_col {x : Int32} (h : iw x 0 2 = true) : ∃ c : Nat, c < 3 ∧ x = nI c := by
  obtain ⟨k, _, h2, h3⟩ := iw_le (m := 0) (n := 2) (by omega) (by omega) h
  exact ⟨k, by omega, h3⟩
theorem idx3 (p c : Nat) : 3 * nI p + nI c = nI (3 * p + c) := by
  show nI 3 * nI p + nI c = _
  rw [pk_mul, nI_add]
theorem set_bt (x : Int32) {c d : Nat} (hc : c < 3) (hd : d < 3) : hb (x ||| (1 <<< (nI c &&& 31))) (nI d) = (hb x (nI d) || decide (d = c)) := by
  rw [hb_bt _ (by omega), hb_bt _ (by omega), b_or, b_shl c (by omega) _ (by omega), b_1]
  congr 1
  rw [← Bool.decide_and, decide_eq_decide]; omega
theorem clr_bt (x : Int32) {c d : Nat} (hc : c < 3) (hd : d < 3) : hb (x &&& ((1 <<< (nI c &&& 31)) ^^^ (-1))) (nI d) = (hb x (nI d) && !decide (d = c)) := by
  rw [hb_bt _ (by omega), hb_bt _ (by omega), b_and, b_xor, b_shl c (by omega) _ (by omega), b_1, b_m1 d (by omega), Bool.xor_true]
  congr 2
  rw [← Bool.decide_and, decide_eq_decide]; omega
end MORE
/-! ===== delayEach: two doubles that are alike ===== -/
theorem nan64 (x : UInt64) : isNaN64 x = true ↔ FP.Core.dIsNaN x = true := by
  rw [isNaN64_iff, FP.Core.isNaN_bits, show (0x7fffffffffffffff : Nat) = 2 ^ 63 - 1 from rfl, Nat.and_two_pow_sub_one_eq_mod]
theorem nan32 (x : UInt32) : isNaN32 x = true ↔ FP.Core.fIsNaN x = true := by
  rw [isNaN32_iff, FP.Core.isNaN_bits32, show (0x7fffffff : Nat) = 2 ^ 31 - 1 from rfl, Nat.and_two_pow_sub_one_eq_mod]
/-! ===== stop; falling back ===== -/
theorem up_col {b : ig_M} {i j : Nat} {v : Int32} {x y : Nat} (h : ¬ (x = i ∧ y = j)) : ig_up b i j v x y = b x y := by
  rw [up_app]
  split
  · split
    · exact absurd ⟨‹x = i›, ‹y = j›⟩ h
    · rw [‹x = i›]
  · rfl
def redA (k : Nat) (a : ig_M) : ig_M := ig_up (if a (3 + k) 3 = 1 then ig_up a (3 + k) 9 (a 23 6) else a) (3 + k) 3 0
def redB (k : Nat) (b : ig_M) : ig_M := ig_up (ig_up b 104 k (if b 103 k = 1 then b 97 11 else b 104 k)) 103 k 0
theorem Q_red {np ns t w : Nat} {a : ig_M} {la : Int64} {b : ig_M} {lb : Int64} (h : ig_Q np ns t w a la b lb) {k : Nat} (hk : k < 8) : ig_Q np ns t w (redA k a) la (redB k b) lb := by
  have hph := h.2.1 k hk
  obtain ⟨_, e1, e2, e3, e4, e5, e6, e7, _⟩ := h.1
  refine Q_phase h hk _ _ (fun i hi => ?_) (fun i j hij => ?_) ?_
  · unfold redA
    rw [up_row hi]
    split
    · rw [up_row hi]
    · rfl
  · unfold redB
    rw [up_col (by omega), up_col (by omega)]
  · obtain ⟨⟨q0, q1, q2, q3, q4, q5, q6, q7, q8, q9, q10⟩, qb, qc, qd, qe, qf⟩ := hph
    unfold redA redB
    by_cases c : b 103 k = 1
    · have c' : a (3 + k) 3 = 1 := by rw [q3]; exact c
      rw [if_pos c', if_pos c]
      simp [ig_ph, up_app, q0, q1, q2, q3, q4, q5, q6, q7, q8, q9, q10, e5, e6]
      simp [q0, q6, q7, q8, q10] at qd qe qf
      exact ⟨by simpa using qb, qd, qe, qf⟩
    · have c' : ¬ a (3 + k) 3 = 1 := by rw [q3]; exact c
      rw [if_neg c', if_neg c]
      simp [ig_ph, up_app, q0, q1, q2, q3, q4, q5, q6, q7, q8, q9, q10]
      simp [q0, q6, q7, q8, q10] at qd qe qf
      exact ⟨by simpa using qb, qd, qe, qf⟩
theorem Q_fold {np ns t w : Nat} {a : ig_M} {la : Int64} {b : ig_M} {lb : Int64} {F G : Nat → ig_M → ig_M} (h : ig_Q np ns t w a la b lb) (hs : ∀ k x y, k < np → ig_Q np ns t w x la y lb → ig_Q np ns t w (F k x) la (G k y) lb) : ∀ n, n ≤ np → ig_Q np ns t w (foldN F n a) la (foldN G n b) lb
  | 0, _ => h
  | n + 1, hn => hs n _ _ (by omega) (Q_fold h hs n (by omega))
section STOP
variable {np ns t w : Nat} {a : ig_M} {la : Int64} {b : ig_M} {lb lo : Int64}
theorem Q_np (h : ig_Q np ns t w a la b lb) : np ≤ 8 := h.1.1.1
theorem Q_a1 (h : ig_Q np ns t w a la b lb) : a 1 1 = nI np := h.1.2.1
theorem Q_b2 (h : ig_Q np ns t w a la b lb) : b 97 2 = nI np := h.1.2.2.1
theorem w_fallA (h : ig_Q np ns t w a la b lb) (post : ig_M → Int64 → Prop) (hp : post (foldN redA np a) la) : ∃ j, wp_X0_fallBack_12 post j a la 0 := by
  have hQ := Q_fold h (fun k x y hk hq => Q_red hq (by have := Q_np h; omega)) (F := redA) (G := redB)
  have hnp := Q_np h
  refine fold_loop (fun n k s => wp_X0_fallBack_12 post n s la (nI k)) redA np a ?_ ?_
  · intro n
    exact ⟨fun _ => hp, fun z => absurd (by rw [Q_a1 (hQ np (Nat.le_refl _))]; exact le_self np) z⟩
  · intro n k hk ih
    refine ⟨fun z => absurd (by rw [Q_a1 (hQ k (by omega))] at z; exact z) (nle_of hk (by omega)), fun _ => ⟨vp_in_nI (by omega) (by omega), ?_⟩⟩
    rw [nI_clamp (by omega), nI_1]
    generalize foldN redA k a = x at ih ⊢
    refine ⟨fun c a3 e => ?_, fun c a2 e2 a3 e => ?_⟩
    · rw [e]; unfold redA at ih; rw [if_neg c] at ih; exact ih
    · rw [e, e2]; unfold redA at ih; rw [if_pos c] at ih; exact ih
theorem Q_back (h : ig_Q np ns t w a la b lb) {m : Int32} (hm : m = 0 ∨ m = 3) : ig_Q np ns t w (ig_up (ig_up a 23 2 m) 23 3 (-1)) la (ig_up b 97 9 m) lb := by
  obtain ⟨⟨hnp, hns, ht⟩, e1, e2, e3, e4, e5, e6, e7, e8⟩ := h.1
  obtain ⟨f1, f2, f3, f4, f5, f6, ⟨s, hs, f7, f8⟩, f9⟩ := h.2.2.2.2.1
  refine Q_lights h _ _ (fun i hi => by simp [up_row hi]) (fun i hi => by simp [up_row hi]) ?_ ?_
  · simp [ig_R1, up_app, hnp, hns, ht, e1, e2, e3, e4, e5, e6, e7, e8]
  · have nw : ¬ (m = 1 ∨ m = 2) := by rcases hm with rfl | rfl <;> decide
    unfold ig_R5 ig_wk
    simp only [up_app]
    refine ⟨by simp, by simpa using f2, by simpa using f3, ?_, by simpa using f5, by simpa using f6, ⟨s, hs, by simpa using f7, fun z => absurd (by simpa using z) nw⟩, fun _ => by simp⟩
    rcases hm with rfl | rfl <;> simp
end STOP
/-! ===== stage and change ===== -/
def mxI (u v : Int32) : Int32 := if u < v then v else u
def mbF (x : Int32) (r : Nat → Int32) (k : Nat) (v : Int32) : Int32 := if hb x (nI k) = true then mxI v (r k) else v
def mbv (x : Int32) (r : Nat → Int32) (n : Nat) : Int32 := foldN (mbF x r) n 0
theorem mxI_t (u v : Int32) : (mxI u v).toInt = if u.toInt < v.toInt then v.toInt else u.toInt := by
  unfold mxI
  by_cases h : u < v
  · rw [if_pos h, if_pos (Int32.lt_iff_toInt_lt.mp h)]
  · rw [if_neg h, if_neg (fun z => h (Int32.lt_iff_toInt_lt.mpr z))]
theorem foldN_congr {σ : Type} {F G : Nat → σ → σ} {n : Nat} {s : σ} (h : ∀ k, k < n → ∀ v, F k v = G k v) : foldN F n s = foldN G n s := by
  induction n with
  | zero => rfl
  | succ n ih =>
    show F n (foldN F n s) = G n (foldN G n s)
    rw [ih (fun k hk => h k (Nat.lt_succ_of_lt hk)), h n (Nat.lt_succ_self n)]
theorem mbv_congr {x : Int32} {r s : Nat → Int32} {n : Nat} (h : ∀ q, q < n → r q = s q) : mbv x r n = mbv x s n := by
  exact foldN_congr (fun k hk v => by unfold mbF; rw [h k hk])
theorem mbv_le {x : Int32} {r : Nat → Int32} {n : Nat} : mbv x r n ≤ 0 ↔ ∀ q, q < n → hb x (nI q) = true → r q ≤ 0 := by
  induction n with
  | zero => exact ⟨fun _ q hq => absurd hq (Nat.not_lt_zero q), fun _ => Int32.le_refl _⟩
  | succ n ih =>
    have e : mbv x r (n + 1) = mbF x r n (mbv x r n) := rfl
    rw [e]
    unfold mbF
    have t0 : (0 : Int32).toInt = 0 := by decide
    by_cases c : hb x (nI n) = true
    · rw [if_pos c]
      have m := mxI_t (mbv x r n) (r n)
      have key : mxI (mbv x r n) (r n) ≤ 0 ↔ mbv x r n ≤ 0 ∧ r n ≤ 0 := by
        simp only [Int32.le_iff_toInt_le]
        rw [m]
        split <;> omega
      rw [key, ih]
      constructor
      · rintro ⟨h1, h2⟩ q hq hx
        rcases Nat.lt_succ_iff_lt_or_eq.mp hq with z | rfl
        · exact h1 q z hx
        · exact h2
      · intro h
        exact ⟨fun q hq => h q (by omega), h n (by omega) c⟩
    · rw [if_neg c, ih]
      constructor
      · intro h1 q hq hx
        rcases Nat.lt_succ_iff_lt_or_eq.mp hq with z | rfl
        · exact h1 q z hx
        · exact absurd hx c
      · intro h
        exact fun q hq => h q (by omega)
def meetsB (b : ig_M) (x : Int32) (np : Nat) : Bool := anyN (fun p => anyN (fun q => hb x (nI p) && (hb x (nI q) && !decide (b 101 (8 * p + q) ≤ 0))) np) np
/-- the seconds to change from the stage s1 to the stage s2 -/
def chF (b : ig_M) (np : Nat) (L C : Int32) (p : Nat) (v : Int32) : Int32 := if hb L (nI p) = true then mxI v (mbv C (fun q => b 101 (8 * p + q)) np) else v
def chv (b : ig_M) (np s1 s2 : Nat) : Int32 := foldN (chF b np (b 102 s1 &&& (b 102 s2 ^^^ (-1))) (b 102 s2 &&& (b 102 s1 ^^^ (-1)))) np 0
section STAGE
variable {np ns t w : Nat} {a : ig_M} {la : Int64} {b : ig_M} {lb lo : Int64}
theorem w_mb (hnp : np ≤ 8) (h : a 1 1 = nI np) {p : Nat} (hp : p < 8) (x : Int32) (post : Int32 → Prop) (hpost : post (mbv x (a (12 + p)) np)) : wp_X3_mostBetween a la (nI p) x post := by
  refine fold_loop (fun n k v => wp_X3_mostBetween_5 a la post n (nI p) x v (nI k)) (mbF x (a (12 + p))) np 0 ?_ ?_
  · intro n
    exact ⟨fun _ => hpost, fun z => absurd (by rw [h]; exact le_self np) z⟩
  · intro n k hk ih
    refine ⟨fun z => absurd (by rw [h] at z; exact z) (nle_of hk (by omega)), fun _ => ?_⟩
    rw [w_has]
    rw [nI_clamp (by omega), nI_clamp (by omega), nI_1]
    unfold mbF at ih
    cases c : hb x (nI k)
    · rw [c, if_neg (by decide)] at ih
      exact ⟨fun _ => ih, fun z => absurd rfl z⟩
    · rw [c, if_pos rfl] at ih
      exact ⟨fun z => absurd z ne10, fun _ => ⟨vp_in_nI hp (by omega), vp_in_nI (by omega) (by omega), ih⟩⟩
theorem w_two (hQ : ig_Q np ns t w a la b lb) (x : Int32) (post : Int32 → Prop) (hpost : post (cond (meetsB b x np) 1 0)) : wp_X3_hasTwoThatMeet a la x post := by
  have hnp := Q_np hQ
  have h := Q_a1 hQ
  have e : meetsB b x np = anyN (fun p => hb x (nI p) && !decide (mbv x (a (12 + p)) np ≤ 0)) np := by
    refine anyN_congr (fun p hp => ?_)
    have e2 : ∀ q, q < np → a (12 + p) q = b 101 (8 * p + q) := fun q hq => (hQ.2.2.1 p q (by omega) (by omega)).1
    cases c : hb x (nI p)
    · rw [(anyN_f _ _).mpr (fun q _ => by simp)]; rfl
    · rw [mbv_congr e2]
      cases d : anyN (fun q => true && (hb x (nI q) && !decide (b 101 (8 * p + q) ≤ 0))) np
      · have d2 := (anyN_f _ _).mp d
        have : mbv x (fun q => b 101 (8 * p + q)) np ≤ 0 := mbv_le.mpr (fun q hq hx => by
          have := d2 q hq
          simpa [hx] using this)
        simp [this]
      · obtain ⟨q, hq, hf⟩ := (anyN_iff _ _).mp d
        simp at hf
        have : ¬ mbv x (fun q => b 101 (8 * p + q)) np ≤ 0 := fun z => by
          have := mbv_le.mp z q hq hf.1
          exact (i_le.mpr hf.2) this
        simp [this]
  rw [e] at hpost
  refine any_loop (fun n k => wp_X3_hasTwoThatMeet_2 a la post n x (nI k)) post _ np ?_ ?_ hpost
  · intro n hp0
    exact ⟨fun _ => hp0, fun z => absurd (by rw [h]; exact le_self np) z⟩
  · intro n k hk h1 h2
    refine ⟨fun z => absurd (by rw [h] at z; exact z) (nle_of hk (by omega)), fun _ => ?_⟩
    rw [w_has, nI_1]
    cases c : hb x (nI k)
    · exact ⟨fun _ => h2 (by rw [c]; rfl), fun z => absurd rfl z⟩
    · refine ⟨fun z => absurd z ne10, fun _ => w_mb hnp h (by omega) x _ ⟨fun z => h2 (by rw [c]; simp [z]), fun z => h1 (by rw [c]; simp [z])⟩⟩
theorem i_nat (x : Int32) : x = nI x.toBitVec.toNat := by
  apply Int32.toBitVec_inj.1
  show x.toBitVec = BitVec.ofNat 32 x.toBitVec.toNat
  simp
theorem stage_arg (hnp : np ≤ 8) (x : Int32) : iw x 1 ((1 <<< (nI np &&& 31)) - 1) = true ↔ ¬ x = 0 ∧ (x.toUInt32 >>> ((nI np).toUInt32 &&& Int32.toUInt32 31)).toInt32 = 0 := by
  have hpow : 2 ^ np ≤ 2 ^ 8 := Nat.pow_le_pow_right (by omega) hnp
  have hpos : 0 < 2 ^ np := Nat.pow_pos (by omega)
  have e1 : (1 : Int32) <<< (nI np &&& 31) = nI (2 ^ np) := by
    have := pk_shlN (n := 1) (nI np &&& 31) np (s_l np (by omega)) (by omega)
    rw [Nat.one_mul] at this
    exact this
  have e2 : nI (2 ^ np) - 1 = nI (2 ^ np - 1) := pk_sub (a := 2 ^ np) (b := 1) (by omega)
  rw [e1, e2]
  have hn := i_nat x
  have hlt := x.toBitVec.isLt
  generalize x.toBitVec.toNat = n at hn hlt
  subst hn
  rw [pk_ushrN hlt (nI np) np (s_u np (by omega))]
  have hdiv : n / 2 ^ np ≤ n := Nat.div_le_self _ _
  have key : nI (n / 2 ^ np) = 0 ↔ n < 2 ^ np := by
    constructor
    · intro z
      have z2 : (nI (n / 2 ^ np)).toBitVec.toNat = 0 := by rw [z]; rfl
      rw [pk_tn (by omega)] at z2
      exact (Nat.div_eq_zero_iff.mp z2).resolve_left (by omega)
    · intro z
      rw [Nat.div_eq_of_lt z]; rfl
  have key0 : nI n = 0 ↔ n = 0 := by
    constructor
    · intro z
      have z2 : (nI n).toBitVec.toNat = 0 := by rw [z]; rfl
      rw [pk_tn (by omega)] at z2
      exact z2
    · rintro rfl; rfl
  rw [key, key0]
  constructor
  · intro h
    obtain ⟨k, k1, k2, k3⟩ := iw_le (m := 1) (n := 2 ^ np - 1) (by omega) (by omega) h
    have : n = k := by
      have z : (nI n).toBitVec.toNat = (nI k).toBitVec.toNat := by rw [k3]
      rw [pk_tn (by omega), pk_tn (by omega)] at z
      exact z
    omega
  · rintro ⟨h1, h2⟩
    exact iw_k (m := 1) (n := 2 ^ np - 1) (by omega) (by omega) (by omega)
end STAGE
/-! ===== change, seen ===== -/
theorem i_eqT {x y : Int32} (h : x.toInt = y.toInt) : x = y := Int32.toInt_inj.mp h
theorem mxI_if (u v : Int32) : (if v ≤ u then u else v) = mxI u v := by
  unfold mxI
  by_cases h : v ≤ u
  · rw [if_pos h, if_neg (fun z => i_le.mpr z h)]
  · rw [if_neg h, if_pos (i_le.mp h)]
theorem mxI_pos {u v : Int32} (h : 0 ≤ u) : 0 ≤ mxI u v := by
  rw [Int32.le_iff_toInt_le] at *
  rw [mxI_t]
  split <;> omega
theorem chF_pos (b : ig_M) (np : Nat) (L C : Int32) : ∀ n, 0 ≤ foldN (chF b np L C) n 0
  | 0 => Int32.le_refl _
  | n + 1 => by
    show 0 ≤ chF b np L C n (foldN (chF b np L C) n 0)
    have := chF_pos b np L C n
    unfold chF
    split
    · exact mxI_pos this
    · exact this
section SEEN
variable {np ns t w : Nat} {a : ig_M} {la : Int64} {b : ig_M} {lb lo : Int64}
theorem w_chA (h : ig_Q np ns t w a la b lb) {s1 s2 : Nat} (hs1 : s1 < ns) (hs2 : s2 < ns) (post : Int32 → Prop) (hp : post (chv b np s1 s2)) : wp_X3_secondsToChange a la (nI s1) (nI s2) post := by
  have hnp := Q_np h
  have e1 := Q_a1 h
  have hns : ns ≤ 6 := h.1.1.2.1
  have e3 : a 1 4 = nI ns := h.1.2.2.2.1
  unfold wp_X3_secondsToChange
  rw [w_setOf a la ns s1 hns hs1 e3, w_setOf a la ns s2 hns hs2 e3, w_setOf a la ns s2 hns hs2 e3, w_setOf a la ns s1 hns hs1 e3, h.2.2.2.1 s1 (by omega), h.2.2.2.1 s2 (by omega)]
  unfold chv at hp
  generalize b 102 s1 &&& (b 102 s2 ^^^ (-1)) = L at hp ⊢
  generalize b 102 s2 &&& (b 102 s1 ^^^ (-1)) = C at hp ⊢
  refine fold_loop (fun n k v => wp_X3_secondsToChange_35 a la post n L C v (nI k)) (chF b np L C) np 0 ?_ ?_
  · intro n
    exact ⟨fun _ => hp, fun z => absurd (by rw [e1]; exact le_self np) z⟩
  · intro n k hk ih
    refine ⟨fun z => absurd (by rw [e1] at z; exact z) (nle_of hk (by omega)), fun _ => ?_⟩
    rw [w_has, nI_1]
    unfold chF at ih
    cases c : hb L (nI k)
    · rw [c, if_neg (by decide)] at ih
      exact ⟨fun _ => ih, fun z => absurd rfl z⟩
    · rw [c, if_pos rfl] at ih
      refine ⟨fun z => absurd z ne10, fun _ => w_mb hnp e1 (by omega) C _ ?_⟩
      rw [mbv_congr (fun q hq => (h.2.2.1 k q (by omega) (by omega)).1)]
      exact ih
/-- which colour a second shows, and what the search for the least seconds keeps -/
def snG (b : ig_M) (x : Int32) (k : Nat) : Bool := decide (((b 112 k >>> ((2 * x) &&& 31)) &&& 3) = 1)
def snW (b : ig_M) (x : Int32) : Nat → Bool
  | 0 => false
  | k + 1 => snG b x k
def snF (b : ig_M) (x1 x2 : Int32) (k : Nat) (v : Int32 × Int32) : Int32 × Int32 :=
  (if snG b x2 k = true ∧ snW b x2 k = false ∧ ¬ v.2 = -1 then (if v.1 = -1 then (nI k - v.2) - 1 else if (nI k - v.2) - 1 < v.1 then (nI k - v.2) - 1 else v.1) else v.1, if snG b x1 k = true then nI k else v.2)
theorem snW_s (b : ig_M) (x : Int32) (k : Nat) : snW b x (k + 1) = snG b x k := rfl
theorem w_seenA (h : ig_Q np ns t w a la b lb) (hw : t ≤ w) (x1 x2 : Int32) (post : Int32 → Prop) (hp : post (foldN (snF b x1 x2) t (-1, -1)).1) : wp_X1_leastBetween a la x1 x2 (a 23 6) post := by
  have ht : t ≤ 5000 := h.1.1.2.2
  have e5 : a 23 6 = nI t := h.1.2.2.2.2.2.1
  rw [e5]
  refine fold_loop (fun n k (v : Int32 × Int32) => wp_X1_leastBetween_12 a la post n x1 x2 (nI t) v.1 v.2 (cond (snW b x2 k) 1 0) (nI k)) (snF b x1 x2) t (-1, -1) (fun n => ⟨fun _ => hp, fun z => absurd (le_self t) z⟩) ?_
  intro n k hk ih
  generalize foldN _ k _ = v at ih ⊢
  obtain ⟨v1, v2⟩ := v
  have n5 : ¬ (5000 : Int32) ≤ nI k := nle_of (i := k) (n := 5000) (by omega) (by omega)
  refine ⟨fun z => absurd z (nle_of hk (by omega)), fun _ => ⟨fun z => absurd z n5, fun _ => ⟨vp_in_nI (by omega) (by omega), ?_⟩⟩⟩
  rw [nI_clamp (by omega), h.2.2.2.2.2 k (by omega)]
  unfold wp_X1_colourIn wp_X1_leastBetween_52 wp_X1_leastBetween_97 wp_X1_leastBetween_99 wp_X1_colourIn
  rw [nI_1]
  simp only [snF, snW_s] at ih
  unfold snG at ih
  by_cases c : ((b 112 k >>> ((2 * x2) &&& 31)) &&& 3) = 1
  · refine ⟨fun z => absurd c z, fun _ => ⟨fun z => absurd z ne10, fun _ => ?_⟩⟩
    cases d : snW b x2 k
    · refine ⟨fun z => absurd rfl z, fun _ => ?_⟩
      by_cases e : v2 = -1
      · refine ⟨fun _ => ?_, fun z => absurd e z⟩
        simp only [c, d, e, decide_true, not_true_eq_false, and_false, if_false, cond_true] at ih
        refine ⟨fun z => ?_, fun z => ?_⟩
        · simp only [z, decide_false, if_false] at ih; rw [e]; simpa using ih
        · simp only [z, decide_true, if_true] at ih; simpa using ih
      · refine ⟨fun z => absurd z e, fun _ => ?_⟩
        simp only [c, d, e, decide_true, not_false_eq_true, and_self, if_true, cond_true] at ih
        by_cases f : v1 = -1
        · simp only [f, if_true] at ih
          refine ⟨fun z => absurd f z, fun _ => ⟨fun z => ?_, fun z => ?_⟩⟩
          · simpa [z] using ih
          · simpa [z] using ih
        · simp only [f, if_false] at ih
          refine ⟨fun _ => ⟨fun z => ?_, fun z => ?_⟩, fun z => absurd z f⟩
          · simpa [z] using ih
          · simpa [z] using ih
    · refine ⟨fun _ => ?_, fun z => absurd z ne10⟩
      simp only [c, d, decide_true] at ih
      refine ⟨fun z => ?_, fun z => ?_⟩
      · simpa [z] using ih
      · simpa [z] using ih
  · refine ⟨fun _ => ⟨fun _ => ?_, fun z => absurd rfl z⟩, fun z => absurd z c⟩
    refine ⟨fun z => ?_, fun z => ?_⟩
    · simpa [z, c] using ih
    · simpa [z, c] using ih
end SEEN
section SEEND
variable {np ns t w : Nat} {a : ig_M} {la : Int64} {b : ig_M} {lb lo : Int64}
end SEEND
/-! ===== go: what is demanded, which stage is wanted ===== -/
def dsF (b : ig_M) (p : Nat) (x : Int32) : Int32 := if dmB b p = true then x ||| (1 <<< (nI p &&& 31)) else x
theorem ds_bt (b : ig_M) : ∀ n, n ≤ 32 → ∀ i, i < 32 → bt (foldN (dsF b) n 0) i = (decide (i < n) && dmB b i)
  | 0, _, i, _ => by show bt 0 i = _; rw [b_0]; simp
  | n + 1, hn, i, hi => by
    show bt (dsF b n (foldN (dsF b) n 0)) i = _
    have ih := ds_bt b n (by omega) i hi
    generalize foldN (dsF b) n 0 = X at ih ⊢
    unfold dsF
    by_cases c : dmB b n = true
    · rw [if_pos c, b_or, ih, b_shl n (by omega) _ hi, b_1]
      by_cases e : i = n
      · subst e; simp [c]
      · by_cases f : i < n
        · simp [f, show i < n + 1 by omega, show ¬ n ≤ i by omega]
        · simp [f, show ¬ i < n + 1 by omega, show n ≤ i by omega, show ¬ i - n = 0 by omega]
    · rw [if_neg c, ih]
      by_cases e : i = n
      · subst e; simp at c; simp [c]
      · by_cases f : i < n
        · simp [f, show i < n + 1 by omega]
        · simp [f, show ¬ i < n + 1 by omega]
/-- the stage i has a phase that is demanded and that the stage s doesn't have -/
def wsB (b : ig_M) (np s i : Nat) : Bool := anyN (fun p => hb (b 102 i &&& (b 102 s ^^^ (-1))) (nI p) && dmB b p) np
theorem ws_iff (b : ig_M) {np : Nat} (hnp : np ≤ 8) (s i : Nat) : (b 102 i &&& (foldN (dsF b) np 0 &&& (b 102 s ^^^ (-1)))) = 0 ↔ wsB b np s i = false := by
  unfold wsB
  constructor
  · intro h
    rw [anyN_f]
    intro p hp
    have h2 : bt (b 102 i &&& (foldN (dsF b) np 0 &&& (b 102 s ^^^ (-1)))) p = bt 0 p := by rw [h]
    rw [b_and, b_and, b_0, ds_bt b np (by omega) p (by omega)] at h2
    rw [hb_bt _ (by omega), b_and]
    simp only [hp, decide_true, Bool.true_and] at h2
    rw [← h2]
    cases bt (b 102 i) p <;> cases bt (b 102 s ^^^ (-1)) p <;> cases dmB b p <;> rfl
  · intro h
    rw [anyN_f] at h
    apply b_ext
    intro p hp
    rw [b_and, b_and, b_0, ds_bt b np (by omega) p hp]
    by_cases c : p < np
    · have h2 := h p c
      rw [hb_bt _ (by omega), b_and] at h2
      simp only [c, decide_true, Bool.true_and]
      rw [← h2]
      cases bt (b 102 i) p <;> cases bt (b 102 s ^^^ (-1)) p <;> cases dmB b p <;> rfl
    · simp [c]
theorem isFst_lt {f : Nat → Bool} {n : Nat} {g : Nat → Int32} {v : Int32} (h : isFst f n g v) : v = -1 ∨ ∃ i, i < n ∧ v = g i := by
  rcases h with ⟨q, _⟩ | ⟨i, h1, h2, _⟩
  · exact Or.inl q
  · exact Or.inr ⟨i, h1, h2⟩
theorem nI_neg {n : Nat} (h : n < 2 ^ 31) : ¬ nI n = -1 := by
  intro z
  have := nI_toInt h
  rw [z] at this
  have e : ((-1 : Int32)).toInt = -1 := by decide
  omega
section LEAVE
variable {np ns t w : Nat} {a : ig_M} {la : Int64} {b : ig_M} {lb lo : Int64}
def trB (b : ig_M) (i : Nat) : Bool := hb (b 102 i) (b 97 21)
def isTram (b : ig_M) (ns s : Nat) (v : Int32) : Prop := (b 97 21 = -1 ∧ v = -1) ∨ (¬ b 97 21 = -1 ∧ ((trB b s = true ∧ v = nI s) ∨ (trB b s = false ∧ isFst (trB b) ns nI v)))
theorem ex_tram (b : ig_M) (ns s : Nat) : ∃ v, isTram b ns s v := by
  by_cases c : b 97 21 = -1
  · exact ⟨-1, Or.inl ⟨c, rfl⟩⟩
  · cases d : trB b s
    · obtain ⟨v, hv⟩ := ex_fst (trB b) ns nI
      exact ⟨v, Or.inr ⟨c, Or.inr ⟨d, hv⟩⟩⟩
    · exact ⟨nI s, Or.inr ⟨c, Or.inl ⟨d, rfl⟩⟩⟩
theorem tram_lt {s : Nat} (hs : s < ns) {v : Int32} (h : isTram b ns s v) : v = -1 ∨ ∃ i, i < ns ∧ v = nI i := by
  rcases h with ⟨_, q⟩ | ⟨_, ⟨_, q⟩ | ⟨_, q⟩⟩
  · exact Or.inl q
  · exact Or.inr ⟨s, hs, q⟩
  · exact isFst_lt q
theorem w_tramA (h : ig_Q np ns t w a la b lb) {s : Nat} (hs : s < ns) (h3 : a 23 3 = nI s) {v : Int32} (hv : isTram b ns s v) (post : Int32 → Prop) (hp : post v) : wp_X0_stageForTram a la post := by
  have hns : ns ≤ 6 := h.1.1.2.1
  have e3 : a 1 4 = nI ns := h.1.2.2.2.1
  have h4 := h.2.2.2.1
  have f3 : a 23 5 = b 97 21 := h.2.2.2.2.1.2.2.1
  unfold wp_X0_stageForTram
  rw [h3, f3]
  refine ⟨fun c => ?_, fun c => ?_⟩
  · rcases hv with ⟨z, _⟩ | ⟨_, hv⟩
    · exact absurd z c
    rw [w_setOf a la ns s hns hs e3, w_has, h4 s (by omega)]
    rcases hv with ⟨d, rfl⟩ | ⟨d, hv⟩
    · unfold trB at d
      rw [d]
      exact ⟨fun z => absurd z ne10, fun _ => hp⟩
    · unfold trB at d
      rw [d]
      refine ⟨fun _ => ?_, fun z => absurd rfl z⟩
      refine pk_loop (σ := Unit) (fun n k _ => wp_X0_stageForTram_38 a la post n (nI k)) (fun k _ => ∀ i, i < k → trB b i = false) ns 0 () (Nat.zero_le _) (fun i hi => absurd hi (Nat.not_lt_zero i)) ?_ ?_
      · intro n _ hI
        refine ⟨fun _ => ?_, fun z => absurd (by rw [e3]; exact le_self ns) z⟩
        rw [← isFst_none hv hI]
        exact hp
      · intro n k _ hk hI ih
        refine ⟨fun z => absurd (by rw [e3] at z; exact z) (nle_of hk (by omega)), fun _ => ?_⟩
        rw [w_setOf a la ns k hns hk e3, w_has, h4 k (by omega), f3]
        cases e : trB b k
        · have e2 := e
          unfold trB at e2
          rw [e2, nI_1]
          exact ⟨fun _ => ih () (fun i hi => by
            rcases Nat.lt_succ_iff_lt_or_eq.mp hi with q | rfl
            · exact hI i q
            · exact e), fun z => absurd rfl z⟩
        · have e2 := e
          unfold trB at e2
          rw [e2, ← isFst_at hv hk e hI]
          exact ⟨fun z => absurd z ne10, fun _ => hp⟩
  · rcases hv with ⟨_, z⟩ | ⟨z, _⟩
    · rw [← z]; exact hp
    · exact absurd c z
/-- the k-th stage behind s -/
def nxS (ns s k : Nat) : Nat := (s + k + 1) % ns
def isDem (b : ig_M) (np ns s : Nat) (v : Int32) : Prop := isFst (fun k => wsB b np s (nxS ns s k)) (ns - 1) (fun k => nI (nxS ns s k)) v
theorem w_dsA (h : ig_Q np ns t w a la b lb) (post : Int32 → Prop) (hp : post (foldN (dsF b) np 0)) : wp_X3_demandedSet a la post := by
  have hnp := Q_np h
  have e1 := Q_a1 h
  refine fold_loop (fun n k x => wp_X3_demandedSet_4 a la post n x (nI k)) (dsF b) np 0 (fun n => ⟨fun _ => hp, fun z => absurd (by rw [e1]; exact le_self np) z⟩) ?_
  intro n k hk ih
  refine ⟨fun z => absurd (by rw [e1] at z; exact z) (nle_of hk (by omega)), fun _ => ⟨vp_in_nI (by omega) (by omega), ?_⟩⟩
  rw [nI_clamp (by omega), w_dmA (h.2.1 k (by omega)), nI_1]
  unfold dsF at ih
  cases c : dmB b k
  · rw [c, if_neg (by decide)] at ih
    exact ⟨fun _ => ih, fun z => absurd rfl z⟩
  · rw [c, if_pos rfl] at ih
    exact ⟨fun z => absurd z ne10, fun _ => ih⟩
theorem w_demA (h : ig_Q np ns t w a la b lb) {s : Nat} (hs : s < ns) (h3 : a 23 3 = nI s) {v : Int32} (hv : isDem b np ns s v) (post : Int32 → Prop) (hp : post v) : wp_X0_stageOnDemand a la post := by
  have hnp := Q_np h
  have hns : ns ≤ 6 := h.1.1.2.1
  have e3 : a 1 4 = nI ns := h.1.2.2.2.1
  have h4 := h.2.2.2.1
  refine w_dsA h _ ?_
  rw [h3, w_setOf a la ns s hns hs e3, h4 s (by omega), nI_1]
  have hit : ∀ i, i < ns → ∀ (A B : Prop), (wsB b np s i = false → A) → (wsB b np s i = true → B) → ((a 20 i &&& (foldN (dsF b) np 0 &&& (b 102 s ^^^ (-1)))) = 0 → A) ∧ (¬ (a 20 i &&& (foldN (dsF b) np 0 &&& (b 102 s ^^^ (-1)))) = 0 → B) := by
    intro i hi A B hA hB
    rw [h4 i (by omega), ws_iff b hnp s i]
    exact ⟨hA, fun z => hB (by simpa using z)⟩
  refine pk_loop (σ := Unit) (fun n k _ => wp_X0_stageOnDemand_29 a la post n (foldN (dsF b) np 0 &&& (b 102 s ^^^ (-1))) (nI k)) (fun k _ => s + 1 ≤ k ∧ ∀ j, j < k - (s + 1) → wsB b np s (nxS ns s j) = false) ns (s + 1) () (by omega) ⟨Nat.le_refl _, fun j hj => absurd hj (by omega)⟩ ?_ ?_
  · intro n _ hI
    refine ⟨fun _ => ?_, fun z => absurd (by rw [e3]; exact le_self ns) z⟩
    refine pk_loop (σ := Unit) (fun n k _ => wp_X0_stageOnDemand_63 a la post n (foldN (dsF b) np 0 &&& (b 102 s ^^^ (-1))) (nI k)) (fun k _ => ∀ j, j < ns - (s + 1) + k → wsB b np s (nxS ns s j) = false) s 0 () (Nat.zero_le _) hI.2 ?_ ?_
    · intro n _ hI2
      refine ⟨fun _ => ?_, fun z => absurd (by rw [h3]; exact le_self s) z⟩
      rw [← isFst_none hv (fun j hj => hI2 j (by omega))]
      exact hp
    · intro n k _ hk hI2 ih
      refine ⟨fun z => absurd (by rw [h3] at z; exact z) (nle_of hk (by omega)), fun _ => ?_⟩
      rw [w_setOf a la ns k hns (by omega) e3, nI_1]
      have ek : nxS ns s (ns - (s + 1) + k) = k := by
        unfold nxS
        rw [show s + (ns - (s + 1) + k) + 1 = k + ns by omega, Nat.add_mod_right, Nat.mod_eq_of_lt (by omega)]
      refine hit k (by omega) _ _ (fun z => ih () (fun j hj => ?_)) (fun z => ?_)
      · by_cases c : j = ns - (s + 1) + k
        · rw [c, ek]; exact z
        · exact hI2 j (by omega)
      · have := isFst_at hv (k := ns - (s + 1) + k) (by omega) (by simp only [ek]; exact z) hI2
        rw [ek] at this
        rw [← this]
        exact hp
  · intro n k _ hk hI ih
    obtain ⟨hks, hI⟩ := hI
    refine ⟨fun z => absurd (by rw [e3] at z; exact z) (nle_of hk (by omega)), fun _ => ?_⟩
    rw [w_setOf a la ns k hns (by omega) e3, nI_1]
    have ek : nxS ns s (k - (s + 1)) = k := by
      unfold nxS
      rw [show s + (k - (s + 1)) + 1 = k by omega, Nat.mod_eq_of_lt (by omega)]
    refine hit k (by omega) _ _ (fun z => ih () ⟨by omega, fun j hj => ?_⟩) (fun z => ?_)
    · by_cases c : j = k - (s + 1)
      · rw [c, ek]; exact z
      · exact hI j (by omega)
    · have := isFst_at hv (k := k - (s + 1)) (by omega) (by simp only [ek]; exact z) hI
      rw [ek] at this
      rw [← this]
      exact hp
end LEAVE
