/-! ===== the shortest round as a row: each stage once, its changes together ===== -/
/-- what is visited after i steps from V and x -/
def vsN (c : Nat → Nat → Nat) (n : Nat) : Nat → Nat → Nat → Nat
  | 0, V, _ => V
  | i + 1, V, x => vsN c n i (V ||| 2 ^ (gst c n V x)) (gst c n V x)
theorem it_last (c : Nat → Nat → Nat) (n : Nat) : ∀ i V x, itN c n (i + 1) V x = gst c n (vsN c n i V x) (itN c n i V x)
  | 0, _, _ => rfl
  | i + 1, V, x => it_last c n i (V ||| 2 ^ (gst c n V x)) (gst c n V x)
theorem vs_last (c : Nat → Nat → Nat) (n : Nat) : ∀ i V x, vsN c n (i + 1) V x = vsN c n i V x ||| 2 ^ (itN c n (i + 1) V x)
  | 0, _, _ => rfl
  | i + 1, V, x => vs_last c n i (V ||| 2 ^ (gst c n V x)) (gst c n V x)
section ZTOUR
variable {c : Nat → Nat → Nat} {n : Nat}
theorem tour_at (hc : ∀ i j, c i j ≤ 20) (hn : n ≤ 6) (hn0 : 0 < n) : ∀ k, k < n → vsN c n k 1 0 < 2 ^ n ∧ rkN (vsN c n k 1 0) n + k + 1 = n ∧ itN c n k 1 0 < n
  | 0, _ => by
    have h1 := rk_one (n := n) hn0
    exact ⟨Nat.one_lt_two_pow (by omega), by show rkN 1 n + 0 + 1 = n; omega, hn0⟩
  | k + 1, hk => by
    obtain ⟨h1, h2, h3⟩ := tour_at hc hn hn0 k (by omega)
    obtain ⟨g1, g2, _, _⟩ := gst_spec (x := itN c n k 1 0) hc hn (show ¬ rkN (vsN c n k 1 0) n = 0 by omega)
    rw [vs_last, it_last]
    have h4 := rk_or g2 n g1
    exact ⟨or_lt h1 g1, by omega, g1⟩
theorem tour_step (hc : ∀ i j, c i j ≤ 20) (hn : n ≤ 6) (hn0 : 0 < n) {k : Nat} (hk : k + 1 < n) : hV c n (vsN c n k 1 0) (itN c n k 1 0) = c (itN c n k 1 0) (itN c n (k + 1) 1 0) + hV c n (vsN c n (k + 1) 1 0) (itN c n (k + 1) 1 0) := by
  obtain ⟨h1, h2, h3⟩ := tour_at hc hn hn0 k (by omega)
  obtain ⟨_, _, g3, _⟩ := gst_spec (x := itN c n k 1 0) hc hn (show ¬ rkN (vsN c n k 1 0) n = 0 by omega)
  rw [vs_last, it_last]
  exact g3.symm
/-- the stages so far, as a set -/
def stN (c : Nat → Nat → Nat) (n : Nat) : Nat → Nat
  | 0 => 0
  | k + 1 => stN c n k ||| 2 ^ (itN c n k 1 0)
theorem st_vs (c : Nat → Nat → Nat) (n : Nat) : ∀ k, stN c n (k + 1) = vsN c n k 1 0
  | 0 => by
    show 0 ||| 2 ^ 0 = 1
    decide
  | k + 1 => by
    show stN c n (k + 1) ||| 2 ^ (itN c n (k + 1) 1 0) = _
    rw [st_vs c n k, vs_last]
theorem st_lt (hc : ∀ i j, c i j ≤ 20) (hn : n ≤ 6) (hn0 : 0 < n) : ∀ k, k ≤ n → stN c n k < 2 ^ n
  | 0, _ => Nat.two_pow_pos n
  | k + 1, hk => by
    rw [st_vs]
    exact (tour_at hc hn hn0 k (by omega)).1
theorem st_all (hc : ∀ i j, c i j ≤ 20) (hn : n ≤ 6) (hn0 : 0 < n) : stN c n n = 2 ^ n - 1 := by
  obtain ⟨m, rfl⟩ : ∃ m, n = m + 1 := ⟨n - 1, by omega⟩
  obtain ⟨h1, h2, _⟩ := tour_at hc hn hn0 m (by omega)
  rw [st_vs]
  exact full_iff h1 (by omega)
/-- the changes so far -/
def suN (c : Nat → Nat → Nat) (n : Nat) : Nat → Nat
  | 0 => 0
  | k + 1 => suN c n k + c (itN c n k 1 0) (itN c n ((k + 1) % n) 1 0)
theorem su_part (hc : ∀ i j, c i j ≤ 20) (hn : n ≤ 6) (hn0 : 0 < n) : ∀ k, k < n → suN c n k + hV c n (vsN c n k 1 0) (itN c n k 1 0) = hV c n 1 0
  | 0, _ => Nat.zero_add _
  | k + 1, hk => by
    have ih := su_part hc hn hn0 k (by omega)
    have h1 := tour_step hc hn hn0 hk
    show suN c n k + c (itN c n k 1 0) (itN c n ((k + 1) % n) 1 0) + _ = _
    rw [Nat.mod_eq_of_lt hk]
    omega
theorem su_all (hc : ∀ i j, c i j ≤ 20) (hn : n ≤ 6) (hn0 : 0 < n) : suN c n n = hV c n 1 0 := by
  obtain ⟨m, rfl⟩ : ∃ m, n = m + 1 := ⟨n - 1, by omega⟩
  have h1 := su_part hc hn hn0 m (by omega)
  obtain ⟨_, h2, _⟩ := tour_at hc hn hn0 m (by omega)
  rw [hV_full (show rkN (vsN c (m + 1) m 1 0) (m + 1) = 0 by omega)] at h1
  show suN c (m + 1) m + c (itN c (m + 1) m 1 0) (itN c (m + 1) ((m + 1) % (m + 1)) 1 0) = _
  rw [Nat.mod_self]
  exact h1
theorem su_le (hc : ∀ i j, c i j ≤ 20) : ∀ k, suN c n k ≤ 20 * k
  | 0 => Nat.le_refl _
  | k + 1 => by
    have h1 := su_le hc k
    have h2 := hc (itN c n k 1 0) (itN c n ((k + 1) % n) 1 0)
    show suN c n k + _ ≤ _
    omega
theorem smN_ge {l : Nat → Nat} : ∀ n, (∀ i, i < n → 1 ≤ l i) → n ≤ smN l n
  | 0, _ => Nat.le_refl _
  | n + 1, h => by
    have h1 := smN_ge n (fun i hi => h i (by omega))
    have h2 := h n (by omega)
    rw [smN_s]
    omega
end ZTOUR
section ZTOUR2
variable {np ns t w : Nat} {a : ig_M} {la : Int64} {b : ig_M}
theorem lg_ge (h : zQ np ns t w a la b) {s : Nat} (hs : s < ns) : 1 ≤ lgN b np s := by
  obtain ⟨hQ, hS, _, _⟩ := h
  have hnp := Q_np hQ
  have hns := Q_ns hQ
  obtain ⟨p, hp, hb⟩ := hS.2.2 s hs
  have h1 := hS.1 p hp
  rw [(hQ.2.1 p (by omega)).1.1] at h1
  rw [hQ.2.2.2.1 s (by omega)] at hb
  obtain ⟨e, _⟩ := lgN_eq hQ s
  apply Classical.byContradiction
  intro hc
  have e0 : lgN b np s = 0 := by omega
  rw [e0] at e
  have h2 := mbv_le.mp (show mbv (b 102 s) (b 98) np ≤ 0 by rw [e]; decide) p hp hb
  exact absurd (i_tr h1 h2) (by decide)
theorem and_not (x : Int32) : x &&& (x ^^^ (-1)) = 0 := by
  apply b_ext
  intro i hi
  rw [b_and, b_xor, b_m1 i hi, b_0]
  cases bt x i <;> rfl
theorem chv_self (b : ig_M) (np s : Nat) : chv b np s s = 0 := by
  unfold chv
  rw [and_not]
  have hb0 : ∀ p, p < 8 → hb 0 (nI p) = false := by decide
  have key : ∀ n, foldN (chF b np 0 0) n 0 = 0 := by
    intro n
    induction n with
    | zero => rfl
    | succ n ih =>
      show chF b np 0 0 n (foldN (chF b np 0 0) n 0) = 0
      rw [ih]
      unfold chF
      have hz : ¬ hb 0 (nI n) = true := by
        unfold hb
        have : ((0 : Int32) >>> (nI n &&& 31)) = 0 := by
          apply b_ext
          intro i hi
          rw [b_0]
          obtain ⟨j, hj, e⟩ := pk_andE (nI n) (m := 31) 5 (by decide)
          unfold bt
          rw [Int32.toBitVec_shiftRight]
          show ((0 : Int32).toBitVec.sshiftRight _).getLsbD i = false
          rw [BitVec.getLsbD_sshiftRight]
          simp
        rw [this]
        decide
      rw [if_neg hz]
  exact key np
end ZTOUR2
