/-! ===== go: writing the log ===== -/
theorem bt_nI (n : Nat) {j : Nat} (hj : j < 32) : bt (nI n) j = n.testBit j := by
  unfold bt
  show (BitVec.ofNat 32 n).getLsbD j = _
  rw [BitVec.getLsbD_ofNat]
  simp [hj]
/-- what the phase p shows, as a number -/
def wrD (b : ig_M) (np p : Nat) : Nat := if p < np ∧ (b 97 9 = 1 ∨ b 97 9 = 2) ∧ b 111 (3 * p + (b 103 p).toNatClampNeg) = 0 then (b 103 p).toNatClampNeg else 3
def mmR (d : Nat → Nat) : Nat → Nat
  | 0 => 0
  | r + 1 => 4 * mmR d r + d (7 - r)
theorem mmR_lt {d : Nat → Nat} (h : ∀ p, d p < 4) : ∀ r, mmR d r < 4 ^ r
  | 0 => by show 0 < 4 ^ 0; decide
  | r + 1 => by
    have h1 := mmR_lt h r
    have h2 := h (7 - r)
    have h3 : 4 ^ (r + 1) = 4 * 4 ^ r := by rw [Nat.pow_succ, Nat.mul_comm]
    show 4 * mmR d r + d (7 - r) < 4 ^ (r + 1)
    omega
theorem mmR_bt {d : Nat → Nat} (h : ∀ p, d p < 4) : ∀ r, r ≤ 8 → ∀ j, (mmR d r).testBit j = if j / 2 < r then (d (8 - r + j / 2)).testBit (j % 2) else false
  | 0, _, j => by simp [mmR]
  | r + 1, hr, j => by
    have ih := mmR_bt h r (by omega)
    show (2 ^ 2 * mmR d r + d (7 - r)).testBit j = _
    rw [Nat.testBit_two_pow_mul_add _ (h (7 - r))]
    by_cases c : j < 2
    · rw [if_pos c, show j / 2 = 0 by omega, if_pos (by omega), show j % 2 = j by omega, show 8 - (r + 1) + 0 = 7 - r by omega]
    · rw [if_neg c, ih, show (j - 2) / 2 = j / 2 - 1 by omega, show (j - 2) % 2 = j % 2 by omega]
      by_cases e : j / 2 < r + 1
      · rw [if_pos e, if_pos (by omega), show 8 - r + (j / 2 - 1) = 8 - (r + 1) + j / 2 by omega]
      · rw [if_neg e, if_neg (by omega)]
def wvF (d : Nat → Nat) (k : Nat) (v : Int32) : Int32 := (v &&& ((3 <<< (nI (2 * k) &&& 31)) ^^^ (-1))) ||| (nI (d k) <<< (nI (2 * k) &&& 31))
theorem wv_bt {d : Nat → Nat} (h : ∀ p, d p < 4) : ∀ k, k ≤ 8 → ∀ j, j < 32 → bt (foldN (wvF d) k 65535) j = if j < 16 then (if j / 2 < k then (d (j / 2)).testBit (j % 2) else true) else false
  | 0, _, j, hj => by
    show bt 65535 j = _
    rw [b_65535]
    by_cases c : j < 16 <;> simp [c]
  | k + 1, hk, j, hj => by
    have ih := wv_bt h k (by omega) j hj
    show bt (wvF d k (foldN (wvF d) k 65535)) j = _
    generalize foldN (wvF d) k 65535 = v at ih ⊢
    unfold wvF
    rw [b_or, b_and, ih, b_xor, b_m1 j hj, b_shl (2 * k) (by omega) _ hj, b_shl (2 * k) (by omega) _ hj, b_3, bt_nI _ (show j - 2 * k < 32 by omega)]
    by_cases c : j < 2 * k
    · rw [decide_eq_false (by omega : ¬ 2 * k ≤ j)]
      by_cases e : j < 16
      · simp [e, show j / 2 < k by omega, show j / 2 < k + 1 by omega]
      · omega
    · rw [decide_eq_true (by omega : 2 * k ≤ j)]
      by_cases e : j < 2 * k + 2
      · rw [decide_eq_true (by omega : j - 2 * k < 2), if_pos (by omega), if_pos (by omega : j < 16), if_pos (by omega : j / 2 < k + 1), show j / 2 = k by omega, show j - 2 * k = j % 2 by omega]
        simp
      · rw [decide_eq_false (by omega : ¬ j - 2 * k < 2)]
        have p4 : 2 ^ 2 ≤ 2 ^ (j - 2 * k) := Nat.pow_le_pow_right (by omega) (by omega)
        have f : (d k).testBit (j - 2 * k) = false := Nat.testBit_lt_two_pow (Nat.lt_of_lt_of_le (h k) p4)
        rw [f]
        by_cases g : j < 16
        · simp [g, show ¬ j / 2 < k by omega, show ¬ j / 2 < k + 1 by omega]
        · simp [g]
theorem wr_eq {d : Nat → Nat} (h : ∀ p, d p < 4) {np : Nat} (hnp : np ≤ 8) (h3 : ∀ p, np ≤ p → d p = 3) : foldN (wvF d) np 65535 = nI (mmR d 8) := by
  apply b_ext
  intro j hj
  rw [wv_bt h np hnp j hj, bt_nI _ hj, mmR_bt h 8 (by omega)]
  by_cases c : j < 16
  · by_cases e : j / 2 < np
    · rw [if_pos c, if_pos e, if_pos (show j / 2 < 8 by omega), show 8 - 8 + j / 2 = j / 2 by omega]
    · rw [if_pos c, if_neg e, if_pos (show j / 2 < 8 by omega), h3 _ (by omega)]
      rcases (show j % 2 = 0 ∨ j % 2 = 1 by omega) with f | f <;> rw [f] <;> decide
  · rw [if_neg c, if_neg (by omega)]
theorem up_up (a : ig_M) (i j : Nat) (u v : Int32) : ig_up (ig_up a i j u) i j v = ig_up a i j v := by
  funext x y
  simp only [up_app]
  by_cases h : x = i <;> by_cases h2 : y = j <;> simp [h, h2]
section WRITE
variable {np ns t w : Nat} {a : ig_M} {la : Int64} {b : ig_M} {lb lo : Int64}
theorem col_of (h : ig_Q np ns t w a la b lb) {p : Nat} (hp : p < 8) : ∃ c, c < 3 ∧ b 103 p = nI c := by
  have hph := h.2.1 p hp
  have := hph.2.2.1
  rw [hph.1.2.2.2.1] at this
  rcases this with z | z | z
  · exact ⟨0, by omega, z⟩
  · exact ⟨1, by omega, z⟩
  · exact ⟨2, by omega, z⟩
theorem wrD_lt (h : ig_Q np ns t w a la b lb) (p : Nat) : wrD b np p < 4 := by
  unfold wrD
  split
  · rename_i z
    obtain ⟨c, hc, e⟩ := col_of h (p := p) (by have := Q_np h; omega)
    rw [e, nI_clamp (by omega)]
    omega
  · omega
theorem s_write (h : ig_PP np ns t t a la b lb) (ht : t < 5000) : ∃ a' b', (∀ post : ig_M → Int64 → Prop, post a' la → wp_X0_writeLog a la post) ∧ (∀ post : ig_M → Int64 → Prop, post b' lb → wp_X6_write b lb post) ∧ ig_PP np ns t (t + 1) a' la b' lb := by
  obtain ⟨h, h0⟩ := h
  obtain ⟨⟨hnp, hns, ht0⟩, e1, e2, e3, e4, e5, e6, e7, e8⟩ := h.1
  have f1 : a 23 2 = b 97 9 := h.2.2.2.2.1.1
  have f4 := h.2.2.2.2.1.2.2.2.1
  rw [f1] at f4
  have hd := wrD_lt h
  have h3 : ∀ p, np ≤ p → wrD b np p = 3 := fun p hp => by unfold wrD; rw [if_neg (fun z => absurd z.1 (by omega))]
  have hV := wr_eq hd hnp h3
  have g1 : iw (nI t) 0 (5000 - 1) = true := iw_k (m := 0) (n := 4999) (by omega) (by omega) (by omega)
  have vt : vp_in (nI t) 5000 := vp_in_nI ht (by omega)
  refine ⟨ig_up a 22 t (nI (mmR (wrD b np) 8)), ig_up b 112 t (nI (mmR (wrD b np) 8)), fun post hp => ?_, fun post hp => ?_, ?_, ?_⟩
  · unfold wp_X0_writeLog wp_X1_darken
    rw [w_with, e5, g1, nI_clamp (by omega)]
    refine ⟨fun z => absurd z ne10, fun _ => ⟨vt, fun a4 u4 => ?_⟩⟩
    rw [u4]
    unfold wp_X0_areWorking
    have r2 : ig_up a 22 t 65535 23 2 = b 97 9 := by rw [up_row (by omega)]; exact f1
    simp only [r2]
    by_cases c : b 97 9 = 1 ∨ b 97 9 = 2
    · have main : ∃ j, wp_X0_writeLog_21 post j (ig_up a 22 t 65535) la 0 := by
        refine fold_loop (fun n k v => wp_X0_writeLog_21 post n (ig_up a 22 t v) la (nI k)) (wvF (wrD b np)) np 65535 ?_ ?_
        · intro n
          refine ⟨fun _ => ?_, fun z => absurd (by rw [up_row (by omega), e1]; exact le_self np) z⟩
          rw [hV]
          exact hp
        · intro n k hk ih
          generalize foldN (wvF (wrD b np)) k 65535 = v at ih ⊢
          have hph := h.2.1 k (by omega)
          obtain ⟨q, hq, eq⟩ := col_of h (p := k) (by omega)
          have hbq := hph.2.1 q hq
          have n0 : ∀ j, ig_up a 22 t v 1 j = a 1 j := fun j => by rw [up_row (by omega)]
          have n1 : ∀ j, ig_up a 22 t v (3 + k) j = a (3 + k) j := fun j => by rw [up_row (by omega)]
          have n2 : ∀ j, ig_up a 22 t v 23 j = a 23 j := fun j => by rw [up_row (by omega)]
          have n3 : ig_up a 22 t v 22 t = v := by simp [up_app]
          refine ⟨fun z => absurd (by rw [n0, e1] at z; exact z) (nle_of hk (by omega)), fun _ => ⟨vp_in_nI (by omega) (by omega), ?_⟩⟩
          unfold wp_X2_shown
          rw [nI_clamp (show k < 2 ^ 31 by omega), w_isBroken, n1, n1, n2, e5, hph.1.2.2.2.1, eq]
          have fin : ∀ r : Int32, r = nI (wrD b np k) → wp_X1_show (ig_up a 22 t v) la (nI k) (nI t) r (fun a8 la9 => wp_X0_writeLog_21 post n a8 la9 (nI k + 1)) := by
            intro r hr
            unfold wp_X1_show
            rw [w_with, g1, nI_clamp (by omega), n3, show (2 : Int32) * nI k = nI (2 * k) from pk_mul 2 k, hr, nI_1]
            refine ⟨fun z => absurd z ne10, fun _ => ⟨vt, vt, fun a5 u5 => ?_⟩⟩
            rw [u5, up_up]
            exact ih
          unfold wrD at fin
          rw [eq, nI_clamp (by omega)] at fin
          cases d : hb (a (3 + k) 11) (nI q)
          · rw [d] at hbq
            refine ⟨fun _ => fin _ ?_, fun z => absurd rfl z⟩
            rw [if_pos ⟨hk, c, hbq⟩]
          · rw [d] at hbq
            refine ⟨fun z => absurd z ne10, fun _ => fin _ ?_⟩
            rw [if_neg (fun z => absurd (hbq.symm.trans z.2.2) ne10)]
            rfl
      exact ⟨fun _ => ⟨fun _ => main, fun z => absurd z ne10⟩, fun d => ⟨fun e => absurd (c.resolve_left d) e, fun _ => ⟨fun _ => main, fun z => absurd z ne10⟩⟩⟩
    · have c1 : ¬ b 97 9 = 1 := fun z => c (Or.inl z)
      have c2 : ¬ b 97 9 = 2 := fun z => c (Or.inr z)
      have e9 : foldN (wvF (wrD b np)) 0 65535 = nI (mmR (wrD b np) 8) := wr_eq hd (by omega) (fun p _ => by unfold wrD; rw [if_neg (fun z => c z.2.1)])
      refine ⟨fun z => absurd z c1, fun _ => ⟨fun _ => ⟨fun z => absurd trivial z, fun _ => ?_⟩, fun z => absurd z c2⟩⟩
      rw [← e9] at hp
      exact hp
  · have main := pk_loop (σ := Int32) (fun n r x => wp_X6_write_5 post n b lb x (nI (8 - r) + (-1))) (fun r x => x = nI (mmR (wrD b np) r)) 8 0 (nI (mmR (wrD b np) 0)) (by omega) rfl ?_ ?_
    · exact main
    · intro n x hI
      refine ⟨fun _ => ?_, fun z => absurd (by decide) z⟩
      rw [e6, nI_clamp (by omega)]
      refine ⟨vt, fun b3 u3 => ?_⟩
      rw [u3, hI]
      exact hp
    · intro n r x hr hI ih
      obtain ⟨k, hk⟩ : ∃ k, k = 7 - r := ⟨_, rfl⟩
      have hk8 : k < 8 := by omega
      rw [show 8 - r = k + 1 by omega, pk_m1]
      have ih2 := ih _ rfl
      rw [show 8 - (r + 1) = k by omega] at ih2
      have e4m : nI (mmR (wrD b np) (r + 1)) = 4 * x + nI (wrD b np k) := by
        rw [hI, show (4 : Int32) * nI (mmR (wrD b np) r) = nI (4 * mmR (wrD b np) r) from pk_mul 4 _, nI_add, hk]
        rfl
      rw [e4m] at ih2
      have vk : vp_in (nI k) 8 := vp_in_nI hk8 (by omega)
      obtain ⟨q, hq, eq⟩ := col_of h (p := k) hk8
      have ekc : (b 103 k).toNatClampNeg = q := by rw [eq, nI_clamp (by omega)]
      have t3 : wrD b np k = 3 → wp_X6_write_50 (wp_X6_write_55 (fun (z0 : ig_M) (z1 : Int64) (z2 : Int32) (z3 : Int32) => wp_X6_write_5 post n z0 z1 z2 z3) post) post b lb x (nI k) := by
        intro z
        rw [z] at ih2
        exact ⟨fun y => absurd y ne10, fun _ => ih2⟩
      refine ⟨fun z => absurd z (nI_pos (by omega)), fun _ => ?_⟩
      rw [e2, nI_clamp (by omega)]
      refine ⟨fun c => t3 (h3 k ?_), fun c => ⟨fun d => t3 ?_, fun d => ⟨fun e => t3 ?_, fun e => ⟨vk, ?_⟩⟩⟩⟩
      · rw [nI_leI (by omega) (by omega)] at c; exact c
      · unfold wrD
        rw [if_neg]
        intro z
        rw [d] at z
        rcases z.2.1 with y | y <;> exact absurd y (by decide)
      · unfold wrD
        rw [if_neg]
        intro z
        rw [e] at z
        rcases z.2.1 with y | y <;> exact absurd y (by decide)
      · have hkn : k < np := by
          rw [nI_leI (by omega) (by omega)] at c; omega
        have c12 : b 97 9 = 1 ∨ b 97 9 = 2 := by
          rcases f4 with y | y | y | y
          · exact absurd y d
          · exact Or.inl y
          · exact Or.inr y
          · exact absurd y e
        rw [eq, idx3, nI_clamp (by omega)]
        refine ⟨vp_in_nI (by omega) (by omega), fun f => ⟨fun _ => ⟨vk, ?_⟩, fun z => absurd rfl z⟩, fun f => t3 ?_⟩
        · have : wrD b np k = q := by
            unfold wrD
            rw [ekc, if_pos ⟨hkn, c12, f⟩]
          rw [this] at ih2
          rw [nI_clamp (by omega), eq]
          exact ih2
        · unfold wrD
          rw [ekc, if_neg (fun z => f z.2.2)]
  · refine ⟨by simpa [ig_R1, up_app] using h.1, ?_, ?_, ?_, by simpa [ig_R5, ig_wk, up_app] using h.2.2.2.2.1, ?_⟩
    · intro p hp
      simpa [ig_ph, up_app, show ¬ 3 + p = 22 by omega] using h.2.1 p hp
    · intro p q hp hq
      simpa [up_app, show ¬ 12 + p = 22 by omega] using h.2.2.1 p q hp hq
    · intro s hs
      simpa [up_app] using h.2.2.2.1 s hs
    · intro u hu
      by_cases c : u = t
      · simp [up_app, c]
      · simpa [up_app, c] using h.2.2.2.2.2 u (by omega)
  · simp [up_app, h0]
end WRITE
