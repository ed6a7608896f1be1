/-! ===== the law's loop over all calls ===== -/
theorem fin_r {k r : Int32} {lo' : Int64} {b' : ig_M} {P : Prop} (e : b' 97 0 = k) (f : k = 0 → lo' = r.toInt64) (hP : P) : ((b' 97 0 = k → ((¬ k = 0 → P) ∧ (k = 0 → (((lg_cmp lo' r.toInt64) = 0 → P) ∧ (¬ (lg_cmp lo' r.toInt64) = 0 → ((0 : Int32) = 1)))))) ∧ (¬ b' 97 0 = k → ((0 : Int32) = 1))) :=
  ⟨fun _ => ⟨fun _ => hP, fun z => ⟨fun _ => hP, fun y => absurd ((cmp0 _ _).mpr (f z)) y⟩⟩, fun z => absurd e z⟩
theorem fin_v {k : Int32} {b' : ig_M} {P : Prop} (e : b' 97 0 = k) (hP : P) : ((b' 97 0 = k → P) ∧ (¬ b' 97 0 = k → ((0 : Int32) = 1))) := ⟨fun _ => hP, fun z => absurd e z⟩
theorem fin_b {k r : Int32} {lo' : Int64} {b' : ig_M} {P : Prop} (e : b' 97 0 = k) (f : k = 0 → (lo' = if r = 0 then 0 else 1)) (hP : P) : ((b' 97 0 = k → ((¬ k = 0 → P) ∧ (k = 0 → ((r = 0 → (((lg_cmp lo' (0 : Int64)) = 0 → P) ∧ (¬ (lg_cmp lo' (0 : Int64)) = 0 → ((0 : Int32) = 1)))) ∧ (¬ r = 0 → (((lg_cmp lo' (1 : Int64)) = 0 → P) ∧ (¬ (lg_cmp lo' (1 : Int64)) = 0 → ((0 : Int32) = 1)))))))) ∧ (¬ b' 97 0 = k → ((0 : Int32) = 1))) := by
  refine ⟨fun _ => ⟨fun _ => hP, fun z => ⟨fun y => ⟨fun _ => hP, fun u => ?_⟩, fun y => ⟨fun _ => hP, fun u => ?_⟩⟩⟩, fun z => absurd e z⟩
  · have := f z
    rw [if_pos y] at this
    exact absurd ((cmp0 _ _).mpr this) u
  · have := f z
    rw [if_neg y] at this
    exact absurd ((cmp0 _ _).mpr this) u
theorem ig_R0 : ig_RR ig_a0 0 ig_b0 0 := by
  refine ⟨0, 0, 0, ⟨⟨by omega, by omega, by omega⟩, rfl, rfl, rfl, rfl, rfl, rfl, rfl, rfl⟩, ?_, ?_, ?_, ?_, ?_⟩
  · intro p hp
    have e : ig_a0 (3 + p) = fun j => if j = 9 then -1 else 0 := by
      unfold ig_a0
      rw [if_pos (by omega)]
    rw [e]
    have e104 : (-1 : Int32) = ig_b0 104 p := (by decide : ∀ p, p < 8 → (-1 : Int32) = ig_b0 104 p) p hp
    have hb0 : ∀ c, c < 3 → hb 0 (nI c) = false := by decide
    refine ⟨⟨rfl, rfl, rfl, rfl, rfl, rfl, rfl, rfl, rfl, e104, rfl⟩, fun c hc => ?_, Or.inl rfl, ⟨by decide, by decide⟩, ⟨by decide, by decide⟩, Or.inl rfl, ⟨by decide, by decide⟩⟩
    show (0 : Int32) = cond (hb 0 (nI c)) 1 0
    rw [hb0 c hc]
    rfl
  · intro p q hp hq
    have e : ig_a0 (12 + p) = fun _ => 0 := by
      unfold ig_a0
      rw [if_neg (by omega)]
      by_cases z : 12 + p = 23
      · omega
      · rw [if_neg z]
    rw [e]
    exact ⟨rfl, (by decide : (0 : Int32) ≤ 0), (by decide : (0 : Int32) ≤ 20)⟩
  · intro s hs
    rfl
  · refine ⟨rfl, rfl, rfl, Or.inl rfl, Or.inl rfl, Or.inl rfl, ⟨0, by omega, rfl, fun z => ?_⟩, fun _ => rfl⟩
    rcases z with z | z
    · exact absurd z (by decide)
    · exact absurd z (by decide)
  · intro u hu
    exact absurd hu (Nat.not_lt_zero u)
section LAW
variable {xs : Nat → Int32} {Ln : Nat}
set_option maxHeartbeats 4000000 in
theorem law_go (hL : Ln ≤ 2560) : ∀ (n i : Nat) (a : ig_M) (la : Int64) (b : ig_M) (lb lo : Int64), ig_RR a la b lb → i ≤ Ln → Ln < i + 5 * n → wp_L_law_23 xs Ln n a la b lb lo (nI i)
  | 0, i, a, la, b, lb, lo, _, h1, h2 => by omega
  | n + 1, i, a, la, b, lb, lo, hR, h1, h2 => by
    have hL2 : (Int32.ofNat Ln - 5).toInt = (Ln : Int) - 5 := pk_sub_toInt (a := Ln) (b := 5) (by omega) (by omega)
    have hi2 : (nI i).toInt = (i : Int) := nI_toInt (by omega)
    refine ⟨fun _ => rfl, fun hz => ?_⟩
    have h5 : i + 5 ≤ Ln := by
      rw [Int32.lt_iff_toInt_lt, hL2, hi2] at hz
      omega
    have v0 : vp_in (nI i) Ln := vp_in_nI (by omega) (by omega)
    have v1 : vp_in (nI i + 1) Ln := by rw [show nI i + 1 = nI (i + 1) from nI_add i 1]; exact vp_in_nI (by omega) (by omega)
    have v2 : vp_in (nI i + 2) Ln := by rw [show nI i + 2 = nI (i + 2) from nI_add i 2]; exact vp_in_nI (by omega) (by omega)
    have v3 : vp_in (nI i + 3) Ln := by rw [show nI i + 3 = nI (i + 3) from nI_add i 3]; exact vp_in_nI (by omega) (by omega)
    have v4 : vp_in (nI i + 4) Ln := by rw [show nI i + 4 = nI (i + 4) from nI_add i 4]; exact vp_in_nI (by omega) (by omega)
    have hK : ∀ (a : ig_M) (la : Int64) (b : ig_M) (lb lo : Int64), ig_RR a la b lb → wp_L_law_23 xs Ln n a la b lb lo (nI i + 5) := by
      intro a la b lb lo hR
      rw [show nI i + 5 = nI (i + 5) from nI_add i 5]
      exact law_go hL n (i + 5) a la b lb lo hR h5 (by omega)
    obtain ⟨np, ns, t, h⟩ := hR
    refine ⟨v0, fun _ => ?_, fun _ => ⟨fun _ => ?_, fun _ => ⟨fun _ => ?_, fun _ => ⟨fun _ => ?_, fun _ => ⟨fun _ => ?_, fun _ => ⟨fun _ => ?_, fun _ => ⟨fun _ => ?_, fun _ => ⟨fun _ => ?_, fun _ => ⟨fun _ => ?_, fun _ => ⟨fun _ => ?_, fun _ => ⟨fun _ => ?_, fun _ => ⟨fun _ => ?_, fun _ => ⟨fun _ => ?_, fun _ => ⟨fun _ => ?_, fun _ => ⟨fun _ => ?_, fun _ => ⟨fun _ => ?_, fun _ => ⟨fun _ => ?_, fun _ => ⟨fun _ => ?_, fun _ => ⟨fun _ => ?_, fun _ => ⟨fun _ => ?_, fun _ => ⟨fun _ => ?_, fun _ => hK a la b lb lo ⟨np, ns, t, h⟩⟩⟩⟩⟩⟩⟩⟩⟩⟩⟩⟩⟩⟩⟩⟩⟩⟩⟩⟩⟩⟩
    -- phase
    · obtain ⟨k, a', lo', r, b', A, B, e, f, R⟩ := d_phase (lo := lo) h (xs (nI i + 1).toNatClampNeg) (xs (nI i + 2).toNatClampNeg) (xs (nI i + 3).toNatClampNeg)
      exact ⟨v1, v2, v3, A _ ⟨v1, v2, v3, B _ (fin_r e f (hK _ _ _ _ _ R))⟩⟩
    -- meet
    · obtain ⟨k, a', b', A, B, e, R⟩ := d_meet (lo := lo) h (xs (nI i + 1).toNatClampNeg) (xs (nI i + 2).toNatClampNeg) (xs (nI i + 3).toNatClampNeg) (xs (nI i + 4).toNatClampNeg)
      exact ⟨v1, v2, v3, v4, A _ ⟨v1, v2, v3, v4, B _ (fin_v e (hK _ _ _ _ _ R))⟩⟩
    -- stage
    · obtain ⟨k, a', la', lo', r, b', lb', A, B, e, f, R⟩ := d_stage (lo := lo) h (xs (nI i + 1).toNatClampNeg)
      exact ⟨v1, A _ ⟨v1, B _ (fin_r e f (hK _ _ _ _ _ R))⟩⟩
    -- start
    · obtain ⟨k, a', la', lo', b', lb', A, B, e, R⟩ := d_start (lo := lo) h (xs (nI i + 1).toNatClampNeg)
      exact ⟨v1, A _ ⟨v1, B _ (fin_v e (hK _ _ _ _ _ R))⟩⟩
    -- stop
    · obtain ⟨k, a', la', lo', b', lb', A, B, e, R⟩ := d_stop (lo := lo) h
      exact A _ (B _ (fin_v e (hK _ _ _ _ _ R)))
    -- press
    · obtain ⟨k, a', la', lo', r, b', lb', A, B, e, f, R⟩ := d_press (lo := lo) h (xs (nI i + 1).toNatClampNeg)
      exact ⟨v1, A _ ⟨v1, B _ (fin_b e f (hK _ _ _ _ _ R))⟩⟩
    -- arrive
    · obtain ⟨k, a', la', lo', r, b', lb', A, B, e, f, R⟩ := d_arrive (lo := lo) h (xs (nI i + 1).toNatClampNeg) (xs (nI i + 2).toNatClampNeg)
      exact ⟨v1, v2, A _ ⟨v1, v2, B _ (fin_r e f (hK _ _ _ _ _ R))⟩⟩
    -- ask
    · obtain ⟨k, a', la', lo', b', lb', A, B, e, R⟩ := d_ask (lo := lo) h (xs (nI i + 1).toNatClampNeg)
      exact ⟨v1, A _ ⟨v1, B _ (fin_v e (hK _ _ _ _ _ R))⟩⟩
    -- cancel
    · obtain ⟨k, a', la', lo', r, b', lb', A, B, e, f, R⟩ := d_cancel (lo := lo) h
      exact A _ (B _ (fin_r e f (hK _ _ _ _ _ R)))
    -- breaks
    · refine ⟨v1, v2, v3, fun z => ?_, fun z => ?_⟩
      · obtain ⟨k, a', la', lo', r, b', lb', A, B, e, f, R⟩ := d_breaks (lo := lo) h (xs (nI i + 1).toNatClampNeg) (xs (nI i + 2).toNatClampNeg) 0 (Or.inl rfl)
        exact A _ ⟨v1, v2, v3, fun _ => B _ (fin_b e f (hK _ _ _ _ _ R)), fun y => absurd z y⟩
      · obtain ⟨k, a', la', lo', r, b', lb', A, B, e, f, R⟩ := d_breaks (lo := lo) h (xs (nI i + 1).toNatClampNeg) (xs (nI i + 2).toNatClampNeg) 1 (Or.inr rfl)
        exact A _ ⟨v1, v2, v3, fun y => absurd y z, fun _ => B _ (fin_b e f (hK _ _ _ _ _ R))⟩
    -- go
    · obtain ⟨k, a', la', lo', r, b', lb', A, B, e, f, R⟩ := d_go (lo := lo) h (xs (nI i + 1).toNatClampNeg)
      exact ⟨v1, A _ ⟨v1, B _ (fin_r e f (hK _ _ _ _ _ R))⟩⟩
    -- lamp
    · obtain ⟨k, a', la', lo', r, b', lb', A, B, e, f, R⟩ := d_lamp (lo := lo) h (xs (nI i + 1).toNatClampNeg) (xs (nI i + 2).toNatClampNeg)
      exact ⟨v1, v2, A _ ⟨v1, v2, B _ (fin_r e f (hK _ _ _ _ _ R))⟩⟩
    -- ofPhase
    · obtain ⟨k, a', la', lo', r, b', lb', A, B, e, f, R⟩ := d_ofPhase (lo := lo) h (xs (nI i + 1).toNatClampNeg) (xs (nI i + 2).toNatClampNeg)
      exact ⟨v1, v2, A _ ⟨v1, v2, B _ (fin_r e f (hK _ _ _ _ _ R))⟩⟩
    -- of
    · obtain ⟨k, a', la', lo', r, b', lb', A, B, e, f, R⟩ := d_of (lo := lo) h (xs (nI i + 1).toNatClampNeg)
      exact ⟨v1, A _ ⟨v1, B _ (fin_r e f (hK _ _ _ _ _ R))⟩⟩
    -- delay
    · intro b1 e
      have ell : la = lb := h.1.2.2.2.2.2.2.2.2
      refine ⟨fun _ => hK _ _ _ _ _ ⟨np, ns, t, by rw [e]; exact R_thr h 0⟩, fun z => absurd ((cmp0 _ _).mpr ell) z⟩
    -- delayEach
    · exact d_delayEach h (fun b' lb' => wp_L_law_23 xs Ln n a la b' lb' lo (nI i + 5)) (fun b' R => hK _ _ _ _ _ R)
    -- seen
    · obtain ⟨k, a', la', lo', r, b', lb', A, B, e, f, R⟩ := d_seen (lo := lo) h (xs (nI i + 1).toNatClampNeg) (xs (nI i + 2).toNatClampNeg)
      exact ⟨v1, v2, A _ ⟨v1, v2, B _ (fin_r e f (hK _ _ _ _ _ R))⟩⟩
    -- change
    · obtain ⟨k, a', la', lo', r, b', lb', A, B, e, f, R⟩ := d_change (lo := lo) h (xs (nI i + 1).toNatClampNeg) (xs (nI i + 2).toNatClampNeg)
      exact ⟨v1, v2, A _ ⟨v1, v2, B _ (fin_r e f (hK _ _ _ _ _ R))⟩⟩
    -- round
    · exact d_round h (fun r a' la' s b' lb' => (r = s → wp_L_law_23 xs Ln n a' la' b' lb' lo (nI i + 5)) ∧ (¬ r = s → ((0 : Int32) = 1))) (fun v a' b' R => ⟨fun _ => hK _ _ _ _ _ R, fun z => absurd rfl z⟩)
    -- roundAnew
    · exact d_roundAnew h (fun r a' la' s b' lb' => (r = s → wp_L_law_23 xs Ln n a' la' b' lb' lo (nI i + 5)) ∧ (¬ r = s → ((0 : Int32) = 1))) (fun v a' b' R => ⟨fun _ => hK _ _ _ _ _ R, fun z => absurd rfl z⟩)
    -- inRound
    · exact ⟨v1, d_inRound h (xs (nI i + 1).toNatClampNeg) v1 (fun k a' la' lo' r b' lb' => ((b' 97 0 = k → ((¬ k = 0 → wp_L_law_23 xs Ln n a' la' b' lb' lo' (nI i + 5)) ∧ (k = 0 → (((lg_cmp lo' r.toInt64) = 0 → wp_L_law_23 xs Ln n a' la' b' lb' lo' (nI i + 5)) ∧ (¬ (lg_cmp lo' r.toInt64) = 0 → ((0 : Int32) = 1)))))) ∧ (¬ b' 97 0 = k → ((0 : Int32) = 1)))) (fun k a' lo' r b' e f R => fin_r e f (hK _ _ _ _ _ R))⟩
end LAW
theorem ig_pure (xs : Nat → Int32) (Ln : Nat) (hL : Ln ≤ 2560) : wp_L_law_23 xs Ln 1000 ig_a0 0 ig_b0 0 0 0 := law_go hL 1000 0 ig_a0 0 ig_b0 0 0 ig_R0 (Nat.zero_le _) (by omega)
