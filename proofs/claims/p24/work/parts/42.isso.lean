/-! ===== isSafe, isSo ===== -/
section ZSO
variable {np ns t w : Nat} {a a' : ig_M} {la : Int64} {b : ig_M}
theorem w_safe (h : zQ np ns t t a la b) {p q : Nat} (hp : p < np) (hq : q < np) (hpq : ¬ p = q) (hm : 0 < a (12 + p) q) (post : Int32 → ig_M → Int64 → Prop) (hpost : post 1 a la) : wp_L_isSafe a la (nI p) (nI q) 1 post := by
  have hnp := Q_np h.1
  have hG := h.2.2.1.2.2.2.2.1 p q (by omega) (by omega) hm
  have i0 : iw 0 0 6 = true := by decide
  have fin : wp_L_isSafe_33 post a la 1 (snV b t (nI p) (nI q)) 0 := by
    refine ⟨fun z => absurd rfl z, fun _ => ?_⟩
    rcases seen_safe h (p := p) (q := q) (by omega) (by omega) hm with e | ⟨m, m1, m2, e⟩
    · rw [e]
      exact ⟨fun _ => hpost, fun z => absurd (by decide) z⟩
    · rw [e]
      refine ⟨fun z => absurd z (nI_pos (by omega)), fun _ => ⟨fun z => absurd z (nI_nlt (a := m) (b := 1) m1 (by omega)), fun _ => hpost⟩⟩
  refine w_seenOk h.1 hp hq hpq _ _ ?_
  refine w_ofPhaseOk h.1 hp i0 _ _ ?_
  show (¬ a (3 + p) 3 = 1 → _) ∧ (a (3 + p) 3 = 1 → _)
  refine ⟨fun _ => fin, fun c => w_ofPhaseOk h.1 hq i0 _ _ ?_⟩
  show (¬ a (3 + q) 3 = 1 → _) ∧ (a (3 + q) 3 = 1 → _)
  exact ⟨fun _ => fin, fun d => absurd ⟨c, d⟩ hG⟩
/-- one phase of the first loop -/
theorem so_phase (h : zQ np ns t t a la b) {k : Nat} (hk : k < np) {k113 : ig_M → Int64 → Int32 → Int32 → Int32 → Int32 → Prop} {post : Int32 → ig_M → Int64 → Prop} {x1 : Int32} (hK : k113 a la x1 1 (a 23 2) (nI k + 1)) :
    wp_L_isSo_222 k113 post a la x1 (a 23 2) (nI k) 1 := by
  have hnp := Q_np h.1
  have ht : t ≤ 5000 := h.1.1.1.2.2
  have e5 : a 23 6 = nI t := h.1.1.2.2.2.2.2.1
  have i2 : iw 2 0 4 = true := by decide
  refine ⟨fun z => absurd z ne10, fun _ => w_ofOk i2 _ _ ?_⟩
  show (a 23 6 ≤ 0 → _) ∧ (¬ a 23 6 ≤ 0 → _)
  refine ⟨fun _ => hK, fun c => w_ofOk i2 _ _ ?_⟩
  show wp_X5_lamp a la (nI k) (a 23 6 - 1) _ _
  rw [e5] at c ⊢
  have t0 : 0 < t := by
    apply Classical.byContradiction
    intro z
    have : t = 0 := by omega
    subst this
    exact c (by decide)
  rw [show nI t - 1 = nI (t - 1) from pk_sub (a := t) (b := 1) (by omega)]
  refine w_lampOk h.1 hk (by omega) _ _ ?_
  obtain ⟨j, hj, e⟩ := pk_andE (a 22 (t - 1) >>> ((2 * nI k) &&& 31)) (m := 3) 2 (by decide)
  have el : zLg a (t - 1) k = nI j := e
  rw [el]
  exact ⟨fun z => absurd z (nI_pos (by omega)), fun _ => ⟨fun z => absurd z (nI_ge (a := j) (b := 4) (by omega) (by omega)), fun _ => hK⟩⟩
theorem so_147 (h : zQ np ns t t a la b) {k : Nat} (hk : k < np) {k221 : ig_M → Int64 → Int32 → Int32 → Int32 → Prop} {k222 : ig_M → Int64 → Int32 → Int32 → Int32 → Int32 → Prop} {post : Int32 → ig_M → Int64 → Prop} {x1 x3 : Int32} (hK : k222 a la x1 x3 (nI k) 1) :
    wp_L_isSo_147 k221 k222 post a la x1 x3 (nI k) (a (3 + k) 3) := by
  have hnp := Q_np h.1
  have hph := h.1.2.1 k (by omega)
  have i1 : iw 1 0 6 = true := by decide
  have i2 : iw 2 0 6 = true := by decide
  have i3 : iw 3 0 6 = true := by decide
  have i4 : iw 4 0 6 = true := by decide
  have i5 : iw 5 0 6 = true := by decide
  have i6 : iw 6 0 6 = true := by decide
  have s207 : wp_L_isSo_207 k221 k222 post a la x1 x3 (nI k) := by
    refine w_ofPhaseOk h.1 hk i3 _ _ ?_
    show (a (3 + k) 6 < 0 → _) ∧ (¬ a (3 + k) 6 < 0 → _)
    exact ⟨fun z => absurd hph.2.2.2.1.1 (i_le.mpr z), fun _ => hK⟩
  have s173 : wp_L_isSo_173 k221 k222 post a la x1 x3 (nI k) (a (3 + k) 3) := by
    refine w_ofPhaseOk h.1 hk i5 _ _ (w_ofPhaseOk h.1 hk i4 _ _ ?_)
    show (a (3 + k) 8 < a (3 + k) 7 → _) ∧ (¬ a (3 + k) 8 < a (3 + k) 7 → _)
    refine ⟨fun z => absurd hph.2.2.2.2.1.1 (i_le.mpr z), fun _ => ⟨fun _ => s207, fun c => w_ofPhaseOk h.1 hk i6 _ _ ?_⟩⟩
    have hd : dmB b k = false := by
      unfold dmB
      rw [← hph.1.2.2.2.1, decide_eq_true c]
      rfl
    rw [hd]
    show (¬ (0 : Int32) = 0 → _) ∧ ((0 : Int32) = 0 → _)
    exact ⟨fun z => absurd rfl z, fun _ => s207⟩
  refine ⟨fun _ => s173, fun c => w_ofPhaseOk h.1 hk i1 _ _ ?_⟩
  show (¬ (if a (3 + k) 3 = 1 then a (3 + k) 4 else 0) = 0 → _) ∧ ((if a (3 + k) 3 = 1 then a (3 + k) 4 else 0) = 0 → _)
  rw [if_neg c]
  refine ⟨fun z => absurd rfl z, fun _ => w_ofPhaseOk h.1 hk i2 _ _ ?_⟩
  show (¬ (if a (3 + k) 3 = 1 then a (3 + k) 5 else 0) = 0 → _) ∧ ((if a (3 + k) 3 = 1 then a (3 + k) 5 else 0) = 0 → _)
  rw [if_neg c]
  exact ⟨fun z => absurd rfl z, fun _ => s173⟩
theorem so_113 (h : zQ np ns t t a la b) (hnp4 : 4 ≤ np) {post : Int32 → ig_M → Int64 → Prop} {x1 : Int32} (hK : ∃ j : Nat, j ≤ 10 ∧ wp_L_isSo_279 post j a la x1 1 0 0) : ∀ n k : Nat, k + n = 4 → wp_L_isSo_113 post (n + 1) a la x1 1 (a 23 2) (nI k)
  | 0, k, hk => by
    have e : k = 4 := by omega
    subst e
    exact ⟨fun _ => hK, fun z => absurd (le_self 4) z⟩
  | n + 1, k, hk => by
    have ih := so_113 h hnp4 hK n (k + 1) (by omega)
    rw [← nI_1] at ih
    have i0 : iw 0 0 6 = true := by decide
    have g222 := so_phase h (k := k) (by omega) (post := post) (x1 := x1) (k113 := fun z0 z1 z2 z3 z4 z5 => wp_L_isSo_113 post (n + 1) z0 z1 z2 z3 z4 z5) ih
    refine ⟨fun z => absurd z (nle_of (i := k) (n := 4) (by omega) (by omega)), fun _ => ⟨fun z => absurd z ne10, fun _ => w_ofPhaseOk h.1 (by omega) i0 _ _ ?_⟩⟩
    show (a 23 2 = 1 → _) ∧ (¬ a 23 2 = 1 → (a 23 2 = 2 → _) ∧ (¬ a 23 2 = 2 → (¬ a (3 + k) 3 = 0 → _) ∧ (a (3 + k) 3 = 0 → _)))
    refine ⟨fun _ => so_147 h (by omega) g222, fun c1 => ⟨fun _ => so_147 h (by omega) g222, fun c2 => ⟨fun z => absurd (h.2.2.1.1 (fun y => y.elim c1 c2) k (by omega)) z, fun _ => so_147 h (by omega) g222⟩⟩⟩
/-- the round's last loop and the end -/
theorem so_317 (hns3 : 3 ≤ ns) (b : ig_M) {post : Int32 → ig_M → Int64 → Prop} {x1 : Int32} (hpost : ∀ a' la', post 1 a' la') : ∀ (n k : Nat) (a : ig_M), k + n = ns → zQ np ns t t a la b → wp_L_isSo_317 post (n + 1) a la x1 1 (nI ns) (nI (2 ^ ns - 1)) (nI (suN (cN b np) ns k)) (nI k)
  | 0, k, a, hk, h => by
    have e : k = ns := by omega
    subst e
    have hns := Q_ns h.1
    have hc : ∀ i j, cN b np i j ≤ 20 := fun i j => (cN_eq h.1 i j).2
    have e2 : (1 <<< (nI k &&& 31)) - 1 = nI (2 ^ k - 1) := by
      rw [sh_V k (by omega)]
      exact pk_sub (a := 2 ^ k) (b := 1) (Nat.two_pow_pos k)
    refine ⟨fun _ => ⟨fun z => absurd z ne10, fun _ => ⟨fun z => absurd e2.symm z, fun _ => x_short h.1 (by omega) _ ?_⟩⟩, fun z => absurd (le_self k) z⟩
    have hQ2 := z_scr h (x_ways h.1 (by omega)).1
    obtain ⟨er, hr⟩ := rd_rng h.1 (by omega)
    have hge := smN_ge (l := lgN b np) k (fun i hi => lg_ge h hi)
    rw [er, su_all hc hns (by omega)]
    have hV140 := hV_bound hc hns 1 0
    refine ⟨fun z => ?_, fun _ => ?_⟩
    · rw [pk_sub (a := smN (lgN b np) k + hV (cN b np) k 1 0) (b := k) (by omega)] at z
      exact absurd z (nI_nlt (by omega) (by omega))
    · obtain ⟨m, hm, L⟩ := w_low x1 (n := 3) (by omega) (by omega)
      refine L _ (L _ ?_)
      refine w_changeOk hQ2.1 (i := m) (j := m) (by omega) (by omega) _ _ ?_
      rw [chv_self]
      exact ⟨fun z => absurd rfl z, fun _ => hpost _ _⟩
  | n + 1, k, a, hk, h => by
    have hns := Q_ns h.1
    have hf := (x_ways h.1 (by omega)).1
    have h2 := z_scr h hf
    have hf2 := (x_ways h2.1 (by omega)).1
    have h3 := z_scr h2 hf2
    have hmod : (k + 1) % ns < ns := Nat.mod_lt _ (by omega)
    have hl1 := it_lt h.1 (p := k) (by omega)
    have hl2 := it_lt h.1 hmod
    have ih := so_317 hns3 b (x1 := x1) hpost n (k + 1) _ (by omega) h3
    refine ⟨fun z => absurd z (nle_of (i := k) (n := ns) (by omega) (by omega)), fun _ => w_inRoundOk h.1 (by omega) _ _ ⟨nI_ne0 (by omega) (by omega), ?_⟩⟩
    rw [nI_1, pk_rem (a := k + 1) (d := ns) (by omega) (by omega) (by omega)]
    refine w_inRoundOk h2.1 hmod _ _ ?_
    refine w_changeOk h3.1 hl1 hl2 _ _ ?_
    rw [(cN_eq h.1 _ _).1, nI_add]
    exact ih
/-- the loop that counts the stages -/
theorem so_279 (hns3 : 3 ≤ ns) (b : ig_M) {post : Int32 → ig_M → Int64 → Prop} {x1 : Int32} (hpost : ∀ a' la', post 1 a' la') : ∀ (n k : Nat) (a : ig_M), k + n = ns → zQ np ns t t a la b → wp_L_isSo_279 post (n + 1) a la x1 1 (nI k) (nI (stN (cN b np) ns k))
  | 0, k, a, hk, h => by
    have e : k = ns := by omega
    subst e
    have hns := Q_ns h.1
    have hc : ∀ i j, cN b np i j ≤ 20 := fun i j => (cN_eq h.1 i j).2
    have e3 := Q_a4 h.1
    refine ⟨fun z => absurd z ne10, fun _ => ?_⟩
    have g1 : iw (nI k) 0 (nI k - 1) = false := by
      cases g : iw (nI k) 0 (nI k - 1)
      · rfl
      · obtain ⟨p, hp, e⟩ := iw_nat (by omega) g
        have := (nI_eq (by omega) (by omega)).mp e
        omega
    unfold wp_L_inRound wp_X5_inRound
    rw [w_with, e3, g1]
    refine ⟨fun z => absurd rfl z, fun _ => ⟨rfl, fun _ => ⟨k + 1, by omega, ?_⟩, fun z => absurd (by decide) z⟩⟩
    have h1 := so_317 hns3 b (x1 := x1) hpost k 0 a (by omega) h
    rw [st_all hc hns (by omega)]
    exact h1
  | n + 1, k, a, hk, h => by
    have hns := Q_ns h.1
    have hc : ∀ i j, cN b np i j ≤ 20 := fun i j => (cN_eq h.1 i j).2
    have hf := (x_ways h.1 (by omega)).1
    have h2 := z_scr h hf
    have hf2 := (x_ways h2.1 (by omega)).1
    have h3 := z_scr h2 hf2
    have hl1 := it_lt h.1 (p := k) (by omega)
    have h6 := pow6 hns
    have hst := st_lt hc hns (by omega) k (by omega)
    have ih := so_279 hns3 b (x1 := x1) hpost n (k + 1) _ (by omega) h3
    refine ⟨fun z => absurd z ne10, fun _ => ?_⟩
    refine w_inRoundOk h.1 (p := k) (by omega) _ _ ?_
    refine ⟨fun z => absurd z (nI_pos (by omega)), fun _ => w_inRoundOk h2.1 (p := k) (by omega) _ _ ?_⟩
    rw [nI_1, or_V _ (by omega) _ (by omega)]
    exact ih
theorem d_isSo (hI : zI a la) (v : Int32) : wp_L_isSo a la v (fun r _ _ => r = 1) := by
  obtain ⟨np, ns, t, b, h4, h3, h, hM⟩ := hI
  have hns := Q_ns h.1
  have hf := (x_ways h.1 (by omega)).1
  have h1 := z_scr h hf
  have m1 := zM_scr hM hf
  have hf1 : ∀ i, ¬ (26 ≤ i ∧ i < 97) → fcA b np ns (fwA b np ns a) i = fwA b np ns a i := fun i hi => fc_off hns (by omega)
  have h2 := z_scr h1 hf1
  have m2 := zM_scr m1 hf1
  have hf2 := (x_ways h2.1 (by omega)).1
  have hQ := z_scr h2 hf2
  have m3 := zM_scr m2 hf2
  unfold wp_L_isSo wp_X5_round
  refine x_short h.1 (by omega) _ ?_
  unfold wp_X5_roundAnew
  refine x_anew h1.1 (by omega) _ ?_
  refine ⟨fun z => absurd rfl z, fun _ => ?_⟩
  refine w_inRoundOk h2.1 (p := 0) (by omega) _ _ ?_
  refine ⟨fun z => absurd rfl z, fun _ => ?_⟩
  generalize fwA b np ns (fcA b np ns (fwA b np ns a)) = x at hQ m3
  have hd : ¬ lg_cmp la (0 : Int64) < 0 := by
    intro z
    unfold lg_cmp at z
    split at z
    · exact absurd z (by decide)
    · split at z
      · exact absurd z (by decide)
      · rename_i c1 c2
        have h0 := hQ.2.2.2.1
        have z0 : (0 : Int64).toInt = 0 := by decide
        have g1 : ¬ (0 : Int64).toInt < la.toInt := fun y => c1 (Int64.lt_iff_toInt_lt.mpr y)
        exact c2 (Int64.toInt_inj.mp (by omega))
  refine ⟨fun z => absurd z hd, fun _ => ?_⟩
  obtain ⟨q1, q2, q3⟩ := m3
  have sy := hQ.2.1.2.1
  refine ⟨fun z => absurd z ne10, fun _ => ?_⟩
  refine w_safe hQ (p := 0) (q := 1) (by omega) (by omega) (by omega) q1 _ ?_
  refine ⟨fun z => absurd z ne10, fun _ => ?_⟩
  refine w_safe hQ (p := 1) (q := 0) (by omega) (by omega) (by omega) (sy 0 1 (by omega) (by omega) q1).1 _ ?_
  refine ⟨fun z => absurd z ne10, fun _ => ?_⟩
  refine w_safe hQ (p := 0) (q := 2) (by omega) (by omega) (by omega) q2 _ ?_
  refine ⟨fun z => absurd z ne10, fun _ => ?_⟩
  refine w_safe hQ (p := 2) (q := 3) (by omega) (by omega) (by omega) q3 _ ?_
  refine ⟨fun z => absurd z ne10, fun _ => ?_⟩
  refine w_safe hQ (p := 3) (q := 2) (by omega) (by omega) (by omega) (sy 2 3 (by omega) (by omega) q3).1 _ ?_
  refine ⟨fun z => absurd z ne10, fun _ => ?_⟩
  refine w_safe hQ (p := 2) (q := 0) (by omega) (by omega) (by omega) (sy 0 2 (by omega) (by omega) q2).1 _ ?_
  refine ⟨fun z => absurd z ne10, fun _ => ?_⟩
  refine w_ofOk (x := 0) (by decide) _ _ ⟨5, by omega, ?_⟩
  exact so_113 hQ h4 ⟨ns + 1, by omega, so_279 h3 b (fun _ _ => rfl) ns 0 x (by omega) hQ⟩ 4 0 rfl
end ZSO
