/-! ===== rounds: one outcome, the scratch rows told outright ===== -/
def fcI (b : ig_M) (np i j : Nat) (s : ig_M) : ig_M := ig_up s (26 + i) j (chv b np i j)
def fcO (b : ig_M) (np ns i : Nat) (s : ig_M) : ig_M := foldN (fcI b np i) ns s
def fcA (b : ig_M) (np ns : Nat) (a : ig_M) : ig_M := foldN (fcO b np ns) ns a
theorem fcI_row (b : ig_M) (np i : Nat) {q : Nat} (hq : q ≠ 26 + i) : ∀ n (s : ig_M), foldN (fcI b np i) n s q = s q
  | 0, _ => rfl
  | n + 1, s => by
    show ig_up (foldN (fcI b np i) n s) (26 + i) n _ q = s q
    rw [up_row hq, fcI_row b np i hq n s]
theorem fcI_at (b : ig_M) (np i : Nat) : ∀ n (s : ig_M) (j : Nat), foldN (fcI b np i) n s (26 + i) j = if j < n then chv b np i j else s (26 + i) j
  | 0, s, j => by rw [if_neg (Nat.not_lt_zero j)]; rfl
  | n + 1, s, j => by
    show ig_up (foldN (fcI b np i) n s) (26 + i) n (chv b np i n) (26 + i) j = _
    rw [up_app, if_pos rfl]
    by_cases e : j = n
    · rw [if_pos e, if_pos (by omega), e]
    · rw [if_neg e, fcI_at b np i n s j]
      by_cases f : j < n
      · rw [if_pos f, if_pos (by omega)]
      · rw [if_neg f, if_neg (by omega)]
theorem fcO_row (b : ig_M) (np ns : Nat) {q : Nat} : ∀ n (s : ig_M), (∀ i, i < n → q ≠ 26 + i) → foldN (fcO b np ns) n s q = s q
  | 0, _, _ => rfl
  | n + 1, s, h => by
    show foldN (fcI b np n) ns (foldN (fcO b np ns) n s) q = s q
    rw [fcI_row b np n (h n (by omega)), fcO_row b np ns n s (fun i hi => h i (by omega))]
theorem fcO_at (b : ig_M) (np ns : Nat) : ∀ n (s : ig_M) (i j : Nat), i < n → j < ns → foldN (fcO b np ns) n s (26 + i) j = chv b np i j
  | 0, _, i, _, hi, _ => absurd hi (Nat.not_lt_zero i)
  | n + 1, s, i, j, hi, hj => by
    show foldN (fcI b np n) ns (foldN (fcO b np ns) n s) (26 + i) j = _
    by_cases e : i = n
    · subst e
      rw [fcI_at, if_pos hj]
    · rw [fcI_row b np n (by omega), fcO_at b np ns n s i j (by omega) hj]
/-- one set's row; the sets from the largest down, r of them -/
def fwF (c : Nat → Nat → Nat) (ns V x : Nat) (s : ig_M) : ig_M := if V.testBit x = true then ig_up s (33 + V) x (nI (hV c ns V x)) else s
def fwD (c : Nat → Nat → Nat) (ns M : Nat) (a : ig_M) : Nat → ig_M
  | 0 => a
  | r + 1 => foldN (fwF c ns (2 * (M - (r + 1)) + 1)) ns (fwD c ns M a r)
def fwA (b : ig_M) (np ns : Nat) (a : ig_M) : ig_M := fwD (cN b np) ns (2 ^ (ns - 1)) (fcA b np ns a) (2 ^ (ns - 1))
section ZRND
variable {np ns t w : Nat} {a a' : ig_M} {la : Int64} {b : ig_M} {lb : Int64}
theorem x_findCh (h : ig_Q np ns t w a la b lb) (post : ig_M → Int64 → Prop) (hp : post (fcA b np ns a) la) : wp_X4_findChanges a la post := by
  have hns := Q_ns h
  refine fold_loop (fun n k s => wp_X4_findChanges_2 post n s la (nI k)) (fcO b np ns) ns a ?_ ?_
  · intro n
    have e : foldN (fcO b np ns) ns a 1 4 = nI ns := by rw [fcO_row b np ns ns a (fun i hi => by omega)]; exact Q_a4 h
    exact ⟨fun _ => hp, fun z => absurd (by rw [e]; exact le_self ns) z⟩
  · intro n k hk ih
    obtain ⟨S, hS⟩ : ∃ S, S = foldN (fcO b np ns) k a := ⟨_, rfl⟩
    have r0 : ∀ q, ¬ (26 ≤ q ∧ q < 32) → S q = a q := fun q hq => by rw [hS]; exact fcO_row b np ns k a (fun i hi => by omega)
    rw [← hS] at ih ⊢
    have e : S 1 4 = nI ns := by rw [r0 1 (by omega)]; exact Q_a4 h
    refine ⟨fun z => absurd (by rw [e] at z; exact z) (nle_of hk (by omega)), fun _ => ?_⟩
    refine fold_loop (fun m j s => wp_X4_findChanges_15 (fun z0 z1 z2 => wp_X4_findChanges_2 post n z0 z1 z2) post m s la (nI k) (nI j)) (fcI b np k) ns S ?_ ?_
    · intro m
      have e2 : foldN (fcI b np k) ns S 1 4 = nI ns := by rw [fcI_row b np k (by omega)]; exact e
      refine ⟨fun _ => ?_, fun z => absurd (by rw [e2]; exact le_self ns) z⟩
      rw [nI_1]
      exact ih
    · intro m j hj ih2
      obtain ⟨T, hT⟩ : ∃ T, T = foldN (fcI b np k) j S := ⟨_, rfl⟩
      rw [← hT] at ih2 ⊢
      have rT : ∀ q, ¬ (26 ≤ q ∧ q < 32) → T q = a q := fun q hq => by rw [hT, fcI_row b np k (by omega)]; exact r0 q hq
      have e2 : T 1 4 = nI ns := by rw [rT 1 (by omega)]; exact Q_a4 h
      have hQ : ig_Q np ns t w T la b lb := Q_scr h (fun i hi => rT i (by omega)) (fun _ _ => rfl)
      refine ⟨fun z => absurd (by rw [e2] at z; exact z) (nle_of hj (by omega)), fun _ => ⟨vp_in_nI (by omega) (by omega), w_chA hQ hk hj _ ⟨vp_in_nI (by omega) (by omega), fun a6 e6 => ?_⟩⟩⟩
      rw [nI_clamp (by omega), nI_clamp (by omega)] at e6
      rw [nI_1, e6]
      exact ih2
theorem fc_off (hns : ns ≤ 6) {i : Nat} (hi : ¬ (26 ≤ i ∧ i < 32)) : fcA b np ns a i = a i := fcO_row b np ns ns a (fun k hk => by omega)
theorem fwF_row (c : Nat → Nat → Nat) (ns V : Nat) {q : Nat} (hq : q ≠ 33 + V) : ∀ n (s : ig_M), foldN (fwF c ns V) n s q = s q
  | 0, _ => rfl
  | n + 1, s => by
    show fwF c ns V n (foldN (fwF c ns V) n s) q = s q
    unfold fwF
    split
    · rw [up_row hq]; exact fwF_row c ns V hq n s
    · exact fwF_row c ns V hq n s
theorem x_ways (h : ig_Q np ns t w a la b lb) (hns0 : 0 < ns) : (∀ i, ¬ (26 ≤ i ∧ i < 97) → fwA b np ns a i = a i) ∧ ∀ post : ig_M → Int64 → Prop, ((∀ i j, i < ns → j < ns → fwA b np ns a (26 + i) j = nI (cN b np i j)) → (∀ V x, V < 2 ^ ns → V.testBit 0 = true → x < ns → V.testBit x = true → fwA b np ns a (33 + V) x = nI (hV (cN b np) ns V x)) → post (fwA b np ns a) la) → wp_X4_findWaysHome a la post := by
  have hns := Q_ns h
  have h6 := pow6 hns
  have hc : ∀ i j, cN b np i j ≤ 20 := fun i j => (cN_eq h i j).2
  obtain ⟨M, hMd⟩ : ∃ M, M = 2 ^ (ns - 1) := ⟨_, rfl⟩
  have hM : 2 ^ ns = 2 * M := by rw [hMd, ← Nat.pow_succ']; congr 1; omega
  have hM0 : 0 < M := by have := Nat.two_pow_pos ns; omega
  obtain ⟨A1, hA1⟩ : ∃ A1, A1 = fcA b np ns a := ⟨_, rfl⟩
  have hf : ∀ i, ¬ (26 ≤ i ∧ i < 32) → A1 i = a i := fun i hi => by rw [hA1]; exact fc_off hns hi
  have hch : ∀ i j, i < ns → j < ns → A1 (26 + i) j = chv b np i j := fun i j hi hj => by rw [hA1]; exact fcO_at b np ns ns a i j hi hj
  have eF : fwA b np ns a = fwD (cN b np) ns M A1 M := by unfold fwA; rw [← hMd, ← hA1]
  have offD : ∀ r, r ≤ M → ∀ i, ¬ (33 ≤ i ∧ i < 97) → fwD (cN b np) ns M A1 r i = A1 i := by
    intro r
    induction r with
    | zero => exact fun _ _ _ => rfl
    | succ r ih =>
      intro hr i hi
      show foldN (fwF (cN b np) ns (2 * (M - (r + 1)) + 1)) ns (fwD (cN b np) ns M A1 r) i = A1 i
      rw [fwF_row _ _ _ (by omega), ih (by omega) i hi]
  refine ⟨fun i hi => by rw [eF, offD M (Nat.le_refl _) i (by omega)]; exact hf i (by omega), fun post hp => ?_⟩
  rw [eF] at hp
  unfold wp_X4_findWaysHome
  refine x_findCh h _ ?_
  rw [← hA1]
  have e14 : A1 1 4 = nI ns := by rw [hf 1 (by omega)]; exact Q_a4 h
  have e1 : (1 : Int32) <<< (nI ns &&& 31) - 1 = nI (2 ^ ns - 1) := by rw [sh_V ns (by omega)]; exact pk_sub (a := 2 ^ ns) (b := 1) (by omega)
  have e2 : nI (2 ^ ns - 1) = nI (2 * M) - 1 := by rw [hM]; exact (pk_sub (a := 2 * M) (b := 1) (by omega)).symm
  rw [e14, e1]
  have key : wp_X4_findWaysHome_18 post (M + 1) A1 la (nI (2 ^ ns - 1)) (nI (2 * M) - 1) := by
    refine pk_loopD (σ := ig_M) (fun n m s => wp_X4_findWaysHome_18 post n s la (nI (2 ^ ns - 1)) (nI (2 * m) - 1)) (fun m s => m ≤ M ∧ (∀ i, ¬ (26 ≤ i ∧ i < 97) → s i = a i) ∧ (∀ i j, i < ns → j < ns → s (26 + i) j = nI (cN b np i j)) ∧ (∀ V x, 2 * m ≤ V → V < 2 ^ ns → V.testBit 0 = true → x < ns → V.testBit x = true → s (33 + V) x = nI (hV (cN b np) ns V x)) ∧ s = fwD (cN b np) ns M A1 (M - m)) ?_ ?_ M A1 ⟨Nat.le_refl _, fun i hi => hf i (by omega), fun i j hi hj => by rw [hch i j hi hj]; exact (cN_eq h i j).1, fun V x v1 v2 => by omega, by rw [Nat.sub_self]; rfl⟩
    · intro n s hI
      have z : nI (2 * 0) - 1 ≤ 0 := by decide
      have es := hI.2.2.2.2
      rw [Nat.sub_zero] at es
      refine ⟨fun _ => ?_, fun y => absurd z y⟩
      rw [← es] at hp
      exact hp hI.2.2.1 (fun V x v1 v2 v3 v4 => hI.2.2.2.1 V x (by omega) v1 v2 v3 v4)
    · intro n m s hI ih
      have ev : nI (2 * (m + 1)) - 1 = nI (2 * m + 1) := pk_sub (a := 2 * m + 2) (b := 1) (by omega)
      have hm := hI.1
      have hVl : 2 * m + 1 < 2 ^ ns := by omega
      rw [ev]
      refine ⟨fun z => absurd z (nI_ge (a := 0) (b := 2 * m + 1) (by omega) (by omega)), fun _ => ?_⟩
      refine pk_loop (σ := ig_M) (fun j x s => wp_X4_findWaysHome_24 (fun z0 z1 z2 z3 => wp_X4_findWaysHome_18 post n z0 z1 z2 z3) post j s la (nI (2 ^ ns - 1)) (nI (2 * m + 1)) (nI x)) (fun x s => (∀ i, ¬ (26 ≤ i ∧ i < 97) → s i = a i) ∧ (∀ i j, i < ns → j < ns → s (26 + i) j = nI (cN b np i j)) ∧ (∀ V x, 2 * (m + 1) ≤ V → V < 2 ^ ns → V.testBit 0 = true → x < ns → V.testBit x = true → s (33 + V) x = nI (hV (cN b np) ns V x)) ∧ (∀ x', x' < x → (2 * m + 1).testBit x' = true → s (33 + (2 * m + 1)) x' = nI (hV (cN b np) ns (2 * m + 1) x')) ∧ s = foldN (fwF (cN b np) ns (2 * m + 1)) x (fwD (cN b np) ns M A1 (M - (m + 1)))) ns 0 s (Nat.zero_le _) ⟨hI.2.1, hI.2.2.1, hI.2.2.2.1, fun x hx => absurd hx (Nat.not_lt_zero x), hI.2.2.2.2⟩ ?_ ?_
      · intro j s hI
        have e14 : s 1 4 = nI ns := by rw [hI.1 1 (by omega)]; exact Q_a4 h
        refine ⟨fun _ => ?_, fun z => absurd (by rw [e14]; exact le_self ns) z⟩
        rw [nI_m2]
        refine ih s ⟨by omega, hI.1, hI.2.1, fun V x v1 v2 v3 v4 v5 => ?_, ?_⟩
        · by_cases c1 : V = 2 * m + 1
          · subst c1; exact hI.2.2.2.1 x v4 v5
          · by_cases c2 : V = 2 * m
            · subst c2; rw [tb_odd] at v3; cases v3
            · exact hI.2.2.1 V x (by omega) v2 v3 v4 v5
        · rw [hI.2.2.2.2, show M - m = (M - (m + 1)) + 1 by omega]
          show _ = foldN (fwF (cN b np) ns (2 * (M - ((M - (m + 1)) + 1)) + 1)) ns (fwD (cN b np) ns M A1 (M - (m + 1)))
          rw [show M - ((M - (m + 1)) + 1) = m by omega]
      · intro j x s hx hI ih2
        have e14 : s 1 4 = nI ns := by rw [hI.1 1 (by omega)]; exact Q_a4 h
        refine ⟨fun z => absurd (by rw [e14] at z; exact z) (nle_of hx (by omega)), fun _ => ?_⟩
        rw [w_has, hb_V (2 * m + 1) (by omega) x (by omega), nI_1]
        cases d : (2 * m + 1).testBit x
        · refine ⟨fun _ => ih2 s ⟨hI.1, hI.2.1, hI.2.2.1, fun x' hx' hb => ?_, ?_⟩, fun z => absurd rfl z⟩
          · by_cases e : x' = x
            · subst e; rw [d] at hb; cases hb
            · exact hI.2.2.2.1 x' (by omega) hb
          · show s = fwF (cN b np) ns (2 * m + 1) x (foldN (fwF (cN b np) ns (2 * m + 1)) x (fwD (cN b np) ns M A1 (M - (m + 1))))
            unfold fwF
            rw [d, if_neg (by decide)]
            exact hI.2.2.2.2
        · have fin : wp_X4_findWaysHome_72 (fun z0 z1 z2 z3 z4 => wp_X4_findWaysHome_24 (fun z0 z1 z2 z3 => wp_X4_findWaysHome_18 post n z0 z1 z2 z3) post j z0 z1 z2 z3 z4) post s la (nI (2 ^ ns - 1)) (nI (2 * m + 1)) (nI x) (nI (hV (cN b np) ns (2 * m + 1) x)) (nI x) (nI (2 * m + 1)).toNatClampNeg := by
            refine ⟨vp_in_nI (by omega) (by omega), fun a13 e13 => ?_⟩
            rw [nI_clamp (by omega), nI_clamp (by omega)] at e13
            rw [nI_1, e13]
            refine ih2 _ ⟨fun i hi => by rw [up_row (by omega)]; exact hI.1 i hi, fun i j hi hj => by rw [up_row (by omega)]; exact hI.2.1 i j hi hj, fun V x' v1 v2 v3 v4 v5 => by rw [up_row (by omega)]; exact hI.2.2.1 V x' v1 v2 v3 v4 v5, fun x' hx' hb => ?_, ?_⟩
            · rw [up_app, if_pos rfl]
              by_cases e : x' = x
              · rw [if_pos e, e]
              · rw [if_neg e]; exact hI.2.2.2.1 x' (by omega) hb
            · show _ = fwF (cN b np) ns (2 * m + 1) x (foldN (fwF (cN b np) ns (2 * m + 1)) x (fwD (cN b np) ns M A1 (M - (m + 1))))
              unfold fwF
              rw [d, if_pos rfl]
              exact congrArg (fun s => ig_up s (33 + (2 * m + 1)) x (nI (hV (cN b np) ns (2 * m + 1) x))) hI.2.2.2.2
          refine ⟨fun z => absurd z ne10, fun _ => ⟨vp_in_nI (by omega) (by omega), fun z => ?_, fun z => ?_⟩⟩
          · have hr : ¬ rkN (2 * m + 1) ns = 0 := fun y => z (by rw [full_iff hVl y])
            refine w_lh e14 hns hc hVl hx hI.2.1 (fun i hi hti => ?_) hr _ fin
            exact hI.2.2.1 _ i (by have := lt_or hti; omega) (or_lt hVl hi) (tb_keep (tb_odd1 m)) hi (tb_self _ _)
          · have hz : 2 * m + 1 = 2 ^ ns - 1 := (nI_eq (by omega) (by omega)).mp z
            have hr : rkN (2 * m + 1) ns = 0 := by rw [hz]; exact rk_all ns
            refine ⟨vp_in_nI (by omega) (by omega), vin_0_6, ?_⟩
            have e0 : s (26 + x) 0 = nI (hV (cN b np) ns (2 * m + 1) x) := by rw [hV_full hr]; exact hI.2.1 x 0 hx hns0
            rw [nI_clamp (show x < 2 ^ 31 by omega), show (0 : Int32).toNatClampNeg = 0 by decide, e0]
            rw [nI_clamp (show 2 * m + 1 < 2 ^ 31 by omega)] at fin ⊢
            exact fin
  rw [← e2] at key
  exact ⟨M + 1, key⟩
theorem x_short (h : ig_Q np ns t w a la b lb) (hns0 : 0 < ns) (post : Int32 → ig_M → Int64 → Prop) (hp : post (rdV b np ns) (fwA b np ns a) la) : wp_X4_shortest a la post := by
  have hns := Q_ns h
  obtain ⟨hf, hw⟩ := x_ways h hns0
  have hz : ¬ nI ns = 0 := fun z => absurd ((nI_eq (a := ns) (b := 0) (by omega) (by omega)).mp z) (by omega)
  unfold wp_X4_shortest
  rw [Q_a4 h]
  refine ⟨fun _ => hw _ (fun hch hho => ?_), fun z => absurd z hz⟩
  refine w_sog (Q_scr h hf (fun _ _ => rfl)) _ ⟨vin_1_64, vin_0_6, ?_⟩
  have e1 : (1 : Int32).toNatClampNeg = 1 := by decide
  have e00 : (0 : Int32).toNatClampNeg = 0 := by decide
  have h2 : 1 < 2 ^ ns := Nat.one_lt_two_pow (by omega)
  rw [e1, e00, hho 1 0 h2 (by decide) hns0 (by decide), nI_add]
  have e : rdV b np ns = nI (smN (lgN b np) ns + hV (cN b np) ns 1 0) := if_neg (by omega)
  rw [← e]
  exact hp
theorem x_place (h : ig_Q np ns t w a la b lb) {p : Nat} (hpn : p < ns) (post : Int32 → ig_M → Int64 → Prop) (hp : post (nI (itN (cN b np) ns p 1 0)) (fwA b np ns a) la) : wp_X4_stageAt a la (nI p) post := by
  have hns := Q_ns h
  have hc : ∀ i j, cN b np i j ≤ 20 := fun i j => (cN_eq h i j).2
  have h2 : 1 < 2 ^ ns := Nat.one_lt_two_pow (by omega)
  have hr1 := rk_one (n := ns) (by omega)
  obtain ⟨hf, hw⟩ := x_ways h (by omega)
  refine hw _ (fun hch hho => ?_)
  have e14 : fwA b np ns a 1 4 = nI ns := by rw [hf 1 (by omega)]; exact Q_a4 h
  exact w_steps e14 hns hc hch hho (by omega) post p 1 0 0 (by omega) (by omega) h2 (by omega) (by decide) (by decide) hp
end ZRND
