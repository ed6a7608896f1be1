/-! ===== rounds: all ways; what the calls answer ===== -/
section ZRNE
variable {np ns t w : Nat} {a a' : ig_M} {la : Int64} {b : ig_M} {lb : Int64}
theorem x_anew (h : ig_Q np ns t w a la b lb) (h0 : ¬ ns = 0) (post : Int32 → ig_M → Int64 → Prop) (hp : post (rdV b np ns) (fcA b np ns a) la) : wp_X4_shortestOfAll a la post := by
  have hns := Q_ns h
  unfold wp_X4_shortestOfAll
  rw [Q_a4 h]
  have hz : ¬ nI ns = 0 := fun z => h0 ((nI_eq (a := ns) (b := 0) (by omega) (by omega)).mp z)
  have hc : ∀ i j, cN b np i j ≤ 20 := fun i j => (cN_eq h i j).2
  refine ⟨fun _ => x_findCh h _ ?_, fun z => absurd z hz⟩
  obtain ⟨a', ea⟩ : ∃ a', a' = fcA b np ns a := ⟨_, rfl⟩
  rw [← ea] at hp ⊢
  have hf : ∀ i, ¬ (26 ≤ i ∧ i < 32) → a' i = a i := fun i hi => by rw [ea]; exact fc_off hns hi
  have hch : ∀ i j, i < ns → j < ns → a' (26 + i) j = chv b np i j := fun i j hi hj => by rw [ea]; exact fcO_at b np ns ns a i j hi hj
  have hf2 : ∀ i, ¬ (26 ≤ i ∧ i < 97) → a' i = a i := fun i hi => hf i (by omega)
  have hch2 : ∀ i j, i < ns → j < ns → a' (26 + i) j = nI (cN b np i j) := fun i j hi hj => by rw [hch i j hi hj]; exact (cN_eq h i j).1
  have hQ : ig_Q np ns t w a' la b lb := Q_scr h hf2 (fun _ _ => rfl)
  have e14 := Q_a4 hQ
  have h2 : 1 < 2 ^ ns := Nat.one_lt_two_pow h0
  have hr1 := rk_one (n := ns) (by omega)
  obtain ⟨E, hE⟩ : ∃ E, E = if ns = 1 then 2 else ns := ⟨_, rfl⟩
  have hE1 : 2 ≤ E ∧ ns ≤ E ∧ E ≤ 6 ∧ facN (E - 1) = facN (ns - 1) := by
    by_cases e : ns = 1
    · rw [if_pos e] at hE; subst e; subst hE; exact ⟨by omega, by omega, by omega, rfl⟩
    · rw [if_neg e] at hE; subst hE; exact ⟨by omega, by omega, by omega, rfl⟩
  refine pk_loop (σ := Nat) (fun n k s => wp_X4_shortestOfAll_20 post n a' la (nI s) (nI k)) (fun k s => 2 ≤ k ∧ s = facN (k - 1)) E 2 1 hE1.1 ⟨Nat.le_refl _, rfl⟩ ?_ ?_
  · intro n s hI
    refine ⟨fun _ => ?_, fun z => absurd (by rw [e14]; exact nI_le hE1.2.1 (by omega)) z⟩
    have hs : s = facN (ns - 1) := by rw [hI.2]; exact hE1.2.2.2
    have hfac : ∀ m, m < 6 → facN m ≤ 720 := by decide
    have hsb := hfac (ns - 1) (by omega)
    rw [← hs] at hsb
    have hcm : mnN (fun _ => false) (cwF (cN b np) ns (ns - 1) 1 0) s = hV (cN b np) ns 1 0 := by rw [hs]; exact cw_min hc hns h2 (by omega)
    refine fold_loop (fun n k m => wp_X4_shortestOfAll_46 post n a' la (nI s) (nI m) (nI k)) (mnF (fun _ => false) (cwF (cN b np) ns (ns - 1) 1 0)) s 1000000 ?_ ?_
    · intro n
      refine ⟨fun _ => w_sog hQ _ ?_, fun z => absurd (le_self s) z⟩
      have e5 : foldN (mnF (fun _ => false) (cwF (cN b np) ns (ns - 1) 1 0)) s 1000000 = hV (cN b np) ns 1 0 := hcm
      rw [e5, nI_add]
      have e : rdV b np ns = nI (smN (lgN b np) ns + hV (cN b np) ns 1 0) := if_neg h0
      rw [← e]
      exact hp
    · intro n k hk ih
      have hm : foldN (mnF (fun _ => false) (cwF (cN b np) ns (ns - 1) 1 0)) k 1000000 ≤ 1000000 := mn_big _ _ k
      generalize foldN _ k _ = m at hm ih ⊢
      refine ⟨fun z => absurd z (nle_of hk (by omega)), fun _ => ?_⟩
      unfold wp_X4_secondsOfWay
      rw [e14, show nI ns - 1 = nI (ns - 1) from pk_sub (a := ns) (b := 1) (by omega)]
      refine w_way (c := cN b np) e14 hns (by omega) hch2 _ (ns - 1) 1 0 0 k h2 (by omega) (by omega) (by omega) ?_
      rw [Nat.zero_add, nI_1]
      have hcb : ∀ r V x v, cwF (cN b np) ns r V x v ≤ 20 * (r + 1) := by
        intro r
        induction r with
        | zero => intro V x v; exact hc x 0
        | succ r ih =>
          intro V x v
          have h1 := ih (V ||| 2 ^ (stl V ns (v % (r + 1)))) (stl V ns (v % (r + 1))) (v / (r + 1))
          have h2 := hc x (stl V ns (v % (r + 1)))
          show cN b np x _ + cwF (cN b np) ns r _ _ _ ≤ _
          omega
      have hb := hcb (ns - 1) 1 0 k
      rw [nI_min (by omega) (by omega)]
      exact ih
  · intro n k s hk hI ih
    have hkn : k < ns := by
      by_cases e : ns = 1
      · rw [if_pos e] at hE; have := hI.1; omega
      · rw [if_neg e] at hE; omega
    refine ⟨fun z => absurd (by rw [e14] at z; exact z) (nle_of hkn (by omega)), fun _ => ?_⟩
    rw [pk_mul, nI_1]
    refine ih (s * k) ⟨by have := hI.1; omega, ?_⟩
    obtain ⟨u, rfl⟩ : ∃ u, k = u + 1 := ⟨k - 1, by have := hI.1; omega⟩
    rw [hI.2]
    show facN u * (u + 1) = (u + 1) * facN u
    exact Nat.mul_comm _ _
theorem z_scr (h : zQ np ns t w a la b) (ha : ∀ i, ¬ (26 ≤ i ∧ i < 97) → a' i = a i) : zQ np ns t w a' la b := by
  obtain ⟨hQ, hS, hD, hK⟩ := h
  have hnp := Q_np hQ
  have hns := Q_ns hQ
  refine ⟨Q_scr hQ ha (fun _ _ => rfl), zS_congr hS (fun p _ => by rw [ha _ (by omega)]) hnp hns (fun p q _ _ => by rw [ha _ (by omega)]) (fun s _ => by rw [ha _ (by omega)]), zD_congr hD (by rw [ha _ (by omega)]) (by rw [ha _ (by omega)]) (fun p _ => by rw [ha _ (by omega)]) (fun p _ => by rw [ha _ (by omega)]) (fun p q _ _ => by rw [ha _ (by omega)]) (fun u _ => by rw [ha _ (by omega)]), ?_⟩
  unfold zK
  rw [ha 23 (by omega)]
  exact hK
theorem zM_scr (h : zM a) (ha : ∀ i, ¬ (26 ≤ i ∧ i < 97) → a' i = a i) : zM a' := by
  unfold zM
  rw [ha 12 (by omega), ha 14 (by omega)]
  exact h
theorem rd_rng (h : ig_Q np ns t w a la b lb) (hns0 : 0 < ns) : rdV b np ns = nI (smN (lgN b np) ns + hV (cN b np) ns 1 0) ∧ smN (lgN b np) ns + hV (cN b np) ns 1 0 ≤ 400 := by
  have hns := Q_ns h
  refine ⟨if_neg (by omega), ?_⟩
  have h1 := smN_le (l := lgN b np) (M := 30) ns (fun i _ => (lgN_eq h i).2)
  have h2 := hV_bound (fun i j => (cN_eq h i j).2) hns 1 0
  omega
theorem it_lt (h : ig_Q np ns t w a la b lb) {p : Nat} (hp : p < ns) : itN (cN b np) ns p 1 0 < ns := by
  have hns := Q_ns h
  have hc : ∀ i j, cN b np i j ≤ 20 := fun i j => (cN_eq h i j).2
  have key : ∀ r V x, x < ns → r ≤ rkN V ns → itN (cN b np) ns r V x < ns := by
    intro r
    induction r with
    | zero => exact fun V x hx _ => hx
    | succ r ih =>
      intro V x hx hr
      obtain ⟨g1, g2, _, _⟩ := gst_spec (c := cN b np) (x := x) hc hns (show ¬ rkN V ns = 0 by omega)
      have a3 := rk_or g2 ns g1
      exact ih _ _ g1 (by omega)
  have hr1 := rk_one (n := ns) (by omega)
  exact key p 1 0 (by omega) (by omega)
theorem d_round (hI : zI a la) : zOut (fun post => wp_X5_round a la (fun r1 a2 la3 => post r1 a2 la3)) a la := by
  obtain ⟨np, ns, t, b, h4, h3, h, hM⟩ := hI
  obtain ⟨e, hb⟩ := rd_rng h.1 (by omega)
  have hf := (x_ways h.1 (by omega)).1
  exact ⟨rdV b np ns, fwA b np ns a, la, fun post hp => x_short h.1 (by omega) _ hp, ⟨np, ns, t, b, h4, h3, z_scr h hf, zM_scr hM hf⟩, fun z => absurd (e.symm.trans z) (nI_thr (by omega))⟩
theorem d_anew (hI : zI a la) : zOut (fun post => wp_X5_roundAnew a la (fun r1 a2 la3 => post r1 a2 la3)) a la := by
  obtain ⟨np, ns, t, b, h4, h3, h, hM⟩ := hI
  obtain ⟨e, hb⟩ := rd_rng h.1 (by omega)
  have hf : ∀ i, ¬ (26 ≤ i ∧ i < 97) → fcA b np ns a i = a i := fun i hi => fc_off (Q_ns h.1) (by omega)
  exact ⟨rdV b np ns, fcA b np ns a, la, fun post hp => x_anew h.1 (by omega) _ hp, ⟨np, ns, t, b, h4, h3, z_scr h hf, zM_scr hM hf⟩, fun z => absurd (e.symm.trans z) (nI_thr (by omega))⟩
theorem w_inRoundOk (h : ig_Q np ns t w a la b la) {p : Nat} (hp : p < ns) (post : Int32 → ig_M → Int64 → Prop) (px : Nat → Prop) (hpost : post (nI (itN (cN b np) ns p 1 0)) (fwA b np ns a) la) : wp_X5_inRound a la (nI p) post px := by
  have hns := Q_ns h
  have e3 := Q_a4 h
  have g1 := iw_of_nat (p := p) (n := ns) (by omega) hp
  unfold wp_X5_inRound
  rw [w_with, e3, g1]
  exact ⟨fun _ => x_place h hp _ hpost, fun z => absurd z ne10⟩
theorem d_inRound (hI : zI a la) (x1 : Int32) : zOut (wp_L_inRound a la x1) a la := by
  have hI0 := hI
  obtain ⟨np, ns, t, b, h4, h3, h, hM⟩ := hI
  have hns := Q_ns h.1
  have e3 := Q_a4 h.1
  cases g1 : iw x1 0 (nI ns - 1)
  · refine zThrow hI0 (fun post hp => ?_)
    simp [wp_L_inRound, wp_X5_inRound, w_with, e3, g1, hp]
  · obtain ⟨p, hp, rfl⟩ := iw_nat (by omega) g1
    have hf := (x_ways h.1 (by omega)).1
    have hl := it_lt h.1 hp
    exact ⟨_, fwA b np ns a, la, fun post hpost => w_inRoundOk h.1 hp _ _ hpost, ⟨np, ns, t, b, h4, h3, z_scr h hf, zM_scr hM hf⟩, fun z => absurd z (nI_thr (by omega))⟩
end ZRNE
