/-! ===== round, roundAnew, inRound, delayEach: both sides ===== -/
theorem rdV_same {b b' : ig_M} (h0 : b' 98 = b 98) (h1 : b' 101 = b 101) (h2 : b' 102 = b 102) (np ns : Nat) : rdV b' np ns = rdV b np ns := by
  have e1 : cN b' np = cN b np := by
    funext i j
    unfold cN
    rw [chv_same h1 h2]
  have e2 : lgN b' np = lgN b np := by
    funext s
    unfold lgN
    rw [h0, h2]
  unfold rdV
  rw [e1, e2]
theorem cN_same {b b' : ig_M} (h1 : b' 101 = b 101) (h2 : b' 102 = b 102) (np : Nat) : cN b' np = cN b np := by
  funext i j
  unfold cN
  rw [chv_same h1 h2]
section DROUND
variable {np ns t : Nat} {a : ig_M} {la : Int64} {b : ig_M} {lb lo : Int64}
theorem w_roundB (h : ig_R np ns t a la b lb) {a' : ig_M} (hf : ∀ i, ¬ (26 ≤ i ∧ i < 97) → a' i = a i) (post : Int32 → ig_M → Int64 → Prop) (hp : ∀ b', ig_RR a' la b' lb → post (rdV b np ns) b' lb) : ∀ b1 : ig_M, b1 = ig_up b 97 0 0 → wp_X6_shortest b1 lb post := by
  intro b1 e
  have h1 : ig_Q np ns t t a' la b1 lb := Q_scr (w := t) (by rw [e]; exact R_thr h 0) hf (fun _ _ => rfl)
  refine w_shortB h1 _ (fun b' hb _ => ?_)
  rw [rdV_same (b := b) (by rw [e, up_row (by omega)]) (by rw [e, up_row (by omega)]) (by rw [e, up_row (by omega)])]
  exact hp b' ⟨np, ns, t, Q_scr (w := t) h1 (fun _ _ => rfl) hb⟩
theorem d_round (h : ig_R np ns t a la b lb) (K : Int32 → ig_M → Int64 → Int32 → ig_M → Int64 → Prop) (hK : ∀ v a' b', ig_RR a' la b' lb → K v a' la v b' lb) : wp_X5_round a la (fun r a' la' => wp_X6_round b lb (fun s b' lb' => K r a' la' s b' lb')) := by
  refine w_shortA (w := t) h _ (fun a' hf => ?_)
  exact w_roundB h hf _ (fun b' hR => hK _ a' b' hR)
theorem d_roundAnew (h : ig_R np ns t a la b lb) (K : Int32 → ig_M → Int64 → Int32 → ig_M → Int64 → Prop) (hK : ∀ v a' b', ig_RR a' la b' lb → K v a' la v b' lb) : wp_X5_roundAnew a la (fun r a' la' => wp_X6_roundAnew b lb (fun s b' lb' => K r a' la' s b' lb')) := by
  refine w_anewA (w := t) h _ (fun a' hf => ?_)
  exact w_roundB h hf _ (fun b' hR => hK _ a' b' hR)
theorem d_inRound (h : ig_R np ns t a la b lb) (x1 : Int32) {V : Prop} (hvv : V) (K : Int32 → ig_M → Int64 → Int64 → Int32 → ig_M → Int64 → Prop) (hK : ∀ (k : Int32) (a' : ig_M) (lo' : Int64) (r : Int32) (b' : ig_M), b' 97 0 = k → (k = 0 → lo' = r.toInt64) → ig_RR a' la b' lb → K k a' la lo' r b' lb) :
    wp_L_inRound a la lo x1 (fun k a' la' lo' => V ∧ wp_X6_inRound b lb x1 (fun r b' lb' => K k a' la' lo' r b' lb')) := by
  have hns := h.1.1.2.1
  have e3 : a 1 4 = nI ns := h.1.2.2.2.1
  have e4 : b 97 7 = nI ns := h.1.2.2.2.2.1
  unfold wp_L_inRound wp_X5_inRound
  rw [w_with, e3]
  cases g : iw x1 0 (nI ns - 1)
  · refine ⟨fun z => absurd rfl z, fun _ => ⟨rfl, hvv, ?_⟩⟩
    unfold wp_X6_inRound wp_X6_inRound_20
    rw [w_in, e4, g]
    refine ⟨fun _ => ?_, fun z => absurd rfl z⟩
    rw [w_well]
    exact ⟨fun z => absurd rfl z, fun _ => hK 1 a lo 0 _ (thr_at b 1) (fun z => absurd z ne10) ⟨np, ns, t, R_thr h 1⟩⟩
  · obtain ⟨p, hpn, rfl⟩ := iw_nat (by omega) g
    refine ⟨fun _ => w_placeA (w := t) h hpn _ (fun a' hf => ⟨hvv, ?_⟩), fun z => absurd z ne10⟩
    unfold wp_X6_inRound wp_X6_inRound_20
    rw [w_in, e4, g]
    refine ⟨fun z => absurd z ne10, fun _ => ?_⟩
    rw [w_well]
    refine ⟨fun _ => ?_, fun z => absurd z ne10⟩
    obtain ⟨b1, e⟩ : ∃ b1, b1 = ig_up b 97 0 0 := ⟨_, rfl⟩
    rw [← e]
    have h1 : ig_Q np ns t t a' la b1 lb := Q_scr (w := t) (by rw [e]; exact R_thr h 0) hf (fun _ _ => rfl)
    refine w_shortB h1 _ (fun b' hb ho => ?_)
    have hsl := smN_le (l := lgN b1 np) (M := 30) ns (fun i _ => (lgN_eq h1 i).2)
    have hVb := hV_bound (c := cN b1 np) (fun i j => (cN_eq h1 i j).2) hns 1 0
    have er : rdV b1 np ns = nI (smN (lgN b1 np) ns + hV (cN b1 np) ns 1 0) := if_neg (by omega)
    rw [er]
    refine ⟨fun _ => ⟨vp_in_nI (by omega) (by omega), ?_⟩, fun z => absurd z (neg_nI (by omega))⟩
    rw [nI_clamp (by omega), ho p hpn, cN_same (b := b) (b' := b1) (by rw [e, up_row (by omega)]) (by rw [e, up_row (by omega)])]
    refine hK 0 a' _ _ b' ?_ (fun _ => rfl) ⟨np, ns, t, Q_scr (w := t) h1 (fun _ _ => rfl) hb⟩
    rw [hb 97 (by omega), e]
    exact thr_at b 0
theorem a32_self (q : UInt32) : alike32 q q = true := by
  unfold alike32
  simp
theorem d_delayEach (h : ig_R np ns t a la b lb) (K : ig_M → Int64 → Prop) (hK : ∀ b', ig_RR a la b' lb → K b' lb) :
    wp_X5_delayEach a la (fun r197 => (∀ r198 : UInt64, alike64 r198 (FP.f2d r197) = true → wp_X6_delayEach b lb (fun r199 b200 lb201 => (∀ r202 : UInt64, alike64 r202 (FP.f2d r199) = true → (((Op.cmpValue (FP.dcmp r198 r202) .l) = 0 → K b200 lb201) ∧ (¬ (Op.cmpValue (FP.dcmp r198 r202) .l) = 0 → (((Op.cmpValue (FP.dcmp r198 r198) .l) = 0 → ((0 : Int32) = 1)) ∧ (¬ (Op.cmpValue (FP.dcmp r198 r198) .l) = 0 → ((¬ (Op.cmpValue (FP.dcmp r202 r202) .l) = 0 → K b200 lb201) ∧ ((Op.cmpValue (FP.dcmp r202 r202) .l) = 0 → ((0 : Int32) = 1))))))))))) := by
  have e7 : a 23 7 = b 97 22 := h.1.2.2.2.2.2.2.2.1
  have ell : la = lb := h.1.2.2.2.2.2.2.2.2
  have k1 := hK _ ⟨np, ns, t, R_thr h 0⟩
  have e22 : ig_up b 97 0 0 97 22 = b 97 22 := by simp [up_app]
  unfold wp_X5_delayEach wp_X6_delayEach
  rw [e7, ell]
  refine ⟨fun z r2 hr2 x hx b1 e => ?_, fun z x hx b1 e => ?_⟩
  · rw [e, e22]
    exact ⟨fun _ r3 hr3 y hy => each_in hr2 hr3 hx hy _ k1, fun z2 => absurd z2 z⟩
  · rw [e, e22]
    exact ⟨fun z2 => absurd z z2, fun _ y hy => each_in (a32_self _) (a32_self _) hx hy _ k1⟩
end DROUND
