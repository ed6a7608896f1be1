/-! ===== go: leaving a stage ===== -/
def meB (b : ig_M) (p : Nat) (tr : Bool) : Bool := !decide (b 105 p < b 98 p) && (tr || decide (b 106 p = 0) || !decide (b 105 p < b 99 p))
def neB (b : ig_M) (np : Nat) (L : Int32) (tr : Bool) : Bool := anyN (fun p => hb L (nI p) && !meB b p tr) np
def egA (L : Int32) (k : Nat) (a : ig_M) : ig_M := if hb L (nI k) = true then ig_up (ig_up a (3 + k) 3 2) (3 + k) 9 (a 23 6) else a
def egB (L : Int32) (k : Nat) (b : ig_M) : ig_M := if hb L (nI k) = true then ig_up (ig_up b 103 k 2) 104 k (b 97 11) else b
section LEAVE2
variable {np ns t w : Nat} {a : ig_M} {la : Int64} {b : ig_M} {lb lo : Int64}
theorem Q_eg (L : Int32) (h : ig_Q np ns t w a la b lb) {k : Nat} (hk : k < 8) : ig_Q np ns t w (egA L k a) la (egB L k b) lb := by
  unfold egA egB
  by_cases c : hb L (nI k) = true
  · rw [if_pos c, if_pos c]
    have hph := h.2.1 k hk
    obtain ⟨_, e1, e2, e3, e4, e5, e6, e7, _⟩ := h.1
    refine Q_phase h hk _ _ (fun i hi => by rw [up_row hi, up_row hi]) (fun i j hij => by rw [up_col (by omega), up_col (by omega)]) ?_
    obtain ⟨⟨q0, q1, q2, q3, q4, q5, q6, q7, q8, q9, q10⟩, qb, qc, qd, qe, qf⟩ := hph
    simp [ig_ph, up_app, q0, q1, q2, q3, q4, q5, q6, q7, q8, q9, q10, e5, e6]
    simp [q0, q6, q7, q8, q10] at qd qe qf
    exact ⟨by simpa using qb, qd, qe, qf⟩
  · rw [if_neg c, if_neg c]
    exact h
theorem w_meA {k : Nat} (hph : ig_ph (a (3 + k)) b k) (tr : Bool) (post : Int32 → Prop) : wp_X2_mayEnd a la k (cond tr 1 0) post = post (cond (meB b k tr) 1 0) := by
  obtain ⟨⟨q0, q1, q2, q3, q4, q5, q6, q7, q8, q9, q10⟩, _⟩ := hph
  unfold wp_X2_mayEnd meB
  rw [q0, q1, q4, q5]
  by_cases c1 : b 105 k < b 98 k <;> by_cases c2 : b 106 k = 0 <;> by_cases c3 : b 105 k < b 99 k <;> cases tr <;> simp [c1, c2, c3]
theorem w_mayA (h : ig_Q np ns t w a la b lb) (L : Int32) (tr : Bool) (post : Int32 → Prop) (hp : post (cond (neB b np L tr) 0 1)) : wp_X0_mayEnd a la L (cond tr 1 0) post := by
  have hnp := Q_np h
  have e1 := Q_a1 h
  refine any_loop (fun n k => wp_X0_mayEnd_2 a la post n L (cond tr 1 0) (nI k)) (fun r => post (if r = 0 then 1 else 0)) (fun p => hb L (nI p) && !meB b p tr) np ?_ ?_ ?_
  · intro n hp0
    exact ⟨fun _ => hp0, fun z => absurd (by rw [e1]; exact le_self np) z⟩
  · intro n k hk h1 h2
    refine ⟨fun z => absurd (by rw [e1] at z; exact z) (nle_of hk (by omega)), fun _ => ?_⟩
    rw [w_has, nI_1]
    cases c : hb L (nI k)
    · exact ⟨fun _ => h2 (by rw [c]; rfl), fun z => absurd rfl z⟩
    · refine ⟨fun z => absurd z ne10, fun _ => ⟨vp_in_nI (by omega) (by omega), ?_⟩⟩
      rw [nI_clamp (by omega), w_meA (h.2.1 k (by omega))]
      cases d : meB b k tr
      · exact ⟨fun z => absurd rfl z, fun _ => h1 (by rw [c, d]; rfl)⟩
      · exact ⟨fun _ => h2 (by rw [c, d]; rfl), fun z => absurd z ne10⟩
  · unfold neB at hp
    cases c : anyN (fun p => hb L (nI p) && !meB b p tr) np <;> rw [c] at hp <;> exact hp
theorem w_egA (h : ig_Q np ns t w a la b lb) (L : Int32) (post : ig_M → Int64 → Prop) (hp : post (foldN (egA L) np a) la) : wp_X0_endGreens a la L post := by
  have hQ := Q_fold h (fun k x y hk hq => Q_eg L hq (by have := Q_np h; omega)) (F := egA L) (G := egB L)
  have hnp := Q_np h
  refine fold_loop (fun n k s => wp_X0_endGreens_2 post n s la L (nI k)) (egA L) np a ?_ ?_
  · intro n
    exact ⟨fun _ => hp, fun z => absurd (by rw [Q_a1 (hQ np (Nat.le_refl _))]; exact le_self np) z⟩
  · intro n k hk ih
    refine ⟨fun z => absurd (by rw [Q_a1 (hQ k (by omega))] at z; exact z) (nle_of hk (by omega)), fun _ => ?_⟩
    rw [w_has, nI_clamp (by omega), nI_1]
    generalize foldN (egA L) k a = x at ih ⊢
    unfold egA at ih
    cases c : hb L (nI k)
    · rw [c, if_neg (by decide)] at ih
      exact ⟨fun _ => ih, fun z => absurd rfl z⟩
    · rw [c, if_pos rfl] at ih
      refine ⟨fun z => absurd z ne10, fun _ => ⟨vp_in_nI (by omega) (by omega), fun a1 u1 a2 u2 => ?_⟩⟩
      rw [u2, u1]
      exact ih
theorem w_egB (h : ig_Q np ns t w a la b lb) (L x2 : Int32) (post : ig_M → Int64 → Prop) (hp : post (ig_up (ig_up (foldN (egB L) np b) 97 10 x2) 97 9 1) lb) : ∃ j, wp_X6_leave_158 post j b lb x2 L 1 0 := by
  have hQ := Q_fold h (fun k x y hk hq => Q_eg L hq (by have := Q_np h; omega)) (F := egA L) (G := egB L)
  have hnp := Q_np h
  refine fold_loop (fun n k s => wp_X6_leave_158 post n s lb x2 L 1 (nI k)) (egB L) np b ?_ ?_
  · intro n
    refine ⟨fun _ => ⟨fun z => absurd z ne10, fun _ b31 e31 => ⟨fun z => absurd z ne10, fun _ b33 e33 => ?_⟩⟩, fun z => absurd (by rw [Q_b2 (hQ np (Nat.le_refl _))]; exact le_self np) z⟩
    rw [e33, e31]
    exact hp
  · intro n k hk ih
    refine ⟨fun z => absurd (by rw [Q_b2 (hQ k (by omega))] at z; exact z) (nle_of hk (by omega)), fun _ => ⟨fun z => absurd z ne10, fun _ => ?_⟩⟩
    rw [w_has6, nI_clamp (by omega), nI_1]
    generalize foldN (egB L) k b = x at ih ⊢
    unfold egB at ih
    have v : vp_in (nI k) 8 := vp_in_nI (by omega) (by omega)
    cases c : hb L (nI k)
    · rw [c, if_neg (by decide)] at ih
      exact ⟨fun _ => ih, fun z => absurd rfl z⟩
    · rw [c, if_pos rfl] at ih
      refine ⟨fun z => absurd z ne10, fun _ => ⟨v, fun b1 u1 => ⟨v, fun b2 u2 => ?_⟩⟩⟩
      rw [u2, u1, show ig_up x 103 k 2 97 11 = x 97 11 by rw [up_row (by omega)]]
      exact ih
theorem w_mayB (hnp : np ≤ 8) (e2 : b 97 2 = nI np) (L x1 x2 : Int32) (post : ig_M → Int64 → Prop) (hp : ∃ j, wp_X6_leave_158 post j b lb x2 L (cond (neB b np L (!decide (x1 = -1))) 0 1) 0) : ∃ j, wp_X6_leave_58 post j b lb x1 x2 L 1 0 := by
  refine flag_loop (fun n k v => wp_X6_leave_58 post n b lb x1 x2 L v (nI k)) (fun v => ∃ j, wp_X6_leave_158 post j b lb x2 L v 0) (fun p => hb L (nI p) && !meB b p (!decide (x1 = -1))) 1 0 np ?_ ?_ ?_ hp
  · intro n v _ hpv
    exact ⟨fun _ => hpv, fun z => absurd (by rw [e2]; exact le_self np) z⟩
  · intro n k hk ih
    have v : vp_in (nI k) 8 := vp_in_nI (by omega) (by omega)
    refine ⟨fun z => absurd (by rw [e2] at z; exact z) (nle_of hk (by omega)), fun _ => ⟨v, v, ?_⟩⟩
    rw [nI_clamp (by omega)]
    have fin : ∀ t0 : Int32, t0 = cond (meB b k (!decide (x1 = -1))) 1 0 → wp_X6_leave_121 (fun (z0 : ig_M) (z1 : Int64) (z2 : Int32) (z3 : Int32) (z4 : Int32) (z5 : Int32) (z6 : Int32) => wp_X6_leave_58 post n z0 z1 z2 z3 z4 z5 z6) post b lb x1 x2 L 1 (nI k) t0 := by
      intro t0 ht
      refine ⟨fun z => absurd z ne10, fun _ => ?_⟩
      rw [w_has6, nI_1]
      cases c : hb L (nI k)
      · rw [c] at ih
        exact ⟨fun _ => ih, fun z => absurd rfl z⟩
      · rw [c] at ih
        refine ⟨fun z => absurd z ne10, fun _ => ?_⟩
        cases d : meB b k (!decide (x1 = -1))
        · rw [d] at ih ht
          exact ⟨fun _ => ih, fun z => absurd ht z⟩
        · rw [d] at ih ht
          exact ⟨fun z => absurd (ht.symm.trans z) ne10, fun _ => ih⟩
    unfold meB at fin
    refine ⟨fun c1 => fin 0 (by simp [c1]), fun c1 => ⟨v, fun c2 => fin 1 (by simp [c1, c2]), fun c2 => ⟨v, v, fun c3 => fin 1 (by rw [decide_eq_false (fun y => i_le.mpr y c3 : ¬ b 105 k < b 99 k)]; simp [c1, c2]), fun c3 => ⟨fun c4 => fin 0 (by simp [c1, c2, c4, i_le.mp c3]), fun c4 => fin 1 (by simp [c1, c4])⟩⟩⟩⟩
  · intro n k hk ih
    have v : vp_in (nI k) 8 := vp_in_nI (by omega) (by omega)
    refine ⟨fun z => absurd (by rw [e2] at z; exact z) (nle_of hk (by omega)), fun _ => ⟨v, v, ?_⟩⟩
    have fin : ∀ t0 : Int32, wp_X6_leave_121 (fun (z0 : ig_M) (z1 : Int64) (z2 : Int32) (z3 : Int32) (z4 : Int32) (z5 : Int32) (z6 : Int32) => wp_X6_leave_58 post n z0 z1 z2 z3 z4 z5 z6) post b lb x1 x2 L 0 (nI k) t0 := by
      intro t0
      refine ⟨fun _ => ?_, fun z => absurd rfl z⟩
      rw [nI_1]
      exact ih
    refine ⟨fun c1 => fin 0, fun c1 => ⟨v, fun c2 => fin 1, fun c2 => ⟨v, v, fun c3 => fin 1, fun c3 => ⟨fun c4 => fin 0, fun c4 => fin 1⟩⟩⟩⟩
theorem fold_keep {F : Nat → ig_M → ig_M} {i j : Nat} (h : ∀ k x, F k x i j = x i j) (n : Nat) (x : ig_M) : foldN F n x i j = x i j := by
  induction n with
  | zero => rfl
  | succ n ih => rw [foldN, h, ih]
theorem s_leave (h : ig_PP np ns t w a la b lb) : ∃ a' b', (∀ post : ig_M → Int64 → Prop, post a' la → wp_X0_leaveStage a la post) ∧ (∀ K : ig_M → Int64 → Prop, K b' lb → ((¬ b 97 9 = 2 → K b lb) ∧ (b 97 9 = 2 → wp_X6_leave b lb K))) ∧ ig_PP np ns t w a' la b' lb := by
  obtain ⟨h, h0⟩ := h
  obtain ⟨⟨hnp, hns, ht⟩, e1, e2, e3, e4, e5, e6, e7, e8⟩ := h.1
  obtain ⟨f1, f2, f3, f4, f5, f6, ⟨s, hs, f7, f8⟩, f9⟩ := h.2.2.2.2.1
  by_cases c : b 97 9 = 2
  · have c' : a 23 2 = 2 := by rw [f1]; exact c
    obtain ⟨hsn, h3⟩ := f8 (Or.inr c')
    obtain ⟨v, hv⟩ := ex_tram b ns s
    obtain ⟨u, hu⟩ := ex_fst (fun k => wsB b np s (nxS ns s k)) (ns - 1) (fun k => nI (nxS ns s k))
    obtain ⟨x, hx⟩ : ∃ x : Int32, x = if v = -1 then u else v := ⟨_, rfl⟩
    have hxs : x = -1 ∨ ∃ i, i < ns ∧ x = nI i := by
      by_cases d : v = -1
      · rw [hx, if_pos d]
        rcases isFst_lt hu with q | ⟨i, hi, q⟩
        · exact Or.inl q
        · exact Or.inr ⟨_, Nat.mod_lt _ (by omega), q⟩
      · rw [hx, if_neg d]
        exact tram_lt hsn hv
    have A : ∀ post : ig_M → Int64 → Prop, wp_X0_leaveStage_27 post a la v x → wp_X0_leaveStage a la post := by
      intro post hp
      refine ⟨fun _ => w_tramA h hsn h3 hv _ ⟨fun d => w_demA h hsn h3 hu _ ?_, fun d => ?_⟩, fun z => absurd c' z⟩
      · rw [hx, if_pos d] at hp; exact hp
      · rw [hx, if_neg d] at hp; exact hp
    have B : ∀ post : ig_M → Int64 → Prop, wp_X6_leave_18 post b lb v x → wp_X6_leave b lb post := by
      intro post hp
      refine w_tramB hns e4 hsn f7 hv _ ⟨fun d => w_demB hnp hns e2 e4 hsn f7 hu _ ?_, fun d => ?_⟩
      · rw [hx, if_pos d] at hp; exact hp
      · rw [hx, if_neg d] at hp; exact hp
    rcases hxs with q | ⟨i, hi, q⟩
    · refine ⟨a, b, fun post hp => A post ⟨fun _ => hp, fun z => absurd q z⟩, fun K hK => ⟨fun z => absurd c z, fun _ => B K ⟨fun _ => hK, fun z => absurd q z⟩⟩, h, h0⟩
    · have xn : ¬ x = -1 := by rw [q]; exact nI_neg (by omega)
      by_cases d : i = s
      · have xs : x = nI s := by rw [q, d]
        refine ⟨a, b, fun post hp => A post ⟨fun z => absurd z xn, fun _ => ⟨fun z => absurd (xs.trans h3.symm) z, fun _ => hp⟩⟩, fun K hK => ⟨fun z => absurd c z, fun _ => B K ⟨fun z => absurd z xn, fun _ => ⟨fun z => absurd (xs.trans f7.symm) z, fun _ => hK⟩⟩⟩, h, h0⟩
      · have xs : ¬ x = nI s := fun z => d ((nI_eq (by omega) (by omega)).mp (q.symm.trans z))
        obtain ⟨L, hL⟩ : ∃ L : Int32, L = b 102 s &&& (b 102 i ^^^ (-1)) := ⟨_, rfl⟩
        have A2 : ∀ post : ig_M → Int64 → Prop, wp_X0_leaveStage_77 post a la x L (cond (!decide (v = -1)) 1 0) L → wp_X0_leaveStage_27 post a la v x := by
          intro post hp
          refine ⟨fun z => absurd z xn, fun _ => ⟨fun _ => ?_, fun z => absurd (z.trans h3) xs⟩⟩
          rw [h3, q, w_setOf a la ns s hns hsn e3, w_setOf a la ns i hns hi e3, h.2.2.2.1 s (by omega), h.2.2.2.1 i (by omega), ← hL, ← q]
          refine ⟨fun y => ?_, fun y => ?_⟩
          · simpa [y] using hp
          · simpa [y] using hp
        have B2 : ∀ post : ig_M → Int64 → Prop, (∃ j : Nat, wp_X6_leave_58 post j b lb v x L 1 0) → wp_X6_leave_18 post b lb v x := by
          intro post hp
          refine ⟨fun z => absurd z xn, fun _ => ⟨fun _ => ⟨by rw [f7]; exact vp_in_nI hs (by omega), by rw [q]; exact vp_in_nI (by omega) (by omega), ?_⟩, fun z => absurd (z.trans f7) xs⟩⟩
          rw [f7, nI_clamp (by omega)]
          have qc : x.toNatClampNeg = i := by rw [q]; exact nI_clamp (by omega)
          rw [qc, ← hL]
          exact hp
        cases g : neB b np L (!decide (v = -1))
        · have hQ := Q_fold h (fun k x y hk hq => Q_eg L hq (by omega)) (F := egA L) (G := egB L) np (Nat.le_refl _)
          refine ⟨ig_up (ig_up (foldN (egA L) np a) 23 2 1) 23 3 x, ig_up (ig_up (foldN (egB L) np b) 97 10 x) 97 9 1, fun post hp => A post (A2 post ?_), fun K hK => ⟨fun z => absurd c z, fun _ => B K (B2 K ?_)⟩, ?_, ?_⟩
          · refine w_mayA h L _ _ ?_
            rw [g]
            refine ⟨fun z => absurd z ne10, fun _ => w_egA h L _ ?_⟩
            intro a14 e14 a15 e15
            rw [e15, e14]
            exact hp
          · refine w_mayB hnp e2 L v x K ?_
            rw [g]
            exact w_egB h L x K hK
          · obtain ⟨⟨hnp, hns, ht⟩, e1, e2, e3, e4, e5, e6, e7, e8⟩ := hQ.1
            obtain ⟨f1, f2, f3, f4, f5, f6, _, f9⟩ := hQ.2.2.2.2.1
            refine Q_lights hQ _ _ (fun i hi => by rw [up_row hi, up_row hi]) (fun i hi => by rw [up_row hi, up_row hi]) ?_ ?_
            · simp [ig_R1, up_app, hnp, hns, ht, e1, e2, e3, e4, e5, e6, e7, e8]
            · unfold ig_R5 ig_wk
              simp only [up_app]
              refine ⟨by simp, by simpa using f2, by simpa using f3, by simp, by simpa using f5, by simpa using f6, ⟨i, by omega, by simpa using q, fun _ => ⟨hi, by simpa using q⟩⟩, fun z => absurd (Or.inl (by simp)) z⟩
          · rw [up_col (by omega), up_col (by omega), fold_keep (fun k x => ?_)]
            · exact h0
            · unfold egB; split
              · rw [up_row (by omega), up_row (by omega)]
              · rfl
        · refine ⟨a, b, fun post hp => A post (A2 post ?_), fun K hK => ⟨fun z => absurd c z, fun _ => B K (B2 K ?_)⟩, h, h0⟩
          · refine w_mayA h L _ _ ?_
            rw [g]
            exact ⟨fun _ => hp, fun z => absurd rfl z⟩
          · refine w_mayB hnp e2 L v x K ?_
            rw [g]
            have e206 : wp_X6_leave_206 K b lb x 0 := by
              refine ⟨fun _ b31 e31 => ⟨fun _ b33 e33 => ?_, fun z => absurd rfl z⟩, fun z => absurd rfl z⟩
              rw [e33, up_self, e31, up_self]
              exact hK
            exact ⟨1, fun _ => e206, fun _ => ⟨fun _ => e206, fun z => absurd rfl z⟩⟩
  · have c' : ¬ a 23 2 = 2 := by rw [f1]; exact c
    exact ⟨a, b, fun post hp => ⟨fun z => absurd z c', fun _ => hp⟩, fun K hK => ⟨fun _ => hK, fun z => absurd z c⟩, h, h0⟩
end LEAVE2
