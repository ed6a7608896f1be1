/-! ===== go: entering a stage ===== -/
def letsB (b : ig_M) (q : Nat) (d : Int32) : Bool := !decide (b 103 q = 1) && (decide (b 104 q = -1) || !decide (b 97 11 - b 104 q < d))
def nbB (b : ig_M) (np p : Nat) : Bool := anyN (fun q => !decide (b 101 (8 * q + p) ≤ 0) && !letsB b q (b 101 (8 * q + p))) np
def tgA (k : Nat) (a : ig_M) : ig_M := ig_up (ig_up (ig_up (ig_up (ig_up a (3 + k) 3 1) (3 + k) 4 0) (3 + k) 5 (a (3 + k) 2)) (3 + k) 7 0) (3 + k) 10 0
def tgB (k : Nat) (b : ig_M) : ig_M := ig_up (ig_up (ig_up (ig_up (ig_up b 103 k 1) 105 k 0) 106 k (b 100 k)) 108 k 0) 110 k 0
def enF (E : Int32) (np k : Nat) (s : ig_M × ig_M × Int32) : ig_M × ig_M × Int32 :=
  if hb E (nI k) = true ∧ ¬ s.2.1 103 k = 1 then (if nbB s.2.1 np k = true then (s.1, s.2.1, 0) else (tgA k s.1, tgB k s.2.1, s.2.2)) else s
section ENTER
variable {np ns t w : Nat} {a : ig_M} {la : Int64} {b : ig_M} {lb lo : Int64}
theorem Q_tg (h : ig_Q np ns t w a la b lb) {k : Nat} (hk : k < 8) : ig_Q np ns t w (tgA k a) la (tgB k b) lb := by
  have hph := h.2.1 k hk
  unfold tgA tgB
  refine Q_phase h hk _ _ (fun i hi => by rw [up_row hi, up_row hi, up_row hi, up_row hi, up_row hi]) (fun i j hij => by rw [up_col (by omega), up_col (by omega), up_col (by omega), up_col (by omega), up_col (by omega)]) ?_
  obtain ⟨⟨q0, q1, q2, q3, q4, q5, q6, q7, q8, q9, q10⟩, qb, qc, qd, qe, qf⟩ := hph
  simp [ig_ph, up_app, q0, q1, q2, q3, q4, q5, q6, q7, q8, q9, q10]
  simp [q0, q6, q7, q8, q10] at qd qe qf
  exact ⟨by simpa using qb, qd, qe.2, qf.2⟩
theorem w_letsA {k : Nat} (hph : ig_ph (a (3 + k)) b k) (d : Int32) (post : Int32 → Prop) : wp_X2_lets a la k (b 97 11) d post = post (cond (letsB b k d) 1 0) := by
  obtain ⟨⟨q0, q1, q2, q3, q4, q5, q6, q7, q8, q9, q10⟩, _⟩ := hph
  unfold wp_X2_lets letsB
  rw [q3, q9]
  by_cases c1 : b 103 k = 1 <;> by_cases c2 : b 104 k = -1 <;> by_cases c3 : b 97 11 - b 104 k < d <;> simp [c1, c2, c3]
theorem w_nbA (h : ig_Q np ns t w a la b lb) {p : Nat} (hp8 : p < 8) (post : Int32 → Prop) (hp : post (cond (nbB b np p) 0 1)) : wp_X0_mayBegin a la (nI p) post := by
  have hnp := Q_np h
  have e1 := Q_a1 h
  have e5 : a 23 6 = b 97 11 := by rw [h.1.2.2.2.2.2.1, h.1.2.2.2.2.2.2.1]
  have vp : vp_in (nI p) 8 := vp_in_nI hp8 (by omega)
  refine any_loop (fun n k => wp_X0_mayBegin_2 a la post n (nI p) (nI k)) (fun r => post (if r = 0 then 1 else 0)) (fun q => !decide (b 101 (8 * q + p) ≤ 0) && !letsB b q (b 101 (8 * q + p))) np ?_ ?_ ?_
  · intro n hp0
    exact ⟨fun _ => hp0, fun z => absurd (by rw [e1]; exact le_self np) z⟩
  · intro n k hk h1 h2
    have vk : vp_in (nI k) 8 := vp_in_nI (by omega) (by omega)
    refine ⟨fun z => absurd (by rw [e1] at z; exact z) (nle_of hk (by omega)), fun _ => ⟨vk, vp, ?_⟩⟩
    rw [nI_clamp (show k < 2 ^ 31 by omega), nI_clamp (show p < 2 ^ 31 by omega), (h.2.2.1 k p (by omega) hp8).1, e5, nI_1]
    refine ⟨fun c => h2 (by simp [c]), fun c => ⟨vk, ?_⟩⟩
    rw [w_letsA (h.2.1 k (by omega))]
    cases d : letsB b k (b 101 (8 * k + p))
    · exact ⟨fun z => absurd rfl z, fun _ => h1 (by simp [c, d])⟩
    · exact ⟨fun _ => h2 (by simp [d]), fun z => absurd z ne10⟩
  · unfold nbB at hp
    cases c : anyN (fun q => !decide (b 101 (8 * q + p) ≤ 0) && !letsB b q (b 101 (8 * q + p))) np <;> rw [c] at hp <;> exact hp
theorem w_nbB (h : ig_Q np ns t w a la b lb) {p : Nat} (hp8 : p < 8) (post : Int32 → Prop) (hp : post (cond (nbB b np p) 0 1)) : wp_X6_canBegin b lb (nI p) post := by
  have hnp := Q_np h
  have e2 := Q_b2 h
  refine flag_loop (fun n k v => wp_X6_canBegin_4 b lb post n (nI p) v (nI k)) post (fun q => !decide (b 101 (8 * q + p) ≤ 0) && !letsB b q (b 101 (8 * q + p))) 1 0 np ?_ ?_ ?_ hp
  · intro n v hv hpv
    exact ⟨fun _ => ⟨hv.symm, hpv⟩, fun z => absurd (by rw [e2]; exact le_self np) z⟩
  · intro n k hk ih
    have vk : vp_in (nI k) 8 := vp_in_nI (by omega) (by omega)
    refine ⟨fun z => absurd (by rw [e2] at z; exact z) (nle_of hk (by omega)), fun _ => ?_⟩
    rw [idx8, nI_clamp (show 8 * k + p < 2 ^ 31 by omega), nI_clamp (show k < 2 ^ 31 by omega), nI_1]
    have h3 := h.2.2.1 k p (by omega) hp8
    rw [h3.1] at h3
    have z0 : b 101 (8 * k + p) ≤ 0 ↔ b 101 (8 * k + p) = 0 := ⟨fun z => Int32.le_antisymm z h3.2.1, fun z => by rw [z]; exact Int32.le_refl _⟩
    refine ⟨vp_in_nI (by omega) (by omega), fun z => absurd z ne10, fun _ => ⟨fun c => ?_, fun c => ⟨vk, fun c2 => ?_, fun c2 => ⟨vk, fun c3 => ?_, fun c3 => ⟨vk, fun c4 => ?_, fun c4 => ?_⟩⟩⟩⟩⟩
    · rw [decide_eq_true (z0.mpr c)] at ih
      exact ih
    · rw [decide_eq_false (fun y => c (z0.mp y))] at ih
      simp only [letsB, c2, decide_true] at ih
      exact ih
    · rw [decide_eq_false (fun y => c (z0.mp y))] at ih
      simp only [letsB, c2, c3, decide_true, decide_false] at ih
      exact ih
    · rw [decide_eq_false (fun y => c (z0.mp y))] at ih
      simp only [letsB, c2, c3, c4, decide_true, decide_false] at ih
      exact ih
    · rw [decide_eq_false (fun y => c (z0.mp y))] at ih
      simp only [letsB, c2, c3, c4, decide_false] at ih
      exact ih
  · intro n k hk ih
    refine ⟨fun z => absurd (by rw [e2] at z; exact z) (nle_of hk (by omega)), fun _ => ?_⟩
    rw [idx8, nI_1]
    exact ⟨vp_in_nI (by omega) (by omega), fun _ => ih, fun z => absurd rfl z⟩
/-- what holds as the phases of the stage s turn green, one by one -/
def enI (np ns t w : Nat) (la lb : Int64) (b0 : ig_M) (s : ig_M × ig_M × Int32) : Prop := ig_Q np ns t w s.1 la s.2.1 lb ∧ s.2.1 97 = b0 97 ∧ s.2.1 102 = b0 102 ∧ (s.2.2 = 0 ∨ s.2.2 = 1)
theorem enI_step {b0 : ig_M} {s : ig_M × ig_M × Int32} (E : Int32) (h : enI np ns t w la lb b0 s) {k : Nat} (hk : k < 8) : enI np ns t w la lb b0 (enF E np k s) := by
  obtain ⟨h1, h2, h3, h4⟩ := h
  unfold enF
  by_cases c : hb E (nI k) = true ∧ ¬ s.2.1 103 k = 1
  · rw [if_pos c]
    by_cases d : nbB s.2.1 np k = true
    · rw [if_pos d]
      exact ⟨h1, h2, h3, Or.inl rfl⟩
    · rw [if_neg d]
      refine ⟨Q_tg h1 hk, ?_, ?_, h4⟩
      · show tgB k s.2.1 97 = _
        unfold tgB
        rw [up_row (by omega), up_row (by omega), up_row (by omega), up_row (by omega), up_row (by omega)]
        exact h2
      · show tgB k s.2.1 102 = _
        unfold tgB
        rw [up_row (by omega), up_row (by omega), up_row (by omega), up_row (by omega), up_row (by omega)]
        exact h3
  · rw [if_neg c]
    exact ⟨h1, h2, h3, h4⟩
theorem enI_fold {b0 : ig_M} {s : ig_M × ig_M × Int32} (E : Int32) (h : enI np ns t w la lb b0 s) : ∀ n, n ≤ 8 → enI np ns t w la lb b0 (foldN (enF E np) n s)
  | 0, _ => h
  | n + 1, hn => enI_step E (enI_fold E h n (by omega)) (by omega)
theorem s_enter (h : ig_PP np ns t w a la b lb) : ∃ a' b', (∀ post : ig_M → Int64 → Prop, post a' la → wp_X0_enterStage a la post) ∧ (∀ K : ig_M → Int64 → Prop, K b' lb → ((¬ b 97 9 = 1 → K b lb) ∧ (b 97 9 = 1 → wp_X6_begin b lb K))) ∧ ig_PP np ns t w a' la b' lb := by
  obtain ⟨h, h0⟩ := h
  obtain ⟨⟨hnp, hns, ht⟩, e1, e2, e3, e4, e5, e6, e7, e8⟩ := h.1
  obtain ⟨f1, f2, f3, f4, f5, f6, ⟨s, hs, f7, f8⟩, f9⟩ := h.2.2.2.2.1
  by_cases c : b 97 9 = 1
  · have c' : a 23 2 = 1 := by rw [f1]; exact c
    obtain ⟨hsn, h3⟩ := f8 (Or.inl c')
    obtain ⟨E, hE⟩ : ∃ E, E = b 102 s := ⟨_, rfl⟩
    have hI := fun n hn => enI_fold E (⟨h, rfl, rfl, Or.inr rfl⟩ : enI np ns t w la lb b (a, b, 1)) n hn
    obtain ⟨x, hx⟩ : ∃ x, x = foldN (enF E np) np (a, b, 1) := ⟨_, rfl⟩
    have hIx := hI np hnp
    rw [← hx] at hIx
    have A : ∀ post : ig_M → Int64 → Prop, ((x.2.2 = 0 → post x.1 la) ∧ (¬ x.2.2 = 0 → post (ig_up x.1 23 2 2) la)) → wp_X0_enterStage a la post := by
      intro post hp
      refine ⟨fun _ => ?_, fun z => absurd c' z⟩
      rw [h3, w_setOf a la ns s hns hsn e3, h.2.2.2.1 s (by omega), ← hE]
      refine fold_loop (fun n k (v : ig_M × ig_M × Int32) => wp_X0_enterStage_25 post n v.1 la E v.2.2 (nI k)) (enF E np) np (a, b, 1) ?_ ?_
      · intro n
        rw [← hx]
        refine ⟨fun _ => ⟨hp.1, fun z a5 e => by rw [e]; exact hp.2 z⟩, fun z => absurd (by rw [Q_a1 hIx.1]; exact le_self np) z⟩
      · intro n k hk ih
        have hQ := (hI k (by omega)).1
        generalize foldN (enF E np) k (a, b, 1) = v at ih hQ ⊢
        refine ⟨fun z => absurd (by rw [Q_a1 hQ] at z; exact z) (nle_of hk (by omega)), fun _ => ⟨vp_in_nI (by omega) (by omega), ?_⟩⟩
        rw [w_has, nI_clamp (by omega), nI_1, (hQ.2.1 k (by omega)).1.2.2.2.1]
        unfold enF at ih
        cases d : hb E (nI k)
        · rw [d, if_neg (fun z => absurd z.1 (by decide))] at ih
          exact ⟨fun _ => ih, fun z => absurd rfl z⟩
        · rw [d] at ih
          refine ⟨fun z => absurd z ne10, fun _ => ⟨fun e => w_nbA hQ (by omega) _ ?_, fun e => ?_⟩⟩
          · rw [if_pos ⟨rfl, e⟩] at ih
            cases g : nbB v.2.1 np k
            · rw [g, if_neg (by decide)] at ih
              refine ⟨fun z => absurd z ne10, fun _ a1 u1 a2 u2 a3 u3 a4 u4 a5 u5 => ?_⟩
              rw [u5, u4, u3, u2, u1]
              have : ig_up (ig_up v.1 (3 + k) 3 1) (3 + k) 4 0 (3 + k) 2 = v.1 (3 + k) 2 := by simp [up_app]
              rw [this]
              exact ih
            · rw [g, if_pos rfl] at ih
              exact ⟨fun _ => ih, fun z => absurd rfl z⟩
          · rw [if_neg (fun z => z.2 e)] at ih
            exact ih
    have B : ∀ K : ig_M → Int64 → Prop, ((x.2.2 = 0 → K x.2.1 lb) ∧ (¬ x.2.2 = 0 → K (ig_up x.2.1 97 9 2) lb)) → wp_X6_begin b lb K := by
      intro post hp
      refine fold_loop (fun n k (v : ig_M × ig_M × Int32) => wp_X6_begin_4 post n v.2.1 lb v.2.2 (nI k)) (enF E np) np (a, b, 1) ?_ ?_
      · intro n
        rw [← hx]
        refine ⟨fun _ => ⟨fun z b1 e => ?_, fun z b1 e => ?_⟩, fun z => absurd (by rw [Q_b2 hIx.1]; exact le_self np) z⟩
        · rw [e, up_self]; exact hp.1 z
        · rw [e]; exact hp.2 z
      · intro n k hk ih
        obtain ⟨hQ, i97, i102, i01⟩ := hI k (by omega)
        generalize foldN (enF E np) k (a, b, 1) = v at ih hQ i97 i102 i01 ⊢
        have vk : vp_in (nI k) 8 := vp_in_nI (by omega) (by omega)
        have es : v.2.1 97 10 = nI s := by rw [i97]; exact f7
        have vs : vp_in (v.2.1 97 10) 6 := by rw [es]; exact vp_in_nI hs (by omega)
        refine ⟨fun z => absurd (by rw [Q_b2 hQ] at z; exact z) (nle_of hk (by omega)), fun _ => ⟨vs, ?_⟩⟩
        rw [es, nI_clamp (show s < 2 ^ 31 by omega), i102, ← hE, w_has6, nI_clamp (show k < 2 ^ 31 by omega)]
        -- the rest of the turn, whatever it began with
        have t86 : ∀ y : ig_M, y 97 10 = nI s → y 102 s = E → (v.2.2 = 0 → wp_X6_begin_4 post n y lb 0 (nI (k + 1))) → (v.2.2 = 1 → hb E (nI k) = false → wp_X6_begin_4 post n y lb 1 (nI (k + 1))) → (v.2.2 = 1 → hb E (nI k) = true → ¬ y 103 k = 1 → wp_X6_begin_4 post n y lb 0 (nI (k + 1))) → (v.2.2 = 1 → hb E (nI k) = true → y 103 k = 1 → wp_X6_begin_4 post n y lb 1 (nI (k + 1))) → wp_X6_begin_86 (fun (z0 : ig_M) (z1 : Int64) (z2 : Int32) (z3 : Int32) => wp_X6_begin_4 post n z0 z1 z2 z3) post y lb v.2.2 (nI k) := by
          intro y y1 y2 g0 g1 g2 g3
          unfold wp_X6_begin_86
          rw [y1, nI_clamp (show s < 2 ^ 31 by omega), y2, w_has6, nI_clamp (show k < 2 ^ 31 by omega), nI_1]
          refine ⟨g0, fun z => ⟨vp_in_nI hs (by omega), ?_⟩⟩
          have z1 := i01.resolve_left z
          cases d : hb E (nI k)
          · exact ⟨fun _ => g1 z1 d, fun z => absurd rfl z⟩
          · exact ⟨fun z => absurd z ne10, fun _ => ⟨vk, g2 z1 d, g3 z1 d⟩⟩
        unfold enF at ih
        cases d : hb E (nI k)
        · rw [d, if_neg (fun z => absurd z.1 (by decide))] at ih
          rw [d] at t86
          refine ⟨fun _ => t86 _ es (by rw [i102, hE]) (fun z => by rw [z] at ih; exact ih) (fun z _ => by rw [z] at ih; exact ih) (fun _ z => absurd z (by decide)) (fun _ z => absurd z (by decide)), fun z => absurd rfl z⟩
        · rw [d] at ih t86
          refine ⟨fun z => absurd z ne10, fun _ => ⟨vk, fun e => ?_, fun e => w_nbB hQ (by omega) _ ?_⟩⟩
          · rw [if_neg (fun z => z.2 e)] at ih
            exact t86 _ es (by rw [i102, hE]) (fun z => by rw [z] at ih; exact ih) (fun _ z => absurd z (by decide)) (fun _ _ z => absurd e z) (fun z _ _ => by rw [z] at ih; exact ih)
          · rw [if_pos ⟨rfl, e⟩] at ih
            cases g : nbB v.2.1 np k
            · rw [g, if_neg (by decide)] at ih
              refine ⟨fun z => absurd z ne10, fun _ => ⟨vk, fun b1 u1 => ⟨vk, fun b2 u2 => ⟨vk, vk, fun b3 u3 => ⟨vk, fun b4 u4 => ⟨vk, fun b5 u5 => ?_⟩⟩⟩⟩⟩⟩
              have : b5 = tgB k v.2.1 := by
                rw [u5, u4, u3, u2, u1]
                have : ig_up (ig_up v.2.1 103 k 1) 105 k 0 100 k = v.2.1 100 k := by simp [up_app]
                rw [this]
                rfl
              rw [this]
              refine t86 _ ?_ ?_ (fun z => by rw [z] at ih; exact ih) (fun _ z => absurd z (by decide)) (fun _ _ z => absurd ?_ z) (fun z _ _ => by rw [z] at ih; exact ih)
              · unfold tgB
                rw [up_row (by omega), up_row (by omega), up_row (by omega), up_row (by omega), up_row (by omega)]
                exact es
              · unfold tgB
                rw [up_row (by omega), up_row (by omega), up_row (by omega), up_row (by omega), up_row (by omega), i102, hE]
              · simp [tgB, up_app]
            · rw [g, if_pos rfl] at ih
              refine ⟨fun _ => t86 _ es (by rw [i102, hE]) (fun _ => ih) (fun _ z => absurd z (by decide)) (fun _ _ _ => ih) (fun _ _ z => absurd z e), fun z => absurd rfl z⟩
    by_cases x0 : x.2.2 = 0
    · exact ⟨x.1, x.2.1, fun post hp => A post ⟨fun _ => hp, fun z => absurd x0 z⟩, fun K hK => ⟨fun z => absurd c z, fun _ => B K ⟨fun _ => hK, fun z => absurd x0 z⟩⟩, hIx.1, by rw [hIx.2.1]; exact h0⟩
    · refine ⟨ig_up x.1 23 2 2, ig_up x.2.1 97 9 2, fun post hp => A post ⟨fun z => absurd z x0, fun _ => hp⟩, fun K hK => ⟨fun z => absurd c z, fun _ => B K ⟨fun z => absurd z x0, fun _ => hK⟩⟩, ?_, ?_⟩
      · obtain ⟨⟨hnp, hns, ht⟩, e1, e2, e3, e4, e5, e6, e7, e8⟩ := hIx.1.1
        obtain ⟨f1, f2, f3, f4, f5, f6, ⟨s', hs', f7', f8'⟩, f9⟩ := hIx.1.2.2.2.2.1
        have w1 : ig_wk (x.1 23) := by
          unfold ig_wk
          rw [f1, hIx.2.1]
          exact Or.inl c
        refine Q_lights hIx.1 _ _ (fun i hi => up_row hi) (fun i hi => up_row hi) ?_ ?_
        · simp [ig_R1, up_app, hnp, hns, ht, e1, e2, e3, e4, e5, e6, e7, e8]
        · unfold ig_R5 ig_wk
          simp only [up_app]
          refine ⟨by simp, by simpa using f2, by simpa using f3, by simp, by simpa using f5, by simpa using f6, ⟨s', hs', by simpa using f7', fun _ => by simpa using f8' w1⟩, fun z => absurd (Or.inr (by simp)) z⟩
      · rw [up_col (by omega), hIx.2.1]
        exact h0
  · have c' : ¬ a 23 2 = 1 := by rw [f1]; exact c
    exact ⟨a, b, fun post hp => ⟨fun z => absurd z c', fun _ => hp⟩, fun K hK => ⟨fun _ => hK, fun z => absurd z c⟩, h, h0⟩
end ENTER
