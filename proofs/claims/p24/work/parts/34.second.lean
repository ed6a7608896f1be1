/-! ===== a second ===== -/
theorem l_add {x y : Int64} (h1 : -2 ^ 62 ≤ x.toInt) (h2 : x.toInt ≤ 2 ^ 62) (h3 : -2 ^ 31 ≤ y.toInt) (h4 : y.toInt ≤ 2 ^ 31) : (x + y).toInt = x.toInt + y.toInt := by
  rw [Int64.toInt_add]
  exact Int.bmod_eq_of_le (by omega) (by omega)
theorem w_add {x y : Int32} (h1 : -2 ^ 30 ≤ x.toInt) (h2 : x.toInt ≤ 2 ^ 29) (h3 : -2 ^ 29 ≤ y.toInt) (h4 : y.toInt ≤ 2 ^ 29) : (x + y).toInt = x.toInt + y.toInt := by
  rw [Int32.toInt_add]
  exact Int.bmod_eq_of_le (by omega) (by omega)
theorem w_sub {x y : Int32} (h1 : -2 ^ 29 ≤ x.toInt) (h2 : x.toInt ≤ 2 ^ 29) (h3 : -2 ^ 29 ≤ y.toInt) (h4 : y.toInt ≤ 2 ^ 29) : (x - y).toInt = x.toInt - y.toInt := by
  rw [Int32.toInt_sub]
  exact Int.bmod_eq_of_le (by omega) (by omega)
section ZSEC
variable {np ns t w : Nat} {a a' : ig_M} {la : Int64} {b : ig_M}
/-- what a step of a second leaves alone: the rows told ahead -/
def zKeep (a a' : ig_M) : Prop := ∀ i, 12 ≤ i → i ≤ 20 → a' i = a i
theorem zKeep_M (h : zKeep a a') (hM : zM a) : zM a' := by
  unfold zM
  rw [h 12 (by omega) (by omega), h 14 (by omega) (by omega)]
  exact hM
theorem zKeep_rf (a : ig_M) : zKeep a a := fun _ _ _ => rfl
theorem zKeep_tr {a1 a2 a3 : ig_M} (h : zKeep a1 a2) (h2 : zKeep a2 a3) : zKeep a1 a3 := fun i g1 g2 => (h2 i g1 g2).trans (h i g1 g2)
theorem egA_off (L : Int32) (k : Nat) (x : ig_M) (i : Nat) (h : i ≠ 3 + k) : egA L k x i = x i := by
  unfold egA
  split
  · rw [up_row h, up_row h]
  · rfl
theorem egA_loc (L : Int32) (k : Nat) (x y : ig_M) (h : x (3 + k) = y (3 + k)) (h2 : x 23 = y 23) : egA L k x (3 + k) = egA L k y (3 + k) := by
  unfold egA
  split
  · funext j
    simp only [up_app, if_true, h, h2]
  · exact h
theorem egA_at (L : Int32) (k : Nat) (x : ig_M) : (egA L k x (3 + k) = x (3 + k) ∨ (egA L k x (3 + k) 3 = 2 ∧ egA L k x (3 + k) 9 = x 23 6)) ∧ egA L k x (3 + k) 0 = x (3 + k) 0 := by
  unfold egA
  split
  · exact ⟨Or.inr ⟨by simp [up_app], by simp [up_app]⟩, by simp [up_app]⟩
  · exact ⟨Or.inl rfl, rfl⟩
theorem z_leave (h : zQ np ns t t a la b) : ∃ a' b', (∀ post : ig_M → Int64 → Prop, post a' la → wp_X0_leaveStage a la post) ∧ zQ np ns t t a' la b' ∧ zKeep a a' := by
  have h0 := h
  obtain ⟨h, hS, hD, hK⟩ := h
  obtain ⟨⟨hnp, hns, ht⟩, e1, e2, e3, e4, e5, e6, e7, e8⟩ := h.1
  obtain ⟨f1, f2, f3, f4, f5, f6, ⟨s, hs, f7, f8⟩, f9⟩ := h.2.2.2.2.1
  by_cases c' : a 23 2 = 2
  · obtain ⟨hsn, h3⟩ := f8 (Or.inr c')
    obtain ⟨v, hv⟩ := ex_tram b ns s
    obtain ⟨u, hu⟩ := ex_fst (fun k => wsB b np s (nxS ns s k)) (ns - 1) (fun k => nI (nxS ns s k))
    obtain ⟨x, hx⟩ : ∃ x : Int32, x = if v = -1 then u else v := ⟨_, rfl⟩
    have hxs : x = -1 ∨ ∃ i, i < ns ∧ x = nI i := by
      by_cases d : v = -1
      · rw [hx, if_pos d]
        rcases isFst_lt hu with q | ⟨i, hi, q⟩
        · exact Or.inl q
        · exact Or.inr ⟨_, Nat.mod_lt _ (by omega), q⟩
      · rw [hx, if_neg d]
        exact tram_lt hsn hv
    have A : ∀ post : ig_M → Int64 → Prop, wp_X0_leaveStage_27 post a la v x → wp_X0_leaveStage a la post := by
      intro post hp
      refine ⟨fun _ => w_tramA h hsn h3 hv _ ⟨fun d => w_demA h hsn h3 hu _ ?_, fun d => ?_⟩, fun z => absurd c' z⟩
      · rw [hx, if_pos d] at hp; exact hp
      · rw [hx, if_neg d] at hp; exact hp
    rcases hxs with q | ⟨i, hi, q⟩
    · exact ⟨a, b, fun post hp => A post ⟨fun _ => hp, fun z => absurd q z⟩, h0, zKeep_rf a⟩
    · have xn : ¬ x = -1 := by rw [q]; exact nI_neg (by omega)
      by_cases d : i = s
      · have xs : x = nI s := by rw [q, d]
        exact ⟨a, b, fun post hp => A post ⟨fun z => absurd z xn, fun _ => ⟨fun z => absurd (xs.trans h3.symm) z, fun _ => hp⟩⟩, h0, zKeep_rf a⟩
      · have xs : ¬ x = nI s := fun z => d ((nI_eq (by omega) (by omega)).mp (q.symm.trans z))
        obtain ⟨L, hL⟩ : ∃ L : Int32, L = b 102 s &&& (b 102 i ^^^ (-1)) := ⟨_, rfl⟩
        have A2 : ∀ post : ig_M → Int64 → Prop, wp_X0_leaveStage_77 post a la x L (cond (!decide (v = -1)) 1 0) L → wp_X0_leaveStage_27 post a la v x := by
          intro post hp
          refine ⟨fun z => absurd z xn, fun _ => ⟨fun _ => ?_, fun z => absurd (z.trans h3) xs⟩⟩
          rw [h3, q, w_setOf a la ns s hns hsn e3, w_setOf a la ns i hns hi e3, h.2.2.2.1 s (by omega), h.2.2.2.1 i (by omega), ← hL, ← q]
          refine ⟨fun y => ?_, fun y => ?_⟩
          · simpa [y] using hp
          · simpa [y] using hp
        cases g : neB b np L (!decide (v = -1))
        · have hQ := Q_fold h (fun k x y hk hq => Q_eg L hq (by omega)) (F := egA L) (G := egB L) np (Nat.le_refl _)
          obtain ⟨i1, i2⟩ := fold_at (egA_off L) (egA_loc L) a np hnp
          obtain ⟨X, hX⟩ : ∃ X, X = foldN (egA L) np a := ⟨_, rfl⟩
          rw [← hX] at i1 i2 hQ
          have off : ∀ j, j ≠ 23 → ig_up (ig_up X 23 2 1) 23 3 x j = X j := fun j hj => by rw [up_row hj, up_row hj]
          have r23 : X 23 = a 23 := i1 23 (fun p hp => by omega)
          have w1 : ig_wk (ig_up (ig_up X 23 2 1) 23 3 x 23) := Or.inl (by simp [up_app])
          have n4 : ¬ a 23 4 = 0 := fun z => (hD.2.1 z).1 (Or.inr c')
          refine ⟨ig_up (ig_up X 23 2 1) 23 3 x, ig_up (ig_up (foldN (egB L) np b) 97 10 x) 97 9 1, fun post hp => A post (A2 post ?_), ⟨?_, ?_, ?_, ?_⟩, fun j j1 j2 => ?_⟩
          · refine w_mayA h L _ _ ?_
            rw [g]
            refine ⟨fun z => absurd z ne10, fun _ => w_egA h L _ ?_⟩
            intro a14 e14 a15 e15
            rw [e15, e14, ← hX]
            exact hp
          · obtain ⟨⟨hnp, hns, ht⟩, e1, e2, e3, e4, e5, e6, e7, e8⟩ := hQ.1
            obtain ⟨f1, f2, f3, f4, f5, f6, _, f9⟩ := hQ.2.2.2.2.1
            refine Q_lights hQ _ _ off (fun i hi => by rw [up_row hi, up_row hi]) ?_ ?_
            · simp [ig_R1, up_app, hnp, hns, ht, e1, e2, e3, e4, e5, e6, e7]
            · unfold ig_R5 ig_wk
              simp only [up_app]
              refine ⟨by simp, by simpa using f2, by simpa using f3, by simp, by simpa using f5, by simpa using f6, ⟨i, by omega, by simpa using q, fun _ => ⟨hi, by simpa using q⟩⟩, fun z => absurd (Or.inl (by simp)) z⟩
          · refine zS_congr hS (fun p hp => ?_) hnp hns (fun p r hp _ => ?_) (fun p _ => ?_)
            · rw [off _ (by omega)]
              by_cases c : p < np
              · rw [i2 p c]; exact (egA_at L p a).2
              · rw [i1 (3 + p) (fun k hk => by omega)]
            · rw [off _ (by omega), i1 (12 + p) (fun k hk => by omega)]
            · rw [off _ (by omega), i1 20 (fun k hk => by omega)]
          · refine zD_off hD (Nat.le_refl _) (fun p hp => ?_) (fun p r hp _ => ?_) (fun u _ => ?_) (fun z => absurd w1 z) (fun z => absurd ?_ n4)
            · rw [off _ (by omega)]
              by_cases c : p < np
              · rw [i2 p c]
                rcases (egA_at L p a).1 with z | ⟨z1, z2⟩
                · rw [z]; exact Or.inl ⟨rfl, rfl⟩
                · rw [z1, z2]
                  exact Or.inr (Or.inl ⟨by decide, e5, c⟩)
              · rw [i1 (3 + p) (fun k hk => by omega)]; exact Or.inl ⟨rfl, rfl⟩
            · rw [off _ (by omega), i1 (12 + p) (fun k hk => by omega)]
            · rw [off _ (by omega), i1 22 (fun k hk => by omega)]
            · rw [← z, ← r23]; simp [up_app]
          · unfold zK
            rw [show ig_up (ig_up X 23 2 1) 23 3 x 23 7 = a 23 7 by rw [← r23]; simp [up_app]]
            exact hK
          · rw [off j (by omega)]
            exact i1 j (fun k hk => by omega)
        · refine ⟨a, b, fun post hp => A post (A2 post ?_), h0, zKeep_rf a⟩
          refine w_mayA h L _ _ ?_
          rw [g]
          exact ⟨fun _ => hp, fun z => absurd rfl z⟩
  · exact ⟨a, b, fun post hp => ⟨fun z => absurd z c', fun _ => hp⟩, h0, zKeep_rf a⟩
/-! entering -/
theorem tgA_off (k : Nat) (x : ig_M) (i : Nat) (h : i ≠ 3 + k) : tgA k x i = x i := by
  unfold tgA
  rw [up_row h, up_row h, up_row h, up_row h, up_row h]
theorem tgA_at (k : Nat) (x : ig_M) : tgA k x (3 + k) 3 = 1 ∧ tgA k x (3 + k) 9 = x (3 + k) 9 ∧ tgA k x (3 + k) 0 = x (3 + k) 0 := by
  unfold tgA
  exact ⟨by simp [up_app], by simp [up_app], by simp [up_app]⟩
theorem nb_none (h : ig_Q np ns t w a la b la) (hS : zS np ns a) (hD : zD np t w a) {k : Nat} (hk : k < np) (hnb : nbB b np k = false) : ∀ q, q < 8 → 0 < a (12 + q) k → ¬ a (3 + q) 3 = 1 ∧ (a (3 + q) 9 = -1 ∨ ∃ e : Nat, e + 1 ≤ t ∧ a (3 + q) 9 = nI e) := by
  intro q hq hm
  have hnp := Q_np h
  have ht : t ≤ 5000 := h.1.1.2.2
  have e6 : b 97 11 = nI t := h.1.2.2.2.2.2.2.1
  have hqn : q < np := (hS.2.1 q k hq (by omega) hm).2.1
  have hph := h.2.1 q hq
  have hbt := (h.2.2.1 q k hq (by omega)).1
  have h1 := (anyN_f _ _).mp hnb q hqn
  have nle : ¬ b 101 (8 * q + k) ≤ 0 := by rw [← hbt]; exact i_le.mpr hm
  rw [decide_eq_false nle] at h1
  simp only [Bool.not_false, Bool.true_and, Bool.not_eq_false'] at h1
  unfold letsB at h1
  simp only [Bool.and_eq_true, Bool.not_eq_true', decide_eq_false_iff_not, Bool.or_eq_true, decide_eq_true_eq] at h1
  rw [hph.1.2.2.2.1, hph.1.2.2.2.2.2.2.2.2.2.1]
  refine ⟨h1.1, ?_⟩
  rcases h1.2 with z | z
  · exact Or.inl z
  · rcases hD.2.2.1 q hq with y | ⟨e, he, y⟩
    · rw [hph.1.2.2.2.2.2.2.2.2.2.1] at y
      exact Or.inl y
    · rw [hph.1.2.2.2.2.2.2.2.2.2.1] at y
      refine Or.inr ⟨e, ?_, y⟩
      rw [e6, y, pk_sub he] at z
      apply Classical.byContradiction
      intro hc
      have e0 : t - e = 0 := by omega
      rw [e0] at z
      apply z
      rw [← hbt]
      exact hm
/-- what holds as the phases of the stage turn green, one by one -/
def zE (np ns t w : Nat) (la : Int64) (a0 b0 : ig_M) (s : ig_M × ig_M × Int32) : Prop := enI np ns t w la la b0 s ∧ zS np ns s.1 ∧ zD np t w s.1 ∧ s.1 23 = a0 23 ∧ zKeep a0 s.1
theorem zE_step {a0 b0 : ig_M} {s : ig_M × ig_M × Int32} (E : Int32) (hwk : ig_wk (a0 23)) (h : zE np ns t w la a0 b0 s) {k : Nat} (hk : k < np) : zE np ns t w la a0 b0 (enF E np k s) := by
  obtain ⟨h1, h2, h3, h4, h5⟩ := h
  have hnp := Q_np h1.1
  have hns : ns ≤ 6 := h1.1.1.1.2.1
  have ht : t ≤ 5000 := h1.1.1.1.2.2
  have h6 := enI_step E h1 (k := k) (by omega)
  unfold enF at h6 ⊢
  by_cases c : hb E (nI k) = true ∧ ¬ s.2.1 103 k = 1
  · rw [if_pos c] at h6 ⊢
    by_cases d : nbB s.2.1 np k = true
    · rw [if_pos d] at h6 ⊢
      exact ⟨h6, h2, h3, h4, h5⟩
    · rw [if_neg d] at h6 ⊢
      have hnb : nbB s.2.1 np k = false := by simpa using d
      have off := tgA_off k s.1
      obtain ⟨t3, t9, t0⟩ := tgA_at k s.1
      have o3 : ∀ j p, p < 8 → ¬ p = k → tgA k s.1 (3 + p) j = s.1 (3 + p) j := fun j p hp hne => by rw [off (3 + p) (by omega)]
      refine ⟨h6, ?_, ?_, ?_, ?_⟩
      · refine zS_congr h2 (fun p hp => ?_) hnp hns (fun p q _ _ => congrFun (off (12 + p) (by omega)) q) (fun p _ => congrFun (off 20 (by omega)) p)
        by_cases e : p = k
        · subst e; exact t0
        · exact o3 0 p hp e
      · refine zD_on h3 h2 ht hk hnp (nb_none h1.1 h2 h3 hk hnb) (by rw [h4]; exact hwk) (off 23 (by omega)) t3 (o3 3) (fun p hp => ?_) (fun p q _ _ => congrFun (off (12 + p) (by omega)) q) (fun u _ => congrFun (off 22 (by omega)) u)
        by_cases e : p = k
        · subst e; exact t9
        · exact o3 9 p hp e
      · show tgA k s.1 23 = a0 23
        rw [off 23 (by omega)]; exact h4
      · exact zKeep_tr h5 (fun i g1 g2 => off i (by omega))
  · rw [if_neg c] at h6 ⊢
    exact ⟨h6, h2, h3, h4, h5⟩
theorem zE_fold {a0 b0 : ig_M} {s : ig_M × ig_M × Int32} (E : Int32) (hwk : ig_wk (a0 23)) (h : zE np ns t w la a0 b0 s) : ∀ n, n ≤ np → zE np ns t w la a0 b0 (foldN (enF E np) n s)
  | 0, _ => h
  | n + 1, hn => zE_step E hwk (zE_fold E hwk h n (by omega)) (by omega)
theorem z_enter (h : zQ np ns t t a la b) : ∃ a' b', (∀ post : ig_M → Int64 → Prop, post a' la → wp_X0_enterStage a la post) ∧ zQ np ns t t a' la b' ∧ zKeep a a' := by
  have h0 := h
  obtain ⟨h, hS, hD, hK⟩ := h
  obtain ⟨⟨hnp, hns, ht⟩, e1, e2, e3, e4, e5, e6, e7, e8⟩ := h.1
  obtain ⟨f1, f2, f3, f4, f5, f6, ⟨s, hs, f7, f8⟩, f9⟩ := h.2.2.2.2.1
  by_cases c' : a 23 2 = 1
  · obtain ⟨hsn, h3⟩ := f8 (Or.inl c')
    obtain ⟨E, hE⟩ : ∃ E, E = b 102 s := ⟨_, rfl⟩
    have hwk : ig_wk (a 23) := Or.inl c'
    have hI := fun n hn => zE_fold E hwk (⟨⟨h, rfl, rfl, Or.inr rfl⟩, hS, hD, rfl, zKeep_rf a⟩ : zE np ns t t la a b (a, b, 1)) n hn
    obtain ⟨x, hx⟩ : ∃ x, x = foldN (enF E np) np (a, b, 1) := ⟨_, rfl⟩
    obtain ⟨hIx, gS, gD, g23, gK⟩ := hI np (Nat.le_refl _)
    rw [← hx] at hIx gS gD g23 gK
    have A : ∀ post : ig_M → Int64 → Prop, ((x.2.2 = 0 → post x.1 la) ∧ (¬ x.2.2 = 0 → post (ig_up x.1 23 2 2) la)) → wp_X0_enterStage a la post := by
      intro post hp
      refine ⟨fun _ => ?_, fun z => absurd c' z⟩
      rw [h3, w_setOf a la ns s hns hsn e3, h.2.2.2.1 s (by omega), ← hE]
      refine fold_loop (fun n k (v : ig_M × ig_M × Int32) => wp_X0_enterStage_25 post n v.1 la E v.2.2 (nI k)) (enF E np) np (a, b, 1) ?_ ?_
      · intro n
        rw [← hx]
        refine ⟨fun _ => ⟨hp.1, fun z a5 e => by rw [e]; exact hp.2 z⟩, fun z => absurd (by rw [Q_a1 hIx.1]; exact le_self np) z⟩
      · intro n k hk ih
        have hQ := (hI k (by omega)).1.1
        generalize foldN (enF E np) k (a, b, 1) = v at ih hQ ⊢
        refine ⟨fun z => absurd (by rw [Q_a1 hQ] at z; exact z) (nle_of hk (by omega)), fun _ => ⟨vp_in_nI (by omega) (by omega), ?_⟩⟩
        rw [w_has, nI_clamp (by omega), nI_1, (hQ.2.1 k (by omega)).1.2.2.2.1]
        unfold enF at ih
        cases d : hb E (nI k)
        · rw [d, if_neg (fun z => absurd z.1 (by decide))] at ih
          exact ⟨fun _ => ih, fun z => absurd rfl z⟩
        · rw [d] at ih
          refine ⟨fun z => absurd z ne10, fun _ => ⟨fun e => w_nbA hQ (by omega) _ ?_, fun e => ?_⟩⟩
          · rw [if_pos ⟨rfl, e⟩] at ih
            cases g : nbB v.2.1 np k
            · rw [g, if_neg (by decide)] at ih
              refine ⟨fun z => absurd z ne10, fun _ a1 u1 a2 u2 a3 u3 a4 u4 a5 u5 => ?_⟩
              rw [u5, u4, u3, u2, u1]
              have : ig_up (ig_up v.1 (3 + k) 3 1) (3 + k) 4 0 (3 + k) 2 = v.1 (3 + k) 2 := by simp [up_app]
              rw [this]
              exact ih
            · rw [g, if_pos rfl] at ih
              exact ⟨fun _ => ih, fun z => absurd rfl z⟩
          · rw [if_neg (fun z => z.2 e)] at ih
            exact ih
    have gKK : zK t x.1 la := by
      unfold zK
      rw [g23]
      exact hK
    by_cases x0 : x.2.2 = 0
    · exact ⟨x.1, x.2.1, fun post hp => A post ⟨fun _ => hp, fun z => absurd x0 z⟩, ⟨hIx.1, gS, gD, gKK⟩, gK⟩
    · have off : ∀ j, j ≠ 23 → ig_up x.1 23 2 2 j = x.1 j := fun j hj => up_row hj
      have w2 : ig_wk (ig_up x.1 23 2 2 23) := Or.inr (by simp [up_app])
      have n4 : ¬ a 23 4 = 0 := fun z => (hD.2.1 z).1 hwk
      refine ⟨ig_up x.1 23 2 2, ig_up x.2.1 97 9 2, fun post hp => A post ⟨fun z => absurd z x0, fun _ => hp⟩, ⟨?_, ?_, ?_, ?_⟩, zKeep_tr gK (fun i g1 g2 => off i (by omega))⟩
      · obtain ⟨⟨hnp, hns, ht⟩, e1, e2, e3, e4, e5, e6, e7, e8⟩ := hIx.1.1
        obtain ⟨f1, f2, f3, f4, f5, f6, ⟨s', hs', f7', f8'⟩, f9⟩ := hIx.1.2.2.2.2.1
        have w1 : ig_wk (x.1 23) := by rw [g23]; exact hwk
        refine Q_lights hIx.1 _ _ off (fun i hi => up_row hi) ?_ ?_
        · simp [ig_R1, up_app, hnp, hns, ht, e1, e2, e3, e4, e5, e6, e7]
        · unfold ig_R5 ig_wk
          simp only [up_app]
          refine ⟨by simp, by simpa using f2, by simpa using f3, by simp, by simpa using f5, by simpa using f6, ⟨s', hs', by simpa using f7', fun _ => by simpa using f8' w1⟩, fun z => absurd (Or.inr (by simp)) z⟩
      · exact zS_congr gS (fun p _ => by rw [off _ (by omega)]) hnp hns (fun p q _ _ => by rw [off _ (by omega)]) (fun q _ => by rw [off _ (by omega)])
      · refine zD_off gD (Nat.le_refl _) (fun p hp => by rw [off _ (by omega)]; exact Or.inl ⟨rfl, rfl⟩) (fun p q _ _ => by rw [off _ (by omega)]) (fun u _ => by rw [off _ (by omega)]) (fun z => absurd w2 z) (fun z => absurd ?_ n4)
        rw [← z, ← g23]; simp [up_app]
      · unfold zK
        rw [show ig_up x.1 23 2 2 23 7 = x.1 23 7 by simp [up_app]]
        exact gKK
  · exact ⟨a, b, fun post hp => ⟨fun z => absurd z c', fun _ => hp⟩, h0, zKeep_rf a⟩
/-! fading, watching -/
theorem fdA_off (k : Nat) (x : ig_M) (i : Nat) (h : i ≠ 3 + k) : fdA k x i = x i := by
  unfold fdA
  split
  · rw [up_row h]
  · rfl
theorem fdA_loc (k : Nat) (x y : ig_M) (h : x (3 + k) = y (3 + k)) (h2 : x 23 = y 23) : fdA k x (3 + k) = fdA k y (3 + k) := by
  unfold fdA
  rw [h, h2]
  split
  · funext j
    simp only [up_app, if_true, h]
  · exact h
theorem fdA_at (k : Nat) (x : ig_M) : fdA k x (3 + k) = x (3 + k) ∨ (x (3 + k) 3 = 2 ∧ fdA k x (3 + k) 3 = 0 ∧ fdA k x (3 + k) 9 = x (3 + k) 9 ∧ fdA k x (3 + k) 0 = x (3 + k) 0) := by
  unfold fdA
  split
  · rename_i z
    exact Or.inr ⟨z.1, by simp [up_app], by simp [up_app], by simp [up_app]⟩
  · exact Or.inl rfl
theorem z_fade (h : zQ np ns t t a la b) : ∃ a' b', (∀ post : ig_M → Int64 → Prop, post a' la → wp_X0_fadeAmbers a la post) ∧ zQ np ns t t a' la b' ∧ zKeep a a' := by
  obtain ⟨h, hS, hD, hK⟩ := h
  have hnp := Q_np h
  have hns : ns ≤ 6 := h.1.1.2.1
  have hQ := Q_fold h (fun k x y hk hq => Q_fd hq (by omega)) (F := fdA) (G := fdB)
  obtain ⟨i1, i2⟩ := fold_at fdA_off fdA_loc a np hnp
  have r23 : foldN fdA np a 23 = a 23 := i1 23 (fun p hp => by omega)
  have alt : ∀ p, p < 8 → foldN fdA np a (3 + p) = a (3 + p) ∨ (p < np ∧ a (3 + p) 3 = 2 ∧ foldN fdA np a (3 + p) 3 = 0 ∧ foldN fdA np a (3 + p) 9 = a (3 + p) 9 ∧ foldN fdA np a (3 + p) 0 = a (3 + p) 0) := by
    intro p hp
    by_cases c : p < np
    · rw [i2 p c]
      rcases fdA_at p a with z | z
      · exact Or.inl z
      · exact Or.inr ⟨c, z⟩
    · exact Or.inl (i1 (3 + p) (fun k hk => by omega))
  refine ⟨foldN fdA np a, foldN fdB np b, fun post hp => ?_, ⟨hQ np (Nat.le_refl _), ?_, ?_, ?_⟩, fun i g1 g2 => i1 i (fun k hk => by omega)⟩
  · refine fold_loop (fun n k s => wp_X0_fadeAmbers_2 post n s la (nI k)) fdA np a (fun n => ⟨fun _ => hp, fun z => absurd (by rw [Q_a1 (hQ np (Nat.le_refl _))]; exact le_self np) z⟩) ?_
    intro n k hk ih
    refine ⟨fun z => absurd (by rw [Q_a1 (hQ k (by omega))] at z; exact z) (nle_of hk (by omega)), fun _ => ⟨vp_in_nI (by omega) (by omega), ?_⟩⟩
    rw [nI_clamp (by omega), nI_1]
    generalize foldN fdA k a = x at ih ⊢
    unfold fdA at ih
    refine ⟨fun c => ?_, fun c => ⟨fun d => ?_, fun d a3 e => ?_⟩⟩
    · rw [if_neg (fun z => c z.1)] at ih; exact ih
    · rw [if_neg (fun z => z.2 d)] at ih; exact ih
    · rw [if_pos ⟨c, d⟩] at ih; rw [e]; exact ih
  · refine zS_congr hS (fun p hp => ?_) hnp hns (fun p q hp _ => by rw [i1 (12 + p) (fun k hk => by omega)]) (fun p _ => by rw [i1 20 (fun k hk => by omega)])
    rcases alt p hp with z | ⟨_, _, _, _, z⟩
    · rw [z]
    · exact z
  · have n21 : ¬ (2 : Int32) = 1 := by decide
    have n01 : ¬ (0 : Int32) = 1 := by decide
    refine zD_off hD (Nat.le_refl _) (fun p hp => ?_) (fun p q hp _ => by rw [i1 (12 + p) (fun k hk => by omega)]) (fun u _ => by rw [i1 22 (fun k hk => by omega)]) (fun z p hp => ?_) (fun z => ?_)
    · rcases alt p hp with z | ⟨z1, z2, z3, z4, _⟩
      · rw [z]; exact Or.inl ⟨rfl, rfl⟩
      · rw [z2, z3]
        exact Or.inr (Or.inr ⟨n21, n01, z4, z1⟩)
    · rw [r23] at z
      rcases alt p hp with y | ⟨_, _, y, _, _⟩
      · rw [y]; exact hD.1 z p hp
      · exact y
    · rw [r23] at z ⊢
      exact ⟨(hD.2.1 z).1, z⟩
  · unfold zK
    rw [r23]
    exact hK
theorem z_watch (h : zQ np ns t t a la b) : ∃ a' b', (∀ post : ig_M → Int64 → Prop, post a' la → wp_X0_watch a la post) ∧ zQ np ns t t a' la b' ∧ zKeep a a' := by
  have h0 := h
  obtain ⟨h, hS, hD, hK⟩ := h
  have hnp := Q_np h
  by_cases c : a 23 2 = 1 ∨ a 23 2 = 2
  · have A : ∀ post : ig_M → Int64 → Prop, (dgB b np = true → wp_X0_fallBack a la 3 post) → (dgB b np = false → post a la) → wp_X0_watch a la post := by
      intro post g1 g0
      have one : (fun r1 : Int32 => ((¬ r1 = 0 → ∃ j : Nat, wp_X0_watch_10 post j a la 0) ∧ (r1 = 0 → post a la))) 1 := ⟨fun _ => w_dgA h post g1 g0, fun z => absurd z ne10⟩
      unfold wp_X0_watch wp_X0_areWorking
      exact ⟨fun _ => one, fun d => ⟨fun e => absurd (c.resolve_left d) e, fun _ => one⟩⟩
    cases g : dgB b np
    · exact ⟨a, b, fun post hp => A post (fun z => absurd (g.symm.trans z) (by decide)) (fun _ => hp), h0, zKeep_rf a⟩
    · obtain ⟨i1, _⟩ := fold_at redA_off redA_loc (ig_up (ig_up a 23 2 3) 23 3 (-1)) np hnp
      refine ⟨fbA np 3 a, fbB np 3 b, fun post hp => A post (fun _ => ?_) (fun z => absurd (g.symm.trans z) (by decide)), z_fall h0 (Nat.le_refl _) (Or.inr rfl), fun i g1 g2 => ?_⟩
      · intro a1 e1 a2 e2
        rw [e2, e1]
        exact w_fallA (Q_back h (Or.inr rfl)) _ hp
      · unfold fbA
        rw [i1 i (fun k hk => by omega), up_row (by omega), up_row (by omega)]
  · have c1 : ¬ a 23 2 = 1 := fun z => c (Or.inl z)
    have c2 : ¬ a 23 2 = 2 := fun z => c (Or.inr z)
    refine ⟨a, b, fun post hp => ?_, h0, zKeep_rf a⟩
    unfold wp_X0_watch wp_X0_areWorking
    exact ⟨fun z => absurd z c1, fun _ => ⟨fun _ => ⟨fun z => absurd rfl z, fun _ => hp⟩, fun z => absurd z c2⟩⟩
end ZSEC
