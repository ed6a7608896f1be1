/-! ===== stage and change ===== -/
def mxI (u v : Int32) : Int32 := if u < v then v else u
def mbF (x : Int32) (r : Nat → Int32) (k : Nat) (v : Int32) : Int32 := if hb x (nI k) = true then mxI v (r k) else v
def mbv (x : Int32) (r : Nat → Int32) (n : Nat) : Int32 := foldN (mbF x r) n 0
theorem mxI_t (u v : Int32) : (mxI u v).toInt = if u.toInt < v.toInt then v.toInt else u.toInt := by
  unfold mxI
  by_cases h : u < v
  · rw [if_pos h, if_pos (Int32.lt_iff_toInt_lt.mp h)]
  · rw [if_neg h, if_neg (fun z => h (Int32.lt_iff_toInt_lt.mpr z))]
theorem foldN_congr {σ : Type} {F G : Nat → σ → σ} {n : Nat} {s : σ} (h : ∀ k, k < n → ∀ v, F k v = G k v) : foldN F n s = foldN G n s := by
  induction n with
  | zero => rfl
  | succ n ih =>
    show F n (foldN F n s) = G n (foldN G n s)
    rw [ih (fun k hk => h k (Nat.lt_succ_of_lt hk)), h n (Nat.lt_succ_self n)]
theorem mbv_congr {x : Int32} {r s : Nat → Int32} {n : Nat} (h : ∀ q, q < n → r q = s q) : mbv x r n = mbv x s n := by
  exact foldN_congr (fun k hk v => by unfold mbF; rw [h k hk])
theorem mbv_le {x : Int32} {r : Nat → Int32} {n : Nat} : mbv x r n ≤ 0 ↔ ∀ q, q < n → hb x (nI q) = true → r q ≤ 0 := by
  induction n with
  | zero => exact ⟨fun _ q hq => absurd hq (Nat.not_lt_zero q), fun _ => Int32.le_refl _⟩
  | succ n ih =>
    have e : mbv x r (n + 1) = mbF x r n (mbv x r n) := rfl
    rw [e]
    unfold mbF
    have t0 : (0 : Int32).toInt = 0 := by decide
    by_cases c : hb x (nI n) = true
    · rw [if_pos c]
      have m := mxI_t (mbv x r n) (r n)
      have key : mxI (mbv x r n) (r n) ≤ 0 ↔ mbv x r n ≤ 0 ∧ r n ≤ 0 := by
        simp only [Int32.le_iff_toInt_le]
        rw [m]
        split <;> omega
      rw [key, ih]
      constructor
      · rintro ⟨h1, h2⟩ q hq hx
        rcases Nat.lt_succ_iff_lt_or_eq.mp hq with z | rfl
        · exact h1 q z hx
        · exact h2
      · intro h
        exact ⟨fun q hq => h q (by omega), h n (by omega) c⟩
    · rw [if_neg c, ih]
      constructor
      · intro h1 q hq hx
        rcases Nat.lt_succ_iff_lt_or_eq.mp hq with z | rfl
        · exact h1 q z hx
        · exact absurd hx c
      · intro h
        exact fun q hq => h q (by omega)
def meetsB (b : ig_M) (x : Int32) (np : Nat) : Bool := anyN (fun p => anyN (fun q => hb x (nI p) && (hb x (nI q) && !decide (b 101 (8 * p + q) ≤ 0))) np) np
/-- the seconds to change from the stage s1 to the stage s2 -/
def chF (b : ig_M) (np : Nat) (L C : Int32) (p : Nat) (v : Int32) : Int32 := if hb L (nI p) = true then mxI v (mbv C (fun q => b 101 (8 * p + q)) np) else v
def chv (b : ig_M) (np s1 s2 : Nat) : Int32 := foldN (chF b np (b 102 s1 &&& (b 102 s2 ^^^ (-1))) (b 102 s2 &&& (b 102 s1 ^^^ (-1)))) np 0
/-- a loop whose flag is set already -/
theorem stay_loop (W : Nat → Nat → Prop) (e : Nat) (hx : ∀ n, W (n + 1) e) (hs : ∀ n k, k < e → W n (k + 1) → W (n + 1) k) : ∃ j, W j 0 :=
  pk_loop (σ := Unit) (fun n k _ => W n k) (fun _ _ => True) e 0 () (Nat.zero_le _) trivial (fun n _ _ => hx n) (fun n k _ hk _ ih => hs n k hk (ih () trivial))
section STAGE
variable {np ns t w : Nat} {a : ig_M} {la : Int64} {b : ig_M} {lb lo : Int64}
theorem w_mb (hnp : np ≤ 8) (h : a 1 1 = nI np) {p : Nat} (hp : p < 8) (x : Int32) (post : Int32 → Prop) (hpost : post (mbv x (a (12 + p)) np)) : wp_X3_mostBetween a la (nI p) x post := by
  refine fold_loop (fun n k v => wp_X3_mostBetween_5 a la post n (nI p) x v (nI k)) (mbF x (a (12 + p))) np 0 ?_ ?_
  · intro n
    exact ⟨fun _ => hpost, fun z => absurd (by rw [h]; exact le_self np) z⟩
  · intro n k hk ih
    refine ⟨fun z => absurd (by rw [h] at z; exact z) (nle_of hk (by omega)), fun _ => ?_⟩
    rw [w_has]
    rw [nI_clamp (by omega), nI_clamp (by omega), nI_1]
    unfold mbF at ih
    cases c : hb x (nI k)
    · rw [c, if_neg (by decide)] at ih
      exact ⟨fun _ => ih, fun z => absurd rfl z⟩
    · rw [c, if_pos rfl] at ih
      exact ⟨fun z => absurd z ne10, fun _ => ⟨vp_in_nI hp (by omega), vp_in_nI (by omega) (by omega), ih⟩⟩
theorem w_two (hQ : ig_Q np ns t w a la b lb) (x : Int32) (post : Int32 → Prop) (hpost : post (cond (meetsB b x np) 1 0)) : wp_X3_hasTwoThatMeet a la x post := by
  have hnp := Q_np hQ
  have h := Q_a1 hQ
  have e : meetsB b x np = anyN (fun p => hb x (nI p) && !decide (mbv x (a (12 + p)) np ≤ 0)) np := by
    refine anyN_congr (fun p hp => ?_)
    have e2 : ∀ q, q < np → a (12 + p) q = b 101 (8 * p + q) := fun q hq => (hQ.2.2.1 p q (by omega) (by omega)).1
    cases c : hb x (nI p)
    · rw [(anyN_f _ _).mpr (fun q _ => by simp)]; rfl
    · rw [mbv_congr e2]
      cases d : anyN (fun q => true && (hb x (nI q) && !decide (b 101 (8 * p + q) ≤ 0))) np
      · have d2 := (anyN_f _ _).mp d
        have : mbv x (fun q => b 101 (8 * p + q)) np ≤ 0 := mbv_le.mpr (fun q hq hx => by
          have := d2 q hq
          simpa [hx] using this)
        simp [this]
      · obtain ⟨q, hq, hf⟩ := (anyN_iff _ _).mp d
        simp at hf
        have : ¬ mbv x (fun q => b 101 (8 * p + q)) np ≤ 0 := fun z => by
          have := mbv_le.mp z q hq hf.1
          exact (i_le.mpr hf.2) this
        simp [this]
  rw [e] at hpost
  refine any_loop (fun n k => wp_X3_hasTwoThatMeet_2 a la post n x (nI k)) post _ np ?_ ?_ hpost
  · intro n hp0
    exact ⟨fun _ => hp0, fun z => absurd (by rw [h]; exact le_self np) z⟩
  · intro n k hk h1 h2
    refine ⟨fun z => absurd (by rw [h] at z; exact z) (nle_of hk (by omega)), fun _ => ?_⟩
    rw [w_has, nI_1]
    cases c : hb x (nI k)
    · exact ⟨fun _ => h2 (by rw [c]; rfl), fun z => absurd rfl z⟩
    · refine ⟨fun z => absurd z ne10, fun _ => w_mb hnp h (by omega) x _ ⟨fun z => h2 (by rw [c]; simp [z]), fun z => h1 (by rw [c]; simp [z])⟩⟩
theorem w_meetAny (hnp : np ≤ 8) (h : b 97 2 = nI np) (x : Int32) (post : Int32 → Prop) (hpost : post (cond (meetsB b x np) 1 0)) : wp_X6_meetAny b lb x post := by
  refine flag_loop (fun n k v => wp_X6_meetAny_4 b lb post n x v (nI k)) post _ 0 1 np ?_ ?_ ?_ hpost
  · intro n v hv hp
    exact ⟨fun _ => ⟨hv, hp⟩, fun z => absurd (by rw [h]; exact le_self np) z⟩
  · intro n p hp ih
    refine ⟨fun z => absurd (by rw [h] at z; exact z) (nle_of hp (by omega)), fun _ => ?_⟩
    refine flag_loop (fun m k v => wp_X6_meetAny_15 b lb (fun (z0 : Int32) (z1 : Int32) (z2 : Int32) => wp_X6_meetAny_4 b lb post n z0 z1 z2) post m x v (nI p) (nI k)) (fun v => wp_X6_meetAny_4 b lb post n x v (nI (p + 1))) _ 0 1 np ?_ ?_ ?_ ih
    · intro m v hv hpv
      exact ⟨fun _ => by rw [nI_1]; exact hpv, fun z => absurd (by rw [h]; exact le_self np) z⟩
    · intro m k hk ih2
      refine ⟨fun z => absurd (by rw [h] at z; exact z) (nle_of hk (by omega)), fun _ => ⟨fun z => absurd rfl z, fun _ => ?_⟩⟩
      rw [w_has6, nI_1]
      cases c : hb x (nI p)
      · rw [c] at ih2
        exact ⟨fun _ => ih2, fun z => absurd rfl z⟩
      · refine ⟨fun z => absurd z ne10, fun _ => ?_⟩
        rw [w_has6]
        cases d : hb x (nI k)
        · rw [c, d] at ih2
          exact ⟨fun _ => ih2, fun z => absurd rfl z⟩
        · rw [c, d] at ih2
          refine ⟨fun z => absurd z ne10, fun _ => ?_⟩
          rw [idx8, nI_clamp (by omega)]
          refine ⟨vp_in_nI (by omega) (by omega), fun z => ?_, fun z => ?_⟩
          · simpa [z] using ih2
          · simpa [z] using ih2
    · intro m k hk ih2
      refine ⟨fun z => absurd (by rw [h] at z; exact z) (nle_of hk (by omega)), fun _ => ⟨fun _ => by rw [nI_1]; exact ih2, fun z => absurd z ne10⟩⟩
  · intro n p hp ih
    refine ⟨fun z => absurd (by rw [h] at z; exact z) (nle_of hp (by omega)), fun _ => ?_⟩
    refine stay_loop (fun m k => wp_X6_meetAny_15 b lb (fun (z0 : Int32) (z1 : Int32) (z2 : Int32) => wp_X6_meetAny_4 b lb post n z0 z1 z2) post m x 1 (nI p) (nI k)) np ?_ ?_
    · intro m
      exact ⟨fun _ => by rw [nI_1]; exact ih, fun z => absurd (by rw [h]; exact le_self np) z⟩
    · intro m k hk ih2
      exact ⟨fun z => absurd (by rw [h] at z; exact z) (nle_of hk (by omega)), fun _ => ⟨fun _ => by rw [nI_1]; exact ih2, fun z => absurd z ne10⟩⟩
theorem i_nat (x : Int32) : x = nI x.toBitVec.toNat := by
  apply Int32.toBitVec_inj.1
  show x.toBitVec = BitVec.ofNat 32 x.toBitVec.toNat
  simp
theorem stage_arg (hnp : np ≤ 8) (x : Int32) : iw x 1 ((1 <<< (nI np &&& 31)) - 1) = true ↔ ¬ x = 0 ∧ (x.toUInt32 >>> ((nI np).toUInt32 &&& Int32.toUInt32 31)).toInt32 = 0 := by
  have hpow : 2 ^ np ≤ 2 ^ 8 := Nat.pow_le_pow_right (by omega) hnp
  have hpos : 0 < 2 ^ np := Nat.pow_pos (by omega)
  have e1 : (1 : Int32) <<< (nI np &&& 31) = nI (2 ^ np) := by
    have := pk_shlN (n := 1) (nI np &&& 31) np (s_l np (by omega)) (by omega)
    rw [Nat.one_mul] at this
    exact this
  have e2 : nI (2 ^ np) - 1 = nI (2 ^ np - 1) := pk_sub (a := 2 ^ np) (b := 1) (by omega)
  rw [e1, e2]
  have hn := i_nat x
  have hlt := x.toBitVec.isLt
  generalize x.toBitVec.toNat = n at hn hlt
  subst hn
  rw [pk_ushrN hlt (nI np) np (s_u np (by omega))]
  have hdiv : n / 2 ^ np ≤ n := Nat.div_le_self _ _
  have key : nI (n / 2 ^ np) = 0 ↔ n < 2 ^ np := by
    constructor
    · intro z
      have z2 : (nI (n / 2 ^ np)).toBitVec.toNat = 0 := by rw [z]; rfl
      rw [pk_tn (by omega)] at z2
      exact (Nat.div_eq_zero_iff.mp z2).resolve_left (by omega)
    · intro z
      rw [Nat.div_eq_of_lt z]; rfl
  have key0 : nI n = 0 ↔ n = 0 := by
    constructor
    · intro z
      have z2 : (nI n).toBitVec.toNat = 0 := by rw [z]; rfl
      rw [pk_tn (by omega)] at z2
      exact z2
    · rintro rfl; rfl
  rw [key, key0]
  constructor
  · intro h
    obtain ⟨k, k1, k2, k3⟩ := iw_le (m := 1) (n := 2 ^ np - 1) (by omega) (by omega) h
    have : n = k := by
      have z : (nI n).toBitVec.toNat = (nI k).toBitVec.toNat := by rw [k3]
      rw [pk_tn (by omega), pk_tn (by omega)] at z
      exact z
    omega
  · rintro ⟨h1, h2⟩
    exact iw_k (m := 1) (n := 2 ^ np - 1) (by omega) (by omega) (by omega)
theorem d_stage (h : ig_R np ns t a la b lb) (x1 : Int32) : ig_two (wp_L_stage a la lo x1) (wp_X6_stage b lb x1) := by
  have hR := h
  obtain ⟨h1, h2, h3, h4, h5, h6⟩ := h
  obtain ⟨⟨hnp, hns, ht⟩, e1, e2, e3, e4, e5, e6, e7, rfl⟩ := h1
  have f2 : a 23 4 = b 97 1 := h5.2.1
  by_cases g1 : iw x1 1 ((1 <<< (nI np &&& 31)) - 1) = true
  · obtain ⟨g2, g3⟩ := (stage_arg hnp x1).mp g1
    by_cases g4 : b 97 1 = 0
    · cases g5 : meetsB b x1 np
      · by_cases g6 : ns < 6
        · refine ⟨0, ig_up (ig_up a 20 ns x1) 1 4 (nI (ns + 1)), la, (nI ns).toInt64, nI ns, ig_up (ig_up (ig_up b 97 0 0) 102 ns x1) 97 7 (nI (ns + 1)), la, fun post hp => ?_, fun post hp => ?_, by simp [up_app], fun _ => rfl, np, ns + 1, t, ?_⟩
          · unfold wp_L_stage wp_X5_stage
            refine ⟨fun z => absurd z g2, fun _ => ⟨fun _ => ⟨fun z => absurd (f2.trans g4) z, fun _ => ?_⟩, fun z => absurd (by rw [e1]; exact g3) z⟩⟩
            refine w_two (w := t) hR x1 _ ?_
            rw [g5]
            refine ⟨fun z => absurd rfl z, fun _ => ⟨fun _ => ?_, fun z => absurd (by rw [e3]; exact nI_lt (a := ns) (b := 6) g6 (by omega)) z⟩⟩
            unfold wp_X3_addStage
            rw [e3, nI_clamp (by omega)]
            refine ⟨vp_in_nI g6 (by omega), fun a2 q2 a3 q3 => ?_⟩
            have q4 : a2 1 4 = nI ns := by rw [q2]; simp [up_app, e3]
            rw [q3, q4, nI_1, q2]
            exact hp
          · have h9 : ¬ (b 97 7 = 6) := fun q => by
              rw [e4] at q
              have := (nI_eq (a := ns) (b := 6) (by omega) (by omega)).mp q
              omega
            unfold wp_X6_stage
            rw [w_in, e2, g1]
            refine ⟨fun _ => ⟨fun z => absurd g4 z, fun _ => w_meetAny hnp e2 x1 _ ?_⟩, fun z => absurd z ne10⟩
            rw [g5]
            refine ⟨fun z => absurd rfl z, fun _ => ⟨fun _ => ?_, fun z => absurd z h9⟩⟩
            unfold wp_X6_stage_52
            rw [w_well]
            have e9 : nI (ns + 1) - 1 = nI ns := pk_sub (a := ns + 1) (b := 1) (by omega)
            simpa [up_app, e4, vp_in_nI g6 (by omega), nI_clamp (show ns < 2 ^ 31 by omega), nI_1, e9] using hp
          · refine ⟨⟨⟨hnp, by omega, ht⟩, by simp [up_app, e1, e2, e5, e6, e7]⟩, ?_, ?_, ?_, ?_, ?_⟩
            · intro p hp
              simpa [ig_ph, up_app, show ¬ 3 + p = 20 by omega, show ¬ 3 + p = 1 by omega] using h2 p hp
            · intro p q hp hq
              simpa [up_app, show ¬ 12 + p = 20 by omega, show ¬ 12 + p = 1 by omega] using h3 p q hp hq
            · intro s hs
              have := h4 s hs
              by_cases c : s = ns
              · simp [up_app, c]
              · simp [up_app, c, this]
            · obtain ⟨f1, f2, f3, f4, f5, f6, ⟨s, hs, f7, f8⟩, f9⟩ := h5
              have f8' : ig_wk (a 23) → s < ns + 1 ∧ a 23 3 = nI s := fun z => ⟨by have := (f8 z).1; omega, (f8 z).2⟩
              simpa [ig_R5, ig_wk, up_app] using (⟨f1, f2, f3, f4, f5, f6, ⟨s, hs, f7, f8'⟩, f9⟩ : ig_R5 np (ns + 1) (a 23) (b 97))
            · intro u hu
              simpa [up_app] using h6 u hu
        · have e6' : ns = 6 := by omega
          subst e6'
          refine ⟨2, a, la, lo, 0, ig_up b 97 0 2, la, fun post hp => ?_, fun post hp => ?_, thr_at _ _, fun z => absurd z (by decide), _, _, _, R_thr hR 2⟩
          · unfold wp_L_stage wp_X5_stage
            refine ⟨fun z => absurd z g2, fun _ => ⟨fun _ => ⟨fun z => absurd (f2.trans g4) z, fun _ => ?_⟩, fun z => absurd (by rw [e1]; exact g3) z⟩⟩
            refine w_two (w := t) hR x1 _ ?_
            rw [g5]
            refine ⟨fun z => absurd rfl z, fun _ => ⟨fun z => absurd (by rw [e3] at z; exact z) (by decide), fun _ => Or.inr ⟨rfl, hp⟩⟩⟩
          · unfold wp_X6_stage
            rw [w_in, e2, g1]
            refine ⟨fun _ => ⟨fun z => absurd g4 z, fun _ => w_meetAny hnp e2 x1 _ ?_⟩, fun z => absurd z ne10⟩
            rw [g5]
            refine ⟨fun z => absurd rfl z, fun _ => ⟨fun z => absurd e4 z, fun _ => ?_⟩⟩
            simp [wp_X6_stage_47, wp_X6_stage_52, w_well, hp]
      · refine ⟨2, a, la, lo, 0, ig_up b 97 0 2, la, fun post hp => ?_, fun post hp => ?_, thr_at _ _, fun z => absurd z (by decide), _, _, _, R_thr hR 2⟩
        · unfold wp_L_stage wp_X5_stage
          refine ⟨fun z => absurd z g2, fun _ => ⟨fun _ => ⟨fun z => absurd (f2.trans g4) z, fun _ => ?_⟩, fun z => absurd (by rw [e1]; exact g3) z⟩⟩
          refine w_two (w := t) hR x1 _ ?_
          rw [g5]
          exact ⟨fun _ => Or.inr ⟨rfl, hp⟩, fun z => absurd z ne10⟩
        · unfold wp_X6_stage
          rw [w_in, e2, g1]
          refine ⟨fun _ => ⟨fun z => absurd g4 z, fun _ => w_meetAny hnp e2 x1 _ ?_⟩, fun z => absurd z ne10⟩
          rw [g5]
          refine ⟨fun _ => ?_, fun z => absurd z ne10⟩
          simp [wp_X6_stage_47, wp_X6_stage_52, w_well, hp]
    · refine ⟨2, a, la, lo, 0, ig_up b 97 0 2, la, fun post hp => ?_, fun post hp => ?_, thr_at _ _, fun z => absurd z (by decide), _, _, _, R_thr hR 2⟩
      · unfold wp_L_stage wp_X5_stage
        refine ⟨fun z => absurd z g2, fun _ => ⟨fun _ => ⟨fun _ => Or.inr ⟨rfl, hp⟩, fun z => absurd (f2.symm.trans z) g4⟩, fun z => absurd (by rw [e1]; exact g3) z⟩⟩
      · unfold wp_X6_stage
        rw [w_in, e2, g1]
        refine ⟨fun _ => ⟨fun _ => ?_, fun z => absurd z g4⟩, fun z => absurd z ne10⟩
        simp [wp_X6_stage_47, wp_X6_stage_52, w_well, hp]
  · refine ⟨1, a, la, lo, 0, ig_up b 97 0 1, la, fun post hp => ?_, fun post hp => ?_, thr_at _ _, fun z => absurd z (by decide), _, _, _, R_thr hR 1⟩
    · unfold wp_L_stage wp_X5_stage
      refine ⟨fun _ => Or.inl ⟨rfl, hp⟩, fun z => ⟨fun y => ?_, fun _ => Or.inl ⟨rfl, hp⟩⟩⟩
      rw [e1] at y
      exact absurd ((stage_arg hnp x1).mpr ⟨z, y⟩) g1
    · have g1' : iw x1 1 ((1 <<< (nI np &&& 31)) - 1) = false := by simpa using g1
      unfold wp_X6_stage
      rw [w_in, e2, g1']
      refine ⟨fun z => absurd rfl z, fun _ => ?_⟩
      simp [wp_X6_stage_52, w_well, hp]
end STAGE
