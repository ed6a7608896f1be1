/-! ===== one object: what holds of it from call to call ===== -/
/-- what the phase p showed in the second u -/
def zLg (a : ig_M) (u p : Nat) : Int32 := (a 22 u >>> ((2 * nI p) &&& 31)) &&& 3
/-- told ahead of the start: a least of 1 or more, both orders of two that meet, no stage without a phase -/
def zS (np ns : Nat) (a : ig_M) : Prop :=
  (∀ p, p < np → 1 ≤ a (3 + p) 0) ∧ (∀ p q, p < 8 → q < 8 → 0 < a (12 + p) q → 0 < a (12 + q) p ∧ p < np ∧ q < np ∧ ¬ p = q) ∧ ∀ s, s < ns → ∃ p, p < np ∧ hb (a 20 s) (nI p) = true
/-- the colours, the ends of green, the log of w seconds; t the second of now -/
def zD (np t w : Nat) (a : ig_M) : Prop :=
  (¬ ig_wk (a 23) → ∀ p, p < 8 → a (3 + p) 3 = 0)
  ∧ (a 23 4 = 0 → ¬ ig_wk (a 23) ∧ ∀ u p, u < w → p < 8 → ¬ zLg a u p = 1)
  ∧ (∀ p, p < 8 → a (3 + p) 9 = -1 ∨ ∃ e : Nat, e ≤ t ∧ a (3 + p) 9 = nI e)
  ∧ (∀ u p, u < w → p < 8 → zLg a u p = 1 → a (3 + p) 3 = 1 ∨ ∃ e : Nat, u < e ∧ e ≤ t ∧ a (3 + p) 9 = nI e)
  ∧ (∀ p q, p < 8 → q < 8 → 0 < a (12 + p) q → ¬ (a (3 + p) 3 = 1 ∧ a (3 + q) 3 = 1))
  ∧ (∀ p q, p < 8 → q < 8 → 0 < a (12 + p) q → a (3 + q) 3 = 1 → ∀ u, u < w → zLg a u p = 1 → u + 2 ≤ t)
  ∧ (∀ p q, p < 8 → q < 8 → 0 < a (12 + p) q → ∀ u v, u < v → v < w → zLg a u p = 1 → zLg a v q = 1 → u + 2 ≤ v)
  ∧ (∀ p, p < 8 → ¬ p < np → a (3 + p) 3 = 0)
/-- the delay and the vehicles that went -/
def zK (t : Nat) (a : ig_M) (la : Int64) : Prop := 0 ≤ la.toInt ∧ la.toInt ≤ 8000 * (t : Int) ∧ 0 ≤ (a 23 7).toInt ∧ (a 23 7).toInt ≤ 8 * (t : Int)
def zQ (np ns t w : Nat) (a : ig_M) (la : Int64) (b : ig_M) : Prop := ig_Q np ns t w a la b la ∧ zS np ns a ∧ zD np t w a ∧ zK t a la
/-- the second phase on: the crossing that prepare tells -/
def zM (a : ig_M) : Prop := 0 < a 12 1 ∧ 0 < a 12 2 ∧ 0 < a 14 3
def zI (a : ig_M) (la : Int64) : Prop := ∃ (np ns t : Nat) (b : ig_M), 4 ≤ np ∧ 3 ≤ ns ∧ zQ np ns t t a la b ∧ zM a
/-- one outcome of a call, whatever is asked behind it; what throws changes nothing -/
def zOut (A : (Int32 → ig_M → Int64 → Prop) → Prop) (a : ig_M) (la : Int64) : Prop := ∃ (r : Int32) (a' : ig_M) (la' : Int64), (∀ post : Int32 → ig_M → Int64 → Prop, post r a' la' → A post) ∧ zI a' la' ∧ (r = -99999999 → a' = a ∧ la' = la)
section ZINV
variable {np ns t w : Nat} {a a' : ig_M} {la : Int64} {b : ig_M}
theorem zThrow {A : (Int32 → ig_M → Int64 → Prop) → Prop} (hI : zI a la) (h : ∀ post : Int32 → ig_M → Int64 → Prop, post (-99999999) a la → A post) : zOut A a la := ⟨_, a, la, h, hI, fun _ => ⟨rfl, rfl⟩⟩
theorem zRead {A : (Int32 → ig_M → Int64 → Prop) → Prop} (hI : zI a la) (r : Int32) (h : ∀ post : Int32 → ig_M → Int64 → Prop, post r a la → A post) : zOut A a la := ⟨r, a, la, h, hI, fun _ => ⟨rfl, rfl⟩⟩
theorem zLg_of {u p : Nat} (h : a' 22 u = a 22 u) : zLg a' u p = zLg a u p := by
  unfold zLg
  rw [h]
theorem wk_congr {r s : Nat → Int32} (h : r 2 = s 2) : ig_wk r ↔ ig_wk s := by
  unfold ig_wk
  rw [h]
theorem zS_congr (h : zS np ns a) (e0 : ∀ p, p < 8 → a' (3 + p) 0 = a (3 + p) 0) (hnp : np ≤ 8) (hns : ns ≤ 6) (eb : ∀ p q, p < 8 → q < 8 → a' (12 + p) q = a (12 + p) q) (es : ∀ s, s < 6 → a' 20 s = a 20 s) : zS np ns a' := by
  obtain ⟨h1, h2, h3⟩ := h
  refine ⟨fun p hp => ?_, fun p q hp hq => ?_, fun s hs => ?_⟩
  · rw [e0 p (by omega)]; exact h1 p hp
  · rw [eb p q hp hq, eb q p hq hp]; exact h2 p q hp hq
  · rw [es s (by omega)]; exact h3 s hs
theorem zD_congr (h : zD np t w a) (e2 : a' 23 2 = a 23 2) (e4 : a' 23 4 = a 23 4) (e3 : ∀ p, p < 8 → a' (3 + p) 3 = a (3 + p) 3) (e9 : ∀ p, p < 8 → a' (3 + p) 9 = a (3 + p) 9) (eb : ∀ p q, p < 8 → q < 8 → a' (12 + p) q = a (12 + p) q) (el : ∀ u, u < w → a' 22 u = a 22 u) : zD np t w a' := by
  obtain ⟨h1, h2, h3, h4, h5, h6, h7, h8⟩ := h
  have lgc : ∀ u p, u < w → zLg a' u p = zLg a u p := fun u p hu => zLg_of (el u hu)
  have wc := wk_congr (r := a' 23) (s := a 23) e2
  refine ⟨fun hw p hp => ?_, fun hz => ?_, fun p hp => ?_, fun u p hu hp hl => ?_, fun p q hp hq hm => ?_, fun p q hp hq hm hc u hu hl => ?_, fun p q hp hq hm u v huv hv hl hl2 => ?_, fun p hp hn => ?_⟩
  · rw [e3 p hp]; exact h1 (fun z => hw (wc.mpr z)) p hp
  · rw [e4] at hz
    obtain ⟨g1, g2⟩ := h2 hz
    exact ⟨fun z => g1 (wc.mp z), fun u p hu hp => by rw [lgc u p hu]; exact g2 u p hu hp⟩
  · rw [e9 p hp]; exact h3 p hp
  · rw [lgc u p hu] at hl
    rw [e3 p hp, e9 p hp]; exact h4 u p hu hp hl
  · rw [eb p q hp hq] at hm
    rw [e3 p hp, e3 q hq]; exact h5 p q hp hq hm
  · rw [eb p q hp hq] at hm
    rw [e3 q hq] at hc
    rw [lgc u p hu] at hl
    exact h6 p q hp hq hm hc u hu hl
  · rw [eb p q hp hq] at hm
    rw [lgc u p (by omega)] at hl
    rw [lgc v q hv] at hl2
    exact h7 p q hp hq hm u v huv hv hl hl2
  · rw [e3 p hp]; exact h8 p hp hn
/-- no phase becomes green: greens may end in the second t -/
theorem zD_off (h : zD np t w a) (hwt : w ≤ t) (hc : ∀ p, p < 8 → (a' (3 + p) 3 = a (3 + p) 3 ∧ a' (3 + p) 9 = a (3 + p) 9) ∨ (¬ a' (3 + p) 3 = 1 ∧ a' (3 + p) 9 = nI t ∧ p < np) ∨ (¬ a (3 + p) 3 = 1 ∧ ¬ a' (3 + p) 3 = 1 ∧ a' (3 + p) 9 = a (3 + p) 9 ∧ p < np))
    (eb : ∀ p q, p < 8 → q < 8 → a' (12 + p) q = a (12 + p) q) (el : ∀ u, u < w → a' 22 u = a 22 u) (hC : ¬ ig_wk (a' 23) → ∀ p, p < 8 → a' (3 + p) 3 = 0) (hN : a' 23 4 = 0 → ¬ ig_wk (a' 23) ∧ a 23 4 = 0) : zD np t w a' := by
  obtain ⟨h1, h2, h3, h4, h5, h6, h7, h8⟩ := h
  have lgc : ∀ u p, u < w → zLg a' u p = zLg a u p := fun u p hu => zLg_of (el u hu)
  have gr : ∀ p, p < 8 → a' (3 + p) 3 = 1 → a (3 + p) 3 = 1 := by
    intro p hp hg
    rcases hc p hp with ⟨q1, _⟩ | ⟨q1, _⟩ | ⟨_, q1, _⟩
    · rw [← q1]; exact hg
    · exact absurd hg q1
    · exact absurd hg q1
  refine ⟨hC, fun hz => ?_, fun p hp => ?_, fun u p hu hp hl => ?_, fun p q hp hq hm hg => ?_, fun p q hp hq hm hg u hu hl => ?_, fun p q hp hq hm u v huv hv hl hl2 => ?_, fun p hp hn => ?_⟩
  · obtain ⟨g1, g2⟩ := hN hz
    exact ⟨g1, fun u p hu hp => by rw [lgc u p hu]; exact (h2 g2).2 u p hu hp⟩
  · rcases hc p hp with ⟨_, q2⟩ | ⟨_, q2, _⟩ | ⟨_, _, q2, _⟩
    · rw [q2]; exact h3 p hp
    · exact Or.inr ⟨t, Nat.le_refl _, q2⟩
    · rw [q2]; exact h3 p hp
  · rw [lgc u p hu] at hl
    rcases hc p hp with ⟨q1, q2⟩ | ⟨_, q2, _⟩ | ⟨q0, _, q2, _⟩
    · rw [q1, q2]; exact h4 u p hu hp hl
    · exact Or.inr ⟨t, by omega, Nat.le_refl _, q2⟩
    · rw [q2]
      exact Or.inr ((h4 u p hu hp hl).resolve_left q0)
  · rw [eb p q hp hq] at hm
    exact h5 p q hp hq hm ⟨gr p hp hg.1, gr q hq hg.2⟩
  · rw [eb p q hp hq] at hm
    rw [lgc u p hu] at hl
    exact h6 p q hp hq hm (gr q hq hg) u hu hl
  · rw [eb p q hp hq] at hm
    rw [lgc u p (by omega)] at hl
    rw [lgc v q hv] at hl2
    exact h7 p q hp hq hm u v huv hv hl hl2
  · rcases hc p hp with ⟨q1, _⟩ | ⟨_, _, q2⟩ | ⟨_, _, _, q2⟩
    · rw [q1]; exact h8 p hp hn
    · exact absurd q2 hn
    · exact absurd q2 hn
/-- one phase becomes green -/
theorem zD_on (h : zD np t w a) (hS : zS np ns a) (ht : t ≤ 5000) {k : Nat} (hk : k < np) (hnp : np ≤ 8) (hnb : ∀ q, q < 8 → 0 < a (12 + q) k → ¬ a (3 + q) 3 = 1 ∧ (a (3 + q) 9 = -1 ∨ ∃ e : Nat, e + 1 ≤ t ∧ a (3 + q) 9 = nI e)) (hwk : ig_wk (a 23))
    (e23 : a' 23 = a 23) (ek : a' (3 + k) 3 = 1) (e3 : ∀ p, p < 8 → ¬ p = k → a' (3 + p) 3 = a (3 + p) 3) (e9 : ∀ p, p < 8 → a' (3 + p) 9 = a (3 + p) 9) (eb : ∀ p q, p < 8 → q < 8 → a' (12 + p) q = a (12 + p) q) (el : ∀ u, u < w → a' 22 u = a 22 u) : zD np t w a' := by
  obtain ⟨h1, h2, h3, h4, h5, h6, h7, h8⟩ := h
  have lgc : ∀ u p, u < w → zLg a' u p = zLg a u p := fun u p hu => zLg_of (el u hu)
  have hn1 : ∀ e : Nat, e ≤ t → ¬ nI e = -1 := fun e he => nI_neg (by omega)
  refine ⟨fun hw => absurd (by rw [e23]; exact hwk) hw, fun hz => ?_, fun p hp => ?_, fun u p hu hp hl => ?_, fun p q hp hq hm hg => ?_, fun p q hp hq hm hg u hu hl => ?_, fun p q hp hq hm u v huv hv hl hl2 => ?_, fun p hp hn => ?_⟩
  · rw [e23] at hz
    exact absurd hwk (h2 hz).1
  · rw [e9 p hp]; exact h3 p hp
  · rw [lgc u p hu] at hl
    rw [e9 p hp]
    by_cases c : p = k
    · left; rw [c]; exact ek
    · rw [e3 p hp c]; exact h4 u p hu hp hl
  · rw [eb p q hp hq] at hm
    have hs := hS.2.1 p q hp hq hm
    by_cases c : p = k
    · by_cases d : q = k
      · exact hs.2.2.2 (c.trans d.symm)
      · have := (hnb q hq (by rw [← c]; exact hs.1)).1
        rw [e3 q hq d] at hg
        exact this hg.2
    · rw [e3 p hp c] at hg
      by_cases d : q = k
      · exact (hnb p hp (by rw [← d]; exact hm)).1 hg.1
      · rw [e3 q hq d] at hg
        exact h5 p q hp hq hm hg
  · rw [eb p q hp hq] at hm
    rw [lgc u p hu] at hl
    by_cases d : q = k
    · rw [d] at hm
      obtain ⟨g1, g2⟩ := hnb p hp hm
      obtain ⟨e, f1, f2, f3⟩ := (h4 u p hu hp hl).resolve_left g1
      rcases g2 with g2 | ⟨e2, f4, f5⟩
      · exact absurd (f3.symm.trans g2) (hn1 e f2)
      · have : e = e2 := (nI_eq (by omega) (by omega)).mp (f3.symm.trans f5)
        omega
    · rw [e3 q hq d] at hg
      exact h6 p q hp hq hm hg u hu hl
  · rw [eb p q hp hq] at hm
    rw [lgc u p (by omega)] at hl
    rw [lgc v q hv] at hl2
    exact h7 p q hp hq hm u v huv hv hl hl2
  · rw [e3 p hp (by omega)]; exact h8 p hp hn
/-- the log gets a row -/
theorem zD_write (h : zD np t t a) {V : Int32} (hV : ∀ p, p < 8 → ((V >>> ((2 * nI p) &&& 31)) &&& 3) = 1 → a (3 + p) 3 = 1) : zD np t (t + 1) (ig_up a 22 t V) := by
  obtain ⟨h1, h2, h3, h4, h5, h6, h7, h8⟩ := h
  have r : ∀ i, i ≠ 22 → ig_up a 22 t V i = a i := fun i hi => up_row hi
  have lgo : ∀ u p, u < t → zLg (ig_up a 22 t V) u p = zLg a u p := fun u p hu => zLg_of (by rw [up_app, if_pos rfl, if_neg (by omega)])
  have lgn : ∀ p, p < 8 → zLg (ig_up a 22 t V) t p = 1 → a (3 + p) 3 = 1 := fun p hp hl => by
    unfold zLg at hl
    rw [up_app, if_pos rfl, if_pos rfl] at hl
    exact hV p hp hl
  have r3 : ∀ p j, p < 8 → ig_up a 22 t V (3 + p) j = a (3 + p) j := fun p j hp => by rw [r (3 + p) (by omega)]
  have rb : ∀ p j, p < 8 → ig_up a 22 t V (12 + p) j = a (12 + p) j := fun p j hp => by rw [r (12 + p) (by omega)]
  rw [zD, r 23 (by omega)]
  refine ⟨fun hw p hp => ?_, fun hz => ?_, fun p hp => ?_, fun u p hu hp hl => ?_, fun p q hp hq hm hg => ?_, fun p q hp hq hm hg u hu hl => ?_, fun p q hp hq hm u v huv hv hl hl2 => ?_, fun p hp hn => ?_⟩
  · rw [r3 p 3 hp]; exact h1 hw p hp
  · obtain ⟨g1, g2⟩ := h2 hz
    refine ⟨g1, fun u p hu hp hl => ?_⟩
    by_cases c : u = t
    · subst c
      have := lgn p hp hl
      rw [h1 g1 p hp] at this
      exact absurd this (by decide)
    · rw [lgo u p (by omega)] at hl
      exact g2 u p (by omega) hp hl
  · rw [r3 p 9 hp]; exact h3 p hp
  · rw [r3 p 3 hp, r3 p 9 hp]
    by_cases c : u = t
    · subst c; exact Or.inl (lgn p hp hl)
    · rw [lgo u p (by omega)] at hl
      exact h4 u p (by omega) hp hl
  · rw [rb p q hp] at hm
    rw [r3 p 3 hp, r3 q 3 hq] at hg
    exact h5 p q hp hq hm hg
  · rw [rb p q hp] at hm
    rw [r3 q 3 hq] at hg
    by_cases c : u = t
    · subst c
      exact absurd ⟨lgn p hp hl, hg⟩ (h5 p q hp hq hm)
    · rw [lgo u p (by omega)] at hl
      exact h6 p q hp hq hm hg u (by omega) hl
  · rw [rb p q hp] at hm
    rw [lgo u p (by omega)] at hl
    by_cases c : v = t
    · subst c
      exact h6 p q hp hq hm (lgn q hq hl2) u huv hl
    · rw [lgo v q (by omega)] at hl2
      exact h7 p q hp hq hm u v huv (by omega) hl hl2
  · rw [r3 p 3 hp]; exact h8 p hp hn
/-- the next second -/
theorem zD_tick (h : zD np t (t + 1) a) (v : Int32) : zD np (t + 1) (t + 1) (ig_up a 23 6 v) := by
  have h0 : zD np t (t + 1) (ig_up a 23 6 v) := zD_congr h (by rw [up_app]; rfl) (by rw [up_app]; rfl) (fun p hp => by rw [up_row (by omega)]) (fun p hp => by rw [up_row (by omega)]) (fun p q hp _ => by rw [up_row (by omega)]) (fun u _ => by rw [up_row (by omega)])
  obtain ⟨h1, h2, h3, h4, h5, h6, h7, h8⟩ := h0
  refine ⟨h1, h2, fun p hp => ?_, fun u p hu hp hl => ?_, h5, fun p q hp hq hm hg u hu hl => ?_, h7, h8⟩
  · rcases h3 p hp with q | ⟨e, q1, q2⟩
    · exact Or.inl q
    · exact Or.inr ⟨e, by omega, q2⟩
  · rcases h4 u p hu hp hl with q | ⟨e, q1, q2, q3⟩
    · exact Or.inl q
    · exact Or.inr ⟨e, q1, by omega, q3⟩
  · have := h6 p q hp hq hm hg u hu hl
    omega
/-- folds of changes, each in a row of its own -/
theorem fold_at {F : Nat → ig_M → ig_M} (hoff : ∀ k x i, i ≠ 3 + k → F k x i = x i) (hloc : ∀ k x y, x (3 + k) = y (3 + k) → x 23 = y 23 → F k x (3 + k) = F k y (3 + k)) (a : ig_M) : ∀ n, n ≤ 8 → (∀ i, (∀ p, p < n → i ≠ 3 + p) → foldN F n a i = a i) ∧ ∀ p, p < n → foldN F n a (3 + p) = F p a (3 + p)
  | 0, _ => ⟨fun _ _ => rfl, fun p hp => absurd hp (Nat.not_lt_zero p)⟩
  | n + 1, hn => by
    obtain ⟨i1, i2⟩ := fold_at hoff hloc a n (by omega)
    refine ⟨fun i hi => ?_, fun p hp => ?_⟩
    · show F n (foldN F n a) i = a i
      rw [hoff n _ i (hi n (by omega)), i1 i (fun p hp => hi p (by omega))]
    · show F n (foldN F n a) (3 + p) = F p a (3 + p)
      by_cases c : p = n
      · subst c
        exact hloc p _ _ (i1 (3 + p) (fun q hq => by omega)) (i1 23 (fun q hq => by omega))
      · rw [hoff n _ (3 + p) (by omega)]
        exact i2 p (by omega)
end ZINV
