/-! ===== what act does: one outcome ===== -/
section ZACT
variable {a : ig_M} {la : Int64}
theorem zOut_if {c : Prop} {A B : (Int32 → ig_M → Int64 → Prop) → Prop} (hA : c → zOut A a la) (hB : ¬ c → zOut B a la) : zOut (fun post => (c → A post) ∧ (¬ c → B post)) a la := by
  by_cases h : c
  · obtain ⟨r, a', la', h1, h2⟩ := hA h
    exact ⟨r, a', la', fun post hp => ⟨fun _ => h1 post hp, fun z => absurd h z⟩, h2⟩
  · obtain ⟨r, a', la', h1, h2⟩ := hB h
    exact ⟨r, a', la', fun post hp => ⟨fun z => absurd z h, fun _ => h1 post hp⟩, h2⟩
theorem zOut_fi {c : Prop} {A B : (Int32 → ig_M → Int64 → Prop) → Prop} (hA : ¬ c → zOut A a la) (hB : c → zOut B a la) : zOut (fun post => (¬ c → A post) ∧ (c → B post)) a la := by
  by_cases h : c
  · obtain ⟨r, a', la', h1, h2⟩ := hB h
    exact ⟨r, a', la', fun post hp => ⟨fun z => absurd h z, fun _ => h1 post hp⟩, h2⟩
  · obtain ⟨r, a', la', h1, h2⟩ := hA h
    exact ⟨r, a', la', fun post hp => ⟨fun _ => h1 post hp, fun z => absurd z h⟩, h2⟩
theorem zOut_low {x n : Int32} (hn : ¬ n = 0) {K : Int32 → (Int32 → ig_M → Int64 → Prop) → Prop} (h : ∀ v, zOut (K v) a la) : zOut (fun post => wp_L_low x n (fun r => K r post)) a la := by
  obtain ⟨r, a', la', h1, h2⟩ := h ((x &&& 2147483647) - (x &&& 2147483647) / n * n)
  exact ⟨r, a', la', fun post hp => ⟨hn, h1 post hp⟩, h2⟩
theorem zOut_of2 (hI : zI a la) {x : Int32} {K : Int32 → (Int32 → ig_M → Int64 → Prop) → Prop} (h : ∀ v, zOut (K v) a la) : zOut (fun post => wp_X5_of a la 2 (fun r1 => wp_L_low x (1 + r1) (fun r => K r post)) (fun _ => False)) a la := by
  obtain ⟨np, ns, t, b, h4, h3, hQ, hM⟩ := hI
  have e5 : a 23 6 = nI t := hQ.1.1.2.2.2.2.2.1
  have ht : t ≤ 5000 := hQ.1.1.1.2.2
  have hn : ¬ 1 + a 23 6 = 0 := by
    rw [e5, show (1 : Int32) + nI t = nI (1 + t) from nI_add 1 t]
    exact fun z => absurd ((nI_eq (a := 1 + t) (b := 0) (by omega) (by omega)).mp z) (by omega)
  obtain ⟨r, a', la', h1, h2⟩ := h ((x &&& 2147483647) - (x &&& 2147483647) / (1 + a 23 6) * (1 + a 23 6))
  exact ⟨r, a', la', fun post hp => w_ofOk (by decide) _ _ ⟨hn, h1 post hp⟩, h2⟩
theorem o_514 (hI : zI a la) (t0 t1 : Int32) : zOut (fun post => wp_L_act_514 post a la t0 t1) a la := by
  unfold wp_L_act_514
  exact d_arrive hI _ _
theorem o_412 (hI : zI a la) (t0 t1 t2 t3 : Int32) : zOut (fun post => wp_L_act_412 post a la t0 t1 t2 t3) a la := by
  unfold wp_L_act_412
  exact d_meet hI _ _ _ _
theorem o_392 (hI : zI a la) (x1 x2 x6 t0 t1 t2 : Int32) : zOut (fun post => wp_L_act_392 post a la x1 x2 x6 t0 t1 t2) a la := by
  unfold wp_L_act_392
  refine zOut_if (fun _ => ?_) (fun _ => ?_)
  · refine zOut_low (by decide) (fun _ => ?_)
    exact o_412 hI _ _ _ _
  · exact o_412 hI _ _ _ _
theorem o_459 (hI : zI a la) (t0 : Int32) : zOut (fun post => wp_L_act_459 post a la t0) a la := by
  unfold wp_L_act_459
  exact d_start hI _
theorem o_364 (hI : zI a la) (t0 t1 t2 : Int32) : zOut (fun post => wp_L_act_364 post a la t0 t1 t2) a la := by
  unfold wp_L_act_364
  exact d_phase hI _ _ _
theorem o_353 (hI : zI a la) (x2 x5 x6 t0 t1 : Int32) : zOut (fun post => wp_L_act_353 post a la x2 x5 x6 t0 t1) a la := by
  unfold wp_L_act_353
  refine zOut_if (fun _ => ?_) (fun _ => ?_)
  · exact o_364 hI _ _ _
  · exact o_364 hI _ _ _
theorem o_332 (hI : zI a la) (x1 x2 x5 x6 t0 : Int32) : zOut (fun post => wp_L_act_332 post a la x1 x2 x5 x6 t0) a la := by
  unfold wp_L_act_332
  refine zOut_if (fun _ => ?_) (fun _ => ?_)
  · refine zOut_low (by decide) (fun _ => ?_)
    exact o_353 hI _ _ _ _ _
  · exact o_353 hI _ _ _ _ _
theorem o_657 (hI : zI a la) (t0 t1 : Int32) : zOut (fun post => wp_L_act_657 post a la t0 t1) a la := by
  unfold wp_L_act_657
  exact d_ofPhase hI _ _
theorem o_724 (hI : zI a la) (x1 t0 : Int32) : zOut (fun post => wp_L_act_724 post a la x1 t0) a la := by
  unfold wp_L_act_724
  refine zOut_low (by decide) (fun _ => ?_)
  exact d_change hI _ _
theorem o_604 (hI : zI a la) (t0 : Int32) : zOut (fun post => wp_L_act_604 post a la t0) a la := by
  unfold wp_L_act_604
  exact d_go hI _
theorem o_564 (hI : zI a la) {t0 : Int32} (ht : t0 = 0 ∨ t0 = 1) (t1 t2 : Int32) : zOut (fun post => wp_L_act_564 post a la t0 t1 t2) a la := by
  unfold wp_L_act_564
  exact d_breaks hI _ _ _ ht
theorem o_548 (hI : zI a la) (x1 t0 t1 : Int32) : zOut (fun post => wp_L_act_548 post a la x1 t0 t1) a la := by
  unfold wp_L_act_548
  refine zOut_low (by decide) (fun _ => ?_)
  refine zOut_fi (fun _ => ?_) (fun _ => ?_)
  · exact o_564 hI (Or.inl rfl) _ _
  · exact o_564 hI (Or.inr rfl) _ _
theorem o_679 (hI : zI a la) (t0 : Int32) : zOut (fun post => wp_L_act_679 post a la t0) a la := by
  unfold wp_L_act_679
  exact d_of hI _
theorem o_437 (hI : zI a la) (t0 : Int32) : zOut (fun post => wp_L_act_437 post a la t0) a la := by
  unfold wp_L_act_437
  exact d_stage hI _
theorem o_759 (hI : zI a la) (t0 : Int32) : zOut (fun post => wp_L_act_759 post a la t0) a la := by
  unfold wp_L_act_759
  exact d_inRound hI _
theorem o_633 (hI : zI a la) (t0 t1 : Int32) : zOut (fun post => wp_L_act_633 post a la t0 t1) a la := by
  unfold wp_L_act_633
  exact d_lamp hI _ _
theorem o_119 (hI : zI a la) (x1 x2 x3 x4 x5 t0 : Int32) : zOut (fun post => wp_L_act_119 post a la x1 x2 x3 x4 x5 t0) a la := by
  unfold wp_L_act_119
  refine zOut_low (by decide) (fun _ => ?_)
  refine zOut_if (fun _ => ?_) (fun _ => ?_)
  · refine zOut_if (fun _ => ?_) (fun _ => ?_)
    · refine zOut_low (by decide) (fun _ => ?_)
      exact o_332 hI _ _ _ _ _
    · exact o_332 hI _ _ _ _ _
  · refine zOut_if (fun _ => ?_) (fun _ => ?_)
    · refine zOut_if (fun _ => ?_) (fun _ => ?_)
      · refine zOut_low (by decide) (fun _ => ?_)
        exact o_392 hI _ _ _ _ _ _
      · exact o_392 hI _ _ _ _ _ _
    · refine zOut_if (fun _ => ?_) (fun _ => ?_)
      · refine zOut_if (fun _ => ?_) (fun _ => ?_)
        · refine zOut_low (by decide) (fun _ => ?_)
          exact o_437 hI _
        · exact o_437 hI _
      · refine zOut_if (fun _ => ?_) (fun _ => ?_)
        · refine zOut_if (fun _ => ?_) (fun _ => ?_)
          · refine zOut_low (by decide) (fun _ => ?_)
            exact o_459 hI _
          · exact o_459 hI _
        · refine zOut_if (fun _ => ?_) (fun _ => ?_)
          · refine zOut_if (fun _ => ?_) (fun _ => ?_)
            · refine zOut_low (by decide) (fun _ => ?_)
              exact o_459 hI _
            · exact o_459 hI _
          · refine zOut_if (fun _ => ?_) (fun _ => ?_)
            · refine zOut_if (fun _ => ?_) (fun _ => ?_)
              · refine zOut_low (by decide) (fun _ => ?_)
                exact o_459 hI _
              · exact o_459 hI _
            · refine zOut_if (fun _ => ?_) (fun _ => ?_)
              · refine zOut_if (fun _ => ?_) (fun _ => ?_)
                · refine zOut_low (by decide) (fun _ => ?_)
                  exact o_459 hI _
                · exact o_459 hI _
              · refine zOut_if (fun _ => ?_) (fun _ => ?_)
                · refine zOut_if (fun _ => ?_) (fun _ => ?_)
                  · refine zOut_low (by decide) (fun _ => ?_)
                    exact o_459 hI _
                  · exact o_459 hI _
                · refine zOut_if (fun _ => ?_) (fun _ => ?_)
                  · refine zOut_low (by decide) (fun _ => ?_)
                    refine zOut_fi (fun _ => ?_) (fun _ => ?_)
                    · exact d_anew hI
                    · exact d_stop hI
                  · refine zOut_if (fun _ => ?_) (fun _ => ?_)
                    · exact d_press hI _
                    · refine zOut_if (fun _ => ?_) (fun _ => ?_)
                      · exact d_press hI _
                      · refine zOut_if (fun _ => ?_) (fun _ => ?_)
                        · exact d_press hI _
                        · refine zOut_if (fun _ => ?_) (fun _ => ?_)
                          · refine zOut_if (fun _ => ?_) (fun _ => ?_)
                            · refine zOut_low (by decide) (fun _ => ?_)
                              exact o_514 hI _ _
                            · exact o_514 hI _ _
                          · refine zOut_if (fun _ => ?_) (fun _ => ?_)
                            · refine zOut_if (fun _ => ?_) (fun _ => ?_)
                              · refine zOut_low (by decide) (fun _ => ?_)
                                exact o_514 hI _ _
                              · exact o_514 hI _ _
                            · refine zOut_if (fun _ => ?_) (fun _ => ?_)
                              · refine zOut_if (fun _ => ?_) (fun _ => ?_)
                                · refine zOut_low (by decide) (fun _ => ?_)
                                  exact o_514 hI _ _
                                · exact o_514 hI _ _
                              · refine zOut_if (fun _ => ?_) (fun _ => ?_)
                                · refine zOut_if (fun _ => ?_) (fun _ => ?_)
                                  · refine zOut_low (by decide) (fun _ => ?_)
                                    exact o_514 hI _ _
                                  · exact o_514 hI _ _
                                · refine zOut_if (fun _ => ?_) (fun _ => ?_)
                                  · refine zOut_if (fun _ => ?_) (fun _ => ?_)
                                    · refine zOut_low (by decide) (fun _ => ?_)
                                      exact o_514 hI _ _
                                    · exact o_514 hI _ _
                                  · refine zOut_if (fun _ => ?_) (fun _ => ?_)
                                    · exact d_ask hI _
                                    · refine zOut_if (fun _ => ?_) (fun _ => ?_)
                                      · exact d_ask hI _
                                      · refine zOut_if (fun _ => ?_) (fun _ => ?_)
                                        · exact d_cancel hI
                                        · refine zOut_if (fun _ => ?_) (fun _ => ?_)
                                          · exact d_cancel hI
                                          · refine zOut_if (fun _ => ?_) (fun _ => ?_)
                                            · refine zOut_if (fun _ => ?_) (fun _ => ?_)
                                              · refine zOut_low (by decide) (fun _ => ?_)
                                                exact o_548 hI _ _ _
                                              · exact o_548 hI _ _ _
                                            · refine zOut_if (fun _ => ?_) (fun _ => ?_)
                                              · refine zOut_low (by decide) (fun _ => ?_)
                                                exact d_breaks hI _ _ 0 (Or.inl rfl)
                                              · refine zOut_if (fun _ => ?_) (fun _ => ?_)
                                                · refine zOut_if (fun _ => ?_) (fun _ => ?_)
                                                  · refine zOut_low (by decide) (fun _ => ?_)
                                                    exact o_604 hI _
                                                  · exact o_604 hI _
                                                · refine zOut_if (fun _ => ?_) (fun _ => ?_)
                                                  · refine zOut_if (fun _ => ?_) (fun _ => ?_)
                                                    · refine zOut_low (by decide) (fun _ => ?_)
                                                      exact o_604 hI _
                                                    · exact o_604 hI _
                                                  · refine zOut_if (fun _ => ?_) (fun _ => ?_)
                                                    · refine zOut_if (fun _ => ?_) (fun _ => ?_)
                                                      · refine zOut_low (by decide) (fun _ => ?_)
                                                        exact o_604 hI _
                                                      · exact o_604 hI _
                                                    · refine zOut_if (fun _ => ?_) (fun _ => ?_)
                                                      · refine zOut_if (fun _ => ?_) (fun _ => ?_)
                                                        · refine zOut_low (by decide) (fun _ => ?_)
                                                          exact o_604 hI _
                                                        · exact o_604 hI _
                                                      · refine zOut_if (fun _ => ?_) (fun _ => ?_)
                                                        · refine zOut_if (fun _ => ?_) (fun _ => ?_)
                                                          · refine zOut_low (by decide) (fun _ => ?_)
                                                            exact o_604 hI _
                                                          · exact o_604 hI _
                                                        · refine zOut_if (fun _ => ?_) (fun _ => ?_)
                                                          · refine zOut_if (fun _ => ?_) (fun _ => ?_)
                                                            · refine zOut_low (by decide) (fun _ => ?_)
                                                              exact o_604 hI _
                                                            · exact o_604 hI _
                                                          · refine zOut_if (fun _ => ?_) (fun _ => ?_)
                                                            · refine zOut_if (fun _ => ?_) (fun _ => ?_)
                                                              · refine zOut_low (by decide) (fun _ => ?_)
                                                                exact o_604 hI _
                                                              · exact o_604 hI _
                                                            · refine zOut_if (fun _ => ?_) (fun _ => ?_)
                                                              · refine zOut_if (fun _ => ?_) (fun _ => ?_)
                                                                · refine zOut_low (by decide) (fun _ => ?_)
                                                                  exact o_604 hI _
                                                                · exact o_604 hI _
                                                              · refine zOut_if (fun _ => ?_) (fun _ => ?_)
                                                                · refine zOut_if (fun _ => ?_) (fun _ => ?_)
                                                                  · refine zOut_low (by decide) (fun _ => ?_)
                                                                    exact o_604 hI _
                                                                  · exact o_604 hI _
                                                                · refine zOut_if (fun _ => ?_) (fun _ => ?_)
                                                                  · refine zOut_if (fun _ => ?_) (fun _ => ?_)
                                                                    · refine zOut_low (by decide) (fun _ => ?_)
                                                                      exact o_604 hI _
                                                                    · exact o_604 hI _
                                                                  · refine zOut_if (fun _ => ?_) (fun _ => ?_)
                                                                    · refine zOut_if (fun _ => ?_) (fun _ => ?_)
                                                                      · refine zOut_of2 hI (fun _ => ?_)
                                                                        exact o_633 hI _ _
                                                                      · exact o_633 hI _ _
                                                                    · refine zOut_if (fun _ => ?_) (fun _ => ?_)
                                                                      · refine zOut_if (fun _ => ?_) (fun _ => ?_)
                                                                        · refine zOut_low (by decide) (fun _ => ?_)
                                                                          exact o_657 hI _ _
                                                                        · exact o_657 hI _ _
                                                                      · refine zOut_if (fun _ => ?_) (fun _ => ?_)
                                                                        · refine zOut_if (fun _ => ?_) (fun _ => ?_)
                                                                          · refine zOut_low (by decide) (fun _ => ?_)
                                                                            exact o_657 hI _ _
                                                                          · exact o_657 hI _ _
                                                                        · refine zOut_if (fun _ => ?_) (fun _ => ?_)
                                                                          · refine zOut_if (fun _ => ?_) (fun _ => ?_)
                                                                            · refine zOut_low (by decide) (fun _ => ?_)
                                                                              exact o_679 hI _
                                                                            · exact o_679 hI _
                                                                          · refine zOut_if (fun _ => ?_) (fun _ => ?_)
                                                                            · refine zOut_if (fun _ => ?_) (fun _ => ?_)
                                                                              · refine zOut_low (by decide) (fun _ => ?_)
                                                                                exact o_679 hI _
                                                                              · exact o_679 hI _
                                                                            · refine zOut_if (fun _ => ?_) (fun _ => ?_)
                                                                              · exact d_delays hI
                                                                              · refine zOut_if (fun _ => ?_) (fun _ => ?_)
                                                                                · exact d_seen hI _ _
                                                                                · refine zOut_if (fun _ => ?_) (fun _ => ?_)
                                                                                  · refine zOut_if (fun _ => ?_) (fun _ => ?_)
                                                                                    · refine zOut_low (by decide) (fun _ => ?_)
                                                                                      exact o_724 hI _ _
                                                                                    · exact o_724 hI _ _
                                                                                  · refine zOut_if (fun _ => ?_) (fun _ => ?_)
                                                                                    · exact d_round hI
                                                                                    · refine zOut_if (fun _ => ?_) (fun _ => ?_)
                                                                                      · refine zOut_if (fun _ => ?_) (fun _ => ?_)
                                                                                        · refine zOut_low (by decide) (fun _ => ?_)
                                                                                          exact o_759 hI _
                                                                                        · exact o_759 hI _
                                                                                      · exact d_go hI _
theorem o_91 (hI : zI a la) (x1 x2 x3 x4 t0 : Int32) : zOut (fun post => wp_L_act_91 post a la x1 x2 x3 x4 t0) a la := by
  unfold wp_L_act_91
  refine zOut_if (fun _ => ?_) (fun _ => ?_)
  · refine zOut_low (by decide) (fun _ => ?_)
    exact o_119 hI _ _ _ _ _ _
  · refine zOut_low (by decide) (fun _ => ?_)
    exact o_119 hI _ _ _ _ _ _
theorem o_69 (hI : zI a la) (x1 x2 x3 t0 : Int32) : zOut (fun post => wp_L_act_69 post a la x1 x2 x3 t0) a la := by
  unfold wp_L_act_69
  refine zOut_if (fun _ => ?_) (fun _ => ?_)
  · refine zOut_low (by decide) (fun _ => ?_)
    exact o_91 hI _ _ _ _ _
  · exact o_91 hI _ _ _ _ _
theorem o_42 (hI : zI a la) (x1 x2 t0 : Int32) : zOut (fun post => wp_L_act_42 post a la x1 x2 t0) a la := by
  unfold wp_L_act_42
  refine zOut_if (fun _ => ?_) (fun _ => ?_)
  · refine zOut_low (by decide) (fun _ => ?_)
    exact o_69 hI _ _ _ _
  · refine zOut_low (by decide) (fun _ => ?_)
    exact o_69 hI _ _ _ _
theorem o_17 (hI : zI a la) (x1 t0 : Int32) : zOut (fun post => wp_L_act_17 post a la x1 t0) a la := by
  unfold wp_L_act_17
  refine zOut_if (fun _ => ?_) (fun _ => ?_)
  · refine zOut_low (by decide) (fun _ => ?_)
    exact o_42 hI _ _ _
  · refine zOut_low (by decide) (fun _ => ?_)
    exact o_42 hI _ _ _
theorem o_act (hI : zI a la) (x1 : Int32) : zOut (wp_L_act a la x1) a la := by
  unfold wp_L_act
  refine zOut_low (by decide) (fun _ => ?_)
  refine zOut_fi (fun _ => ?_) (fun _ => ?_)
  · exact o_17 hI _ _
  · exact o_17 hI _ _
end ZACT
