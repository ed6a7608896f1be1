/-! ===== the whole law, without the machine ===== -/
section ZLAW
variable {xs : Nat → Int32} {Ln : Nat} {a : ig_M} {la : Int64}
theorem w_cell (hL : Ln ≤ 260) {i : Nat} (hi : i ≤ 100) : ∃ v, ∀ post : Int32 → Prop, post v → wp_L_cell xs Ln (nI i) post := by
  have e : Int32.ofNat Ln = nI Ln := rfl
  by_cases h : Ln ≤ i
  · refine ⟨(7919 * (nI i + 3023)) * (nI i + 709), fun post hp => ⟨fun _ => hp, fun z => absurd ?_ z⟩⟩
    rw [e]
    exact nI_le h (by omega)
  · have hlt : ¬ Int32.ofNat Ln ≤ nI i := by
      rw [e]
      exact nI_ge (by omega) (by omega)
    exact ⟨xs (nI i).toNatClampNeg, fun post hp => ⟨fun z => absurd z hlt, fun _ => ⟨vp_in_nI (by omega) (by omega), hp⟩⟩⟩
theorem law_75 (hI : zI a la) (k : ig_M → Int64 → ig_M → Int64 → Int32 → Prop) (x3 v : Int32) (hk : ∀ a' la', zI a' la' → k a' la' a' la' (x3 + 1)) : wp_L_law_75 xs Ln k a la a la x3 v := by
  refine ⟨by decide, fun _ => hk a la hI, fun _ => ?_⟩
  obtain ⟨a', la', I', A'⟩ := d_alike hI (v >>> (3 &&& 31))
  exact A' _ ⟨fun _ => hk a' la' I', fun z => absurd z ne10⟩
theorem law_go (hL : Ln ≤ 260) : ∀ (n i : Nat) (a : ig_M) (la : Int64), i + n = 100 → zI a la → wp_L_law_36 xs Ln (n + 1) a la a la (nI i)
  | 0, i, a, la, hi, hI => by
    have e : i = 100 := by omega
    subst e
    obtain ⟨v, hv⟩ := w_cell (xs := xs) hL (i := 100) (by omega)
    exact ⟨fun _ => hv _ (d_isSo hI v), fun z => absurd (le_self 100) z⟩
  | n + 1, i, a, la, hi, hI => by
    obtain ⟨v, hv⟩ := w_cell (xs := xs) hL (i := i) (by omega)
    obtain ⟨r, a', la', A, I', hth⟩ := o_act hI v
    have ih := fun a' la' (h : zI a' la') => law_go hL n (i + 1) a' la' (by omega) h
    refine ⟨fun z => absurd z (nle_of (i := i) (n := 100) (by omega) (by omega)), fun _ => hv _ (A _ ⟨fun hr => ?_, fun _ => A _ ⟨fun z => absurd rfl z, fun _ => ?_⟩⟩)⟩
    · obtain ⟨rfl, rfl⟩ := hth hr
      refine law_75 I' _ _ _ fun a1 l1 h1 => ?_
      rw [nI_1]
      exact ih a1 l1 h1
    · refine law_75 I' _ _ _ fun a1 l1 h1 => ?_
      rw [nI_1]
      exact ih a1 l1 h1
theorem ig_pure (xs : Nat → Int32) (Ln : Nat) (hL : Ln ≤ 260) : wp_L_law xs Ln ig_a0 0 ig_a0 0 := by
  obtain ⟨v, hv⟩ := w_cell (xs := xs) hL (i := 0) (by omega)
  obtain ⟨a, la, hI, A⟩ := d_prepare v
  exact hv _ (A _ (hv _ (A _ ⟨100, by omega, law_go hL 99 1 a la rfl hI⟩)))
end ZLAW
