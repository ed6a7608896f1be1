/-! ===== two objects that are the same answer alike ===== -/
section ZALIKE
variable {a : ig_M} {la : Int64}
theorem lgc_0 {x : Int64} : lg_cmp x x = 0 := (cmp0 x x).mpr rfl
theorem alike_go (v : Int32) : ∀ (n k : Nat) (a : ig_M) (la : Int64), k + n = 8 → zI a la → ∃ a' la', zI a' la' ∧ ∀ post : Int32 → ig_M → Int64 → ig_M → Int64 → Prop, post 1 a' la' a' la' → wp_L_areAlike_32 post (n + 1) a la a la v 1 (nI k)
  | 0, k, a, la, hk, hI => by
    have e : k = 8 := by omega
    subst e
    exact ⟨a, la, hI, fun post hp => ⟨fun _ => ⟨Or.inr rfl, hp⟩, fun z => absurd (le_self 8) z⟩⟩
  | n + 1, k, a, la, hk, hI => by
    obtain ⟨r1, a1, l1, A1, I1, _⟩ := d_of hI (nI k)
    obtain ⟨r2, a2, l2, A2, I2, _⟩ := d_ofPhase I1 (nI k) ((v &&& 2147483647) - (v &&& 2147483647) / 7 * 7)
    obtain ⟨r3, a3, l3, A3, I3, _⟩ := d_seen I2 (nI k) ((v &&& 2147483647) - (v &&& 2147483647) / 4 * 4)
    obtain ⟨r4, a4, l4, A4, I4, _⟩ := d_inRound I3 (nI k)
    obtain ⟨a', la', I', A'⟩ := alike_go v n (k + 1) a4 l4 (by omega) I4
    refine ⟨a', la', I', fun post hp => ?_⟩
    have h7 : ¬ (7 : Int32) = 0 := by decide
    have h4 : ¬ (4 : Int32) = 0 := by decide
    refine ⟨fun z => absurd z (nle_of (i := k) (n := 8) (by omega) (by omega)), fun _ => ⟨fun z => absurd z ne10, fun _ => A1 _ (A1 _ ⟨fun z => absurd rfl z, fun _ => ⟨h7, A2 _ ⟨h7, A2 _ ?_⟩⟩⟩)⟩⟩
    refine ⟨fun z => absurd rfl z, fun _ => ⟨h4, A3 _ ⟨h4, A3 _ ⟨fun z => absurd rfl z, fun _ => A4 _ (A4 _ ⟨fun z => absurd rfl z, fun _ => ?_⟩)⟩⟩⟩⟩
    rw [nI_1]
    exact A' post hp
theorem d_alike (hI : zI a la) (v : Int32) : ∃ a' la', zI a' la' ∧ ∀ post : Int32 → ig_M → Int64 → ig_M → Int64 → Prop, post 1 a' la' a' la' → wp_L_areAlike a la a la v post := by
  obtain ⟨r, a1, l1, A1, I1, _⟩ := d_round hI
  obtain ⟨a', la', I', A'⟩ := alike_go v 8 0 a1 l1 rfl I1
  refine ⟨a', la', I', fun post hp => ?_⟩
  exact ⟨fun z => absurd lgc_0 z, fun _ => A1 _ (A1 _ ⟨fun z => absurd rfl z, fun _ => ⟨9, by omega, A' post hp⟩⟩)⟩
end ZALIKE
