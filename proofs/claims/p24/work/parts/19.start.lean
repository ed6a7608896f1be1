def ig_of (i : Nat) : Nat := if 3 ≤ i ∧ i ≤ 10 then i + 10 else if 11 ≤ i ∧ i ≤ 20 then i - 8 else i
def ig_ad1 (bs : Nat) : Nat → Nat := fun i => bs + ig_of i
def ig_ad (bs : Nat) : Nat → Nat := fun i => if i < 97 then bs + ig_of i else bs + 97 + ig_of (i - 97)
theorem ig_of_lt {i : Nat} (h : i < 97) : ig_of i < 97 := by
  unfold ig_of
  by_cases h1 : 3 ≤ i ∧ i ≤ 10
  · rw [if_pos h1]; omega
  · rw [if_neg h1]
    by_cases h2 : 11 ≤ i ∧ i ≤ 20
    · rw [if_pos h2]; omega
    · rw [if_neg h2]; exact h
theorem ig_of_inj {i j : Nat} (h : ig_of i = ig_of j) : i = j := by
  unfold ig_of at h
  split at h <;> split at h <;> (try split at h) <;> (try split at h) <;> omega
theorem ig_ad_inj {bs i j : Nat} (hi : i < 194) (hj : j < 194) (h : ig_ad bs i = ig_ad bs j) : i = j := by
  unfold ig_ad at h
  by_cases c : i < 97
  · have := ig_of_lt c
    rw [if_pos c] at h
    by_cases d : j < 97
    · rw [if_pos d] at h
      exact ig_of_inj (by omega)
    · rw [if_neg d] at h
      omega
  · rw [if_neg c] at h
    by_cases d : j < 97
    · have := ig_of_lt d
      rw [if_pos d] at h
      omega
    · rw [if_neg d] at h
      have := ig_of_inj (i := i - 97) (j := j - 97) (by omega)
      omega
theorem ig_ad_le (bs i : Nat) : bs ≤ ig_ad bs i := by
  unfold ig_ad
  split <;> omega
def ig_a0 : ig_M := fun i => if 3 ≤ i ∧ i ≤ 10 then (fun j => if j = 9 then -1 else 0) else if i = 23 then (fun j => if j = 3 ∨ j = 5 then -1 else 0) else fun _ => 0
def ig_h1 : Nat → va_E := ig_gu (fun _ => .inr (0, [])) 0 (.inr (5, [.null, .null, .null, .null]))
theorem ig_rf_eq (bs n b0 c0 : Nat) (h : ∀ k, k < n → ig_ad1 bs (b0 + k) = bs + c0 + k) : (fun k => if k < n then some (bs + c0 + k) else none) = ig_rf (ig_ad1 bs) n b0 := by
  funext k
  unfold ig_rf
  by_cases hk : k < n
  · rw [if_pos hk, if_pos hk, h k hk]
  · rw [if_neg hk, if_neg hk]
theorem ig_h_0 (kk : Nat → ClassId) (bs : Nat) : ig_gX5_i kk bs ig_h1 0 = ig_c1 kk (ig_ad1 bs) 0 (ig_a0 0) 0 := rfl
theorem ig_h_1 (kk : Nat → ClassId) (bs : Nat) : ig_gX5_i kk bs ig_h1 1 = ig_c1 kk (ig_ad1 bs) 0 (ig_a0 1) 1 := rfl
theorem ig_h_2 (kk : Nat → ClassId) (bs : Nat) : ig_gX5_i kk bs ig_h1 2 = ig_c1 kk (ig_ad1 bs) 0 (ig_a0 2) 2 := (congrArg (ig_ra (kk 3) 8) ((funext fun k => by by_cases h : k < 8 <;> simp only [h, if_true, if_false, Nat.add_assoc]).trans (ig_rf_eq bs 8 3 13 (fun k hk => by unfold ig_ad1 ig_of; rw [if_pos (by omega)]; omega))))
theorem ig_h_3 (kk : Nat → ClassId) (bs : Nat) : ig_gX5_i kk bs ig_h1 13 = ig_c1 kk (ig_ad1 bs) 0 (ig_a0 3) 3 := rfl
theorem ig_h_4 (kk : Nat → ClassId) (bs : Nat) : ig_gX5_i kk bs ig_h1 14 = ig_c1 kk (ig_ad1 bs) 0 (ig_a0 4) 4 := rfl
theorem ig_h_5 (kk : Nat → ClassId) (bs : Nat) : ig_gX5_i kk bs ig_h1 15 = ig_c1 kk (ig_ad1 bs) 0 (ig_a0 5) 5 := rfl
theorem ig_h_6 (kk : Nat → ClassId) (bs : Nat) : ig_gX5_i kk bs ig_h1 16 = ig_c1 kk (ig_ad1 bs) 0 (ig_a0 6) 6 := rfl
theorem ig_h_7 (kk : Nat → ClassId) (bs : Nat) : ig_gX5_i kk bs ig_h1 17 = ig_c1 kk (ig_ad1 bs) 0 (ig_a0 7) 7 := rfl
theorem ig_h_8 (kk : Nat → ClassId) (bs : Nat) : ig_gX5_i kk bs ig_h1 18 = ig_c1 kk (ig_ad1 bs) 0 (ig_a0 8) 8 := rfl
theorem ig_h_9 (kk : Nat → ClassId) (bs : Nat) : ig_gX5_i kk bs ig_h1 19 = ig_c1 kk (ig_ad1 bs) 0 (ig_a0 9) 9 := rfl
theorem ig_h_10 (kk : Nat → ClassId) (bs : Nat) : ig_gX5_i kk bs ig_h1 20 = ig_c1 kk (ig_ad1 bs) 0 (ig_a0 10) 10 := rfl
theorem ig_h_11 (kk : Nat → ClassId) (bs : Nat) : ig_gX5_i kk bs ig_h1 3 = ig_c1 kk (ig_ad1 bs) 0 (ig_a0 11) 11 := (congrArg (ig_ra (kk 4) 8) (ig_rf_eq bs 8 12 4 (fun k hk => by unfold ig_ad1 ig_of; rw [if_neg (by omega), if_pos (by omega)]; omega)))
theorem ig_h_12 (kk : Nat → ClassId) (bs : Nat) : ig_gX5_i kk bs ig_h1 4 = ig_c1 kk (ig_ad1 bs) 0 (ig_a0 12) 12 := rfl
theorem ig_h_13 (kk : Nat → ClassId) (bs : Nat) : ig_gX5_i kk bs ig_h1 5 = ig_c1 kk (ig_ad1 bs) 0 (ig_a0 13) 13 := rfl
theorem ig_h_14 (kk : Nat → ClassId) (bs : Nat) : ig_gX5_i kk bs ig_h1 6 = ig_c1 kk (ig_ad1 bs) 0 (ig_a0 14) 14 := rfl
theorem ig_h_15 (kk : Nat → ClassId) (bs : Nat) : ig_gX5_i kk bs ig_h1 7 = ig_c1 kk (ig_ad1 bs) 0 (ig_a0 15) 15 := rfl
theorem ig_h_16 (kk : Nat → ClassId) (bs : Nat) : ig_gX5_i kk bs ig_h1 8 = ig_c1 kk (ig_ad1 bs) 0 (ig_a0 16) 16 := rfl
theorem ig_h_17 (kk : Nat → ClassId) (bs : Nat) : ig_gX5_i kk bs ig_h1 9 = ig_c1 kk (ig_ad1 bs) 0 (ig_a0 17) 17 := rfl
theorem ig_h_18 (kk : Nat → ClassId) (bs : Nat) : ig_gX5_i kk bs ig_h1 10 = ig_c1 kk (ig_ad1 bs) 0 (ig_a0 18) 18 := rfl
theorem ig_h_19 (kk : Nat → ClassId) (bs : Nat) : ig_gX5_i kk bs ig_h1 11 = ig_c1 kk (ig_ad1 bs) 0 (ig_a0 19) 19 := rfl
theorem ig_h_20 (kk : Nat → ClassId) (bs : Nat) : ig_gX5_i kk bs ig_h1 12 = ig_c1 kk (ig_ad1 bs) 0 (ig_a0 20) 20 := rfl
theorem ig_h_21 (kk : Nat → ClassId) (bs : Nat) : ig_gX5_i kk bs ig_h1 21 = ig_c1 kk (ig_ad1 bs) 0 (ig_a0 21) 21 := rfl
theorem ig_h_22 (kk : Nat → ClassId) (bs : Nat) : ig_gX5_i kk bs ig_h1 22 = ig_c1 kk (ig_ad1 bs) 0 (ig_a0 22) 22 := rfl
theorem ig_h_23 (kk : Nat → ClassId) (bs : Nat) : ig_gX5_i kk bs ig_h1 23 = ig_c1 kk (ig_ad1 bs) 0 (ig_a0 23) 23 := rfl
theorem ig_h_24 (kk : Nat → ClassId) (bs : Nat) : ig_gX5_i kk bs ig_h1 24 = ig_c1 kk (ig_ad1 bs) 0 (ig_a0 24) 24 := rfl
theorem ig_h_25 (kk : Nat → ClassId) (bs : Nat) : ig_gX5_i kk bs ig_h1 25 = ig_c1 kk (ig_ad1 bs) 0 (ig_a0 25) 25 := (congrArg (ig_ra (kk 4) 6) (ig_rf_eq bs 6 26 26 (fun k hk => by unfold ig_ad1 ig_of; rw [if_neg (by omega), if_neg (by omega)]; omega)))
theorem ig_h_26 (kk : Nat → ClassId) (bs : Nat) : ig_gX5_i kk bs ig_h1 26 = ig_c1 kk (ig_ad1 bs) 0 (ig_a0 26) 26 := rfl
theorem ig_h_27 (kk : Nat → ClassId) (bs : Nat) : ig_gX5_i kk bs ig_h1 27 = ig_c1 kk (ig_ad1 bs) 0 (ig_a0 27) 27 := rfl
theorem ig_h_28 (kk : Nat → ClassId) (bs : Nat) : ig_gX5_i kk bs ig_h1 28 = ig_c1 kk (ig_ad1 bs) 0 (ig_a0 28) 28 := rfl
theorem ig_h_29 (kk : Nat → ClassId) (bs : Nat) : ig_gX5_i kk bs ig_h1 29 = ig_c1 kk (ig_ad1 bs) 0 (ig_a0 29) 29 := rfl
theorem ig_h_30 (kk : Nat → ClassId) (bs : Nat) : ig_gX5_i kk bs ig_h1 30 = ig_c1 kk (ig_ad1 bs) 0 (ig_a0 30) 30 := rfl
theorem ig_h_31 (kk : Nat → ClassId) (bs : Nat) : ig_gX5_i kk bs ig_h1 31 = ig_c1 kk (ig_ad1 bs) 0 (ig_a0 31) 31 := rfl
theorem ig_h_32 (kk : Nat → ClassId) (bs : Nat) : ig_gX5_i kk bs ig_h1 32 = ig_c1 kk (ig_ad1 bs) 0 (ig_a0 32) 32 := (congrArg (ig_ra (kk 4) 64) (ig_rf_eq bs 64 33 33 (fun k hk => by unfold ig_ad1 ig_of; rw [if_neg (by omega), if_neg (by omega)]; omega)))
theorem ig_h_33 (kk : Nat → ClassId) (bs : Nat) : ig_gX5_i kk bs ig_h1 33 = ig_c1 kk (ig_ad1 bs) 0 (ig_a0 33) 33 := rfl
theorem ig_h_34 (kk : Nat → ClassId) (bs : Nat) : ig_gX5_i kk bs ig_h1 34 = ig_c1 kk (ig_ad1 bs) 0 (ig_a0 34) 34 := rfl
theorem ig_h_35 (kk : Nat → ClassId) (bs : Nat) : ig_gX5_i kk bs ig_h1 35 = ig_c1 kk (ig_ad1 bs) 0 (ig_a0 35) 35 := rfl
theorem ig_h_36 (kk : Nat → ClassId) (bs : Nat) : ig_gX5_i kk bs ig_h1 36 = ig_c1 kk (ig_ad1 bs) 0 (ig_a0 36) 36 := rfl
theorem ig_h_37 (kk : Nat → ClassId) (bs : Nat) : ig_gX5_i kk bs ig_h1 37 = ig_c1 kk (ig_ad1 bs) 0 (ig_a0 37) 37 := rfl
theorem ig_h_38 (kk : Nat → ClassId) (bs : Nat) : ig_gX5_i kk bs ig_h1 38 = ig_c1 kk (ig_ad1 bs) 0 (ig_a0 38) 38 := rfl
theorem ig_h_39 (kk : Nat → ClassId) (bs : Nat) : ig_gX5_i kk bs ig_h1 39 = ig_c1 kk (ig_ad1 bs) 0 (ig_a0 39) 39 := rfl
theorem ig_h_40 (kk : Nat → ClassId) (bs : Nat) : ig_gX5_i kk bs ig_h1 40 = ig_c1 kk (ig_ad1 bs) 0 (ig_a0 40) 40 := rfl
theorem ig_h_41 (kk : Nat → ClassId) (bs : Nat) : ig_gX5_i kk bs ig_h1 41 = ig_c1 kk (ig_ad1 bs) 0 (ig_a0 41) 41 := rfl
theorem ig_h_42 (kk : Nat → ClassId) (bs : Nat) : ig_gX5_i kk bs ig_h1 42 = ig_c1 kk (ig_ad1 bs) 0 (ig_a0 42) 42 := rfl
theorem ig_h_43 (kk : Nat → ClassId) (bs : Nat) : ig_gX5_i kk bs ig_h1 43 = ig_c1 kk (ig_ad1 bs) 0 (ig_a0 43) 43 := rfl
theorem ig_h_44 (kk : Nat → ClassId) (bs : Nat) : ig_gX5_i kk bs ig_h1 44 = ig_c1 kk (ig_ad1 bs) 0 (ig_a0 44) 44 := rfl
theorem ig_h_45 (kk : Nat → ClassId) (bs : Nat) : ig_gX5_i kk bs ig_h1 45 = ig_c1 kk (ig_ad1 bs) 0 (ig_a0 45) 45 := rfl
theorem ig_h_46 (kk : Nat → ClassId) (bs : Nat) : ig_gX5_i kk bs ig_h1 46 = ig_c1 kk (ig_ad1 bs) 0 (ig_a0 46) 46 := rfl
theorem ig_h_47 (kk : Nat → ClassId) (bs : Nat) : ig_gX5_i kk bs ig_h1 47 = ig_c1 kk (ig_ad1 bs) 0 (ig_a0 47) 47 := rfl
theorem ig_h_48 (kk : Nat → ClassId) (bs : Nat) : ig_gX5_i kk bs ig_h1 48 = ig_c1 kk (ig_ad1 bs) 0 (ig_a0 48) 48 := rfl
theorem ig_h_49 (kk : Nat → ClassId) (bs : Nat) : ig_gX5_i kk bs ig_h1 49 = ig_c1 kk (ig_ad1 bs) 0 (ig_a0 49) 49 := rfl
theorem ig_h_50 (kk : Nat → ClassId) (bs : Nat) : ig_gX5_i kk bs ig_h1 50 = ig_c1 kk (ig_ad1 bs) 0 (ig_a0 50) 50 := rfl
theorem ig_h_51 (kk : Nat → ClassId) (bs : Nat) : ig_gX5_i kk bs ig_h1 51 = ig_c1 kk (ig_ad1 bs) 0 (ig_a0 51) 51 := rfl
theorem ig_h_52 (kk : Nat → ClassId) (bs : Nat) : ig_gX5_i kk bs ig_h1 52 = ig_c1 kk (ig_ad1 bs) 0 (ig_a0 52) 52 := rfl
theorem ig_h_53 (kk : Nat → ClassId) (bs : Nat) : ig_gX5_i kk bs ig_h1 53 = ig_c1 kk (ig_ad1 bs) 0 (ig_a0 53) 53 := rfl
theorem ig_h_54 (kk : Nat → ClassId) (bs : Nat) : ig_gX5_i kk bs ig_h1 54 = ig_c1 kk (ig_ad1 bs) 0 (ig_a0 54) 54 := rfl
theorem ig_h_55 (kk : Nat → ClassId) (bs : Nat) : ig_gX5_i kk bs ig_h1 55 = ig_c1 kk (ig_ad1 bs) 0 (ig_a0 55) 55 := rfl
theorem ig_h_56 (kk : Nat → ClassId) (bs : Nat) : ig_gX5_i kk bs ig_h1 56 = ig_c1 kk (ig_ad1 bs) 0 (ig_a0 56) 56 := rfl
theorem ig_h_57 (kk : Nat → ClassId) (bs : Nat) : ig_gX5_i kk bs ig_h1 57 = ig_c1 kk (ig_ad1 bs) 0 (ig_a0 57) 57 := rfl
theorem ig_h_58 (kk : Nat → ClassId) (bs : Nat) : ig_gX5_i kk bs ig_h1 58 = ig_c1 kk (ig_ad1 bs) 0 (ig_a0 58) 58 := rfl
theorem ig_h_59 (kk : Nat → ClassId) (bs : Nat) : ig_gX5_i kk bs ig_h1 59 = ig_c1 kk (ig_ad1 bs) 0 (ig_a0 59) 59 := rfl
theorem ig_h_60 (kk : Nat → ClassId) (bs : Nat) : ig_gX5_i kk bs ig_h1 60 = ig_c1 kk (ig_ad1 bs) 0 (ig_a0 60) 60 := rfl
theorem ig_h_61 (kk : Nat → ClassId) (bs : Nat) : ig_gX5_i kk bs ig_h1 61 = ig_c1 kk (ig_ad1 bs) 0 (ig_a0 61) 61 := rfl
theorem ig_h_62 (kk : Nat → ClassId) (bs : Nat) : ig_gX5_i kk bs ig_h1 62 = ig_c1 kk (ig_ad1 bs) 0 (ig_a0 62) 62 := rfl
theorem ig_h_63 (kk : Nat → ClassId) (bs : Nat) : ig_gX5_i kk bs ig_h1 63 = ig_c1 kk (ig_ad1 bs) 0 (ig_a0 63) 63 := rfl
theorem ig_h_64 (kk : Nat → ClassId) (bs : Nat) : ig_gX5_i kk bs ig_h1 64 = ig_c1 kk (ig_ad1 bs) 0 (ig_a0 64) 64 := rfl
theorem ig_h_65 (kk : Nat → ClassId) (bs : Nat) : ig_gX5_i kk bs ig_h1 65 = ig_c1 kk (ig_ad1 bs) 0 (ig_a0 65) 65 := rfl
theorem ig_h_66 (kk : Nat → ClassId) (bs : Nat) : ig_gX5_i kk bs ig_h1 66 = ig_c1 kk (ig_ad1 bs) 0 (ig_a0 66) 66 := rfl
theorem ig_h_67 (kk : Nat → ClassId) (bs : Nat) : ig_gX5_i kk bs ig_h1 67 = ig_c1 kk (ig_ad1 bs) 0 (ig_a0 67) 67 := rfl
theorem ig_h_68 (kk : Nat → ClassId) (bs : Nat) : ig_gX5_i kk bs ig_h1 68 = ig_c1 kk (ig_ad1 bs) 0 (ig_a0 68) 68 := rfl
theorem ig_h_69 (kk : Nat → ClassId) (bs : Nat) : ig_gX5_i kk bs ig_h1 69 = ig_c1 kk (ig_ad1 bs) 0 (ig_a0 69) 69 := rfl
theorem ig_h_70 (kk : Nat → ClassId) (bs : Nat) : ig_gX5_i kk bs ig_h1 70 = ig_c1 kk (ig_ad1 bs) 0 (ig_a0 70) 70 := rfl
theorem ig_h_71 (kk : Nat → ClassId) (bs : Nat) : ig_gX5_i kk bs ig_h1 71 = ig_c1 kk (ig_ad1 bs) 0 (ig_a0 71) 71 := rfl
theorem ig_h_72 (kk : Nat → ClassId) (bs : Nat) : ig_gX5_i kk bs ig_h1 72 = ig_c1 kk (ig_ad1 bs) 0 (ig_a0 72) 72 := rfl
theorem ig_h_73 (kk : Nat → ClassId) (bs : Nat) : ig_gX5_i kk bs ig_h1 73 = ig_c1 kk (ig_ad1 bs) 0 (ig_a0 73) 73 := rfl
theorem ig_h_74 (kk : Nat → ClassId) (bs : Nat) : ig_gX5_i kk bs ig_h1 74 = ig_c1 kk (ig_ad1 bs) 0 (ig_a0 74) 74 := rfl
theorem ig_h_75 (kk : Nat → ClassId) (bs : Nat) : ig_gX5_i kk bs ig_h1 75 = ig_c1 kk (ig_ad1 bs) 0 (ig_a0 75) 75 := rfl
theorem ig_h_76 (kk : Nat → ClassId) (bs : Nat) : ig_gX5_i kk bs ig_h1 76 = ig_c1 kk (ig_ad1 bs) 0 (ig_a0 76) 76 := rfl
theorem ig_h_77 (kk : Nat → ClassId) (bs : Nat) : ig_gX5_i kk bs ig_h1 77 = ig_c1 kk (ig_ad1 bs) 0 (ig_a0 77) 77 := rfl
theorem ig_h_78 (kk : Nat → ClassId) (bs : Nat) : ig_gX5_i kk bs ig_h1 78 = ig_c1 kk (ig_ad1 bs) 0 (ig_a0 78) 78 := rfl
theorem ig_h_79 (kk : Nat → ClassId) (bs : Nat) : ig_gX5_i kk bs ig_h1 79 = ig_c1 kk (ig_ad1 bs) 0 (ig_a0 79) 79 := rfl
theorem ig_h_80 (kk : Nat → ClassId) (bs : Nat) : ig_gX5_i kk bs ig_h1 80 = ig_c1 kk (ig_ad1 bs) 0 (ig_a0 80) 80 := rfl
theorem ig_h_81 (kk : Nat → ClassId) (bs : Nat) : ig_gX5_i kk bs ig_h1 81 = ig_c1 kk (ig_ad1 bs) 0 (ig_a0 81) 81 := rfl
theorem ig_h_82 (kk : Nat → ClassId) (bs : Nat) : ig_gX5_i kk bs ig_h1 82 = ig_c1 kk (ig_ad1 bs) 0 (ig_a0 82) 82 := rfl
theorem ig_h_83 (kk : Nat → ClassId) (bs : Nat) : ig_gX5_i kk bs ig_h1 83 = ig_c1 kk (ig_ad1 bs) 0 (ig_a0 83) 83 := rfl
theorem ig_h_84 (kk : Nat → ClassId) (bs : Nat) : ig_gX5_i kk bs ig_h1 84 = ig_c1 kk (ig_ad1 bs) 0 (ig_a0 84) 84 := rfl
theorem ig_h_85 (kk : Nat → ClassId) (bs : Nat) : ig_gX5_i kk bs ig_h1 85 = ig_c1 kk (ig_ad1 bs) 0 (ig_a0 85) 85 := rfl
theorem ig_h_86 (kk : Nat → ClassId) (bs : Nat) : ig_gX5_i kk bs ig_h1 86 = ig_c1 kk (ig_ad1 bs) 0 (ig_a0 86) 86 := rfl
theorem ig_h_87 (kk : Nat → ClassId) (bs : Nat) : ig_gX5_i kk bs ig_h1 87 = ig_c1 kk (ig_ad1 bs) 0 (ig_a0 87) 87 := rfl
theorem ig_h_88 (kk : Nat → ClassId) (bs : Nat) : ig_gX5_i kk bs ig_h1 88 = ig_c1 kk (ig_ad1 bs) 0 (ig_a0 88) 88 := rfl
theorem ig_h_89 (kk : Nat → ClassId) (bs : Nat) : ig_gX5_i kk bs ig_h1 89 = ig_c1 kk (ig_ad1 bs) 0 (ig_a0 89) 89 := rfl
theorem ig_h_90 (kk : Nat → ClassId) (bs : Nat) : ig_gX5_i kk bs ig_h1 90 = ig_c1 kk (ig_ad1 bs) 0 (ig_a0 90) 90 := rfl
theorem ig_h_91 (kk : Nat → ClassId) (bs : Nat) : ig_gX5_i kk bs ig_h1 91 = ig_c1 kk (ig_ad1 bs) 0 (ig_a0 91) 91 := rfl
theorem ig_h_92 (kk : Nat → ClassId) (bs : Nat) : ig_gX5_i kk bs ig_h1 92 = ig_c1 kk (ig_ad1 bs) 0 (ig_a0 92) 92 := rfl
theorem ig_h_93 (kk : Nat → ClassId) (bs : Nat) : ig_gX5_i kk bs ig_h1 93 = ig_c1 kk (ig_ad1 bs) 0 (ig_a0 93) 93 := rfl
theorem ig_h_94 (kk : Nat → ClassId) (bs : Nat) : ig_gX5_i kk bs ig_h1 94 = ig_c1 kk (ig_ad1 bs) 0 (ig_a0 94) 94 := rfl
theorem ig_h_95 (kk : Nat → ClassId) (bs : Nat) : ig_gX5_i kk bs ig_h1 95 = ig_c1 kk (ig_ad1 bs) 0 (ig_a0 95) 95 := rfl
theorem ig_h_96 (kk : Nat → ClassId) (bs : Nat) : ig_gX5_i kk bs ig_h1 96 = ig_c1 kk (ig_ad1 bs) 0 (ig_a0 96) 96 := rfl
set_option maxRecDepth 100000 in
theorem ig_hall (kk : Nat → ClassId) (bs : Nat) : ∀ i : Nat, i < 97 → ig_gX5_i kk bs ig_h1 (ig_of i) = ig_c1 kk (ig_ad1 bs) 0 (ig_a0 i) i := lt_s (lt_s (lt_s (lt_s (lt_s (lt_s (lt_s (lt_s (lt_s (lt_s (lt_s (lt_s (lt_s (lt_s (lt_s (lt_s (lt_s (lt_s (lt_s (lt_s (lt_s (lt_s (lt_s (lt_s (lt_s (lt_s (lt_s (lt_s (lt_s (lt_s (lt_s (lt_s (lt_s (lt_s (lt_s (lt_s (lt_s (lt_s (lt_s (lt_s (lt_s (lt_s (lt_s (lt_s (lt_s (lt_s (lt_s (lt_s (lt_s (lt_s (lt_s (lt_s (lt_s (lt_s (lt_s (lt_s (lt_s (lt_s (lt_s (lt_s (lt_s (lt_s (lt_s (lt_s (lt_s (lt_s (lt_s (lt_s (lt_s (lt_s (lt_s (lt_s (lt_s (lt_s (lt_s (lt_s (lt_s (lt_s (lt_s (lt_s (lt_s (lt_s (lt_s (lt_s (lt_s (lt_s (lt_s (lt_s (lt_s (lt_s (lt_s (lt_s (lt_s (lt_s (lt_s (lt_s (lt_s (lt_0) (ig_h_0 kk bs)) (ig_h_1 kk bs)) (ig_h_2 kk bs)) (ig_h_3 kk bs)) (ig_h_4 kk bs)) (ig_h_5 kk bs)) (ig_h_6 kk bs)) (ig_h_7 kk bs)) (ig_h_8 kk bs)) (ig_h_9 kk bs)) (ig_h_10 kk bs)) (ig_h_11 kk bs)) (ig_h_12 kk bs)) (ig_h_13 kk bs)) (ig_h_14 kk bs)) (ig_h_15 kk bs)) (ig_h_16 kk bs)) (ig_h_17 kk bs)) (ig_h_18 kk bs)) (ig_h_19 kk bs)) (ig_h_20 kk bs)) (ig_h_21 kk bs)) (ig_h_22 kk bs)) (ig_h_23 kk bs)) (ig_h_24 kk bs)) (ig_h_25 kk bs)) (ig_h_26 kk bs)) (ig_h_27 kk bs)) (ig_h_28 kk bs)) (ig_h_29 kk bs)) (ig_h_30 kk bs)) (ig_h_31 kk bs)) (ig_h_32 kk bs)) (ig_h_33 kk bs)) (ig_h_34 kk bs)) (ig_h_35 kk bs)) (ig_h_36 kk bs)) (ig_h_37 kk bs)) (ig_h_38 kk bs)) (ig_h_39 kk bs)) (ig_h_40 kk bs)) (ig_h_41 kk bs)) (ig_h_42 kk bs)) (ig_h_43 kk bs)) (ig_h_44 kk bs)) (ig_h_45 kk bs)) (ig_h_46 kk bs)) (ig_h_47 kk bs)) (ig_h_48 kk bs)) (ig_h_49 kk bs)) (ig_h_50 kk bs)) (ig_h_51 kk bs)) (ig_h_52 kk bs)) (ig_h_53 kk bs)) (ig_h_54 kk bs)) (ig_h_55 kk bs)) (ig_h_56 kk bs)) (ig_h_57 kk bs)) (ig_h_58 kk bs)) (ig_h_59 kk bs)) (ig_h_60 kk bs)) (ig_h_61 kk bs)) (ig_h_62 kk bs)) (ig_h_63 kk bs)) (ig_h_64 kk bs)) (ig_h_65 kk bs)) (ig_h_66 kk bs)) (ig_h_67 kk bs)) (ig_h_68 kk bs)) (ig_h_69 kk bs)) (ig_h_70 kk bs)) (ig_h_71 kk bs)) (ig_h_72 kk bs)) (ig_h_73 kk bs)) (ig_h_74 kk bs)) (ig_h_75 kk bs)) (ig_h_76 kk bs)) (ig_h_77 kk bs)) (ig_h_78 kk bs)) (ig_h_79 kk bs)) (ig_h_80 kk bs)) (ig_h_81 kk bs)) (ig_h_82 kk bs)) (ig_h_83 kk bs)) (ig_h_84 kk bs)) (ig_h_85 kk bs)) (ig_h_86 kk bs)) (ig_h_87 kk bs)) (ig_h_88 kk bs)) (ig_h_89 kk bs)) (ig_h_90 kk bs)) (ig_h_91 kk bs)) (ig_h_92 kk bs)) (ig_h_93 kk bs)) (ig_h_94 kk bs)) (ig_h_95 kk bs)) (ig_h_96 kk bs)
theorem ig_both_P {D : va_G} {kk : Nat → ClassId} {bs : Nat} {H : Heap} (h : ∀ i : Nat, i < 97 + 97 → va_at D vwCl (bs + i, if i < 97 then ig_gX5_i kk bs ig_h1 i else ig_gX5_i kk (bs + 97) ig_h1 (i - 97)) H) : ig_P D kk (ig_ad bs) ig_a0 0 ig_a0 0 0 H := by
  intro i hi
  unfold ig_c ig_mm ig_ad
  by_cases c : i < 97
  · rw [if_pos c, if_pos c, if_pos c]
    have h1 := h (ig_of i) (by have := ig_of_lt c; omega)
    rw [if_pos (ig_of_lt c), ig_hall kk bs i c] at h1
    rw [ig_c1_congr kk (ad := fun i => if i < 97 then bs + ig_of i else bs + 97 + ig_of (i - 97)) (ad' := ig_ad1 bs) 0 (ig_a0 i) (fun q hq => if_pos hq) i]
    exact h1
  · rw [if_neg c, if_neg c, if_neg c]
    have hc : i - 97 < 97 := by omega
    have h1 := h (97 + ig_of (i - 97)) (by have := ig_of_lt hc; omega)
    rw [if_neg (by omega), show 97 + ig_of (i - 97) - 97 = ig_of (i - 97) by omega, ig_hall kk (bs + 97) (i - 97) hc, ← Nat.add_assoc] at h1
    rw [ig_c1_congr kk (ad' := ig_ad1 (bs + 97)) 0 (ig_a0 (i - 97)) (fun q hq => by
      show (if 97 + q < 97 then bs + ig_of (97 + q) else bs + 97 + ig_of (97 + q - 97)) = ig_ad1 (bs + 97) q
      rw [if_neg (by omega), show 97 + q - 97 = q by omega]
      rfl) (i - 97)]
    exact h1
section IGS
variable {p : Program} {l : Launch} {e : Env} {s : State} {m : MethodId} {below : List Frame} {meth : Method} {c : Code} {b0 Ln : Nat} {xs : Nat → Int32}
theorem ig_tb {w : Cond} (h : w ∈ ig_all) : w ∈ lw_tbl := (List.mem_filter.mp h).1
theorem ig_kk_ex (hts : ∀ w ∈ lw_tbl, w.before #[Value.ref b0] s = true) {ty : FieldType} (h : Cond.arrayClass ty ∈ lw_tbl) (ho : ∀ C, ty ≠ .object C) : ∃ cA : ClassId, ArrOfT s cA ty ∧ va_RA s cA ty := by
  obtain ⟨c, k, comp, h1, h2, h3⟩ := Cond.arrayClass_spec (hts _ h)
  refine ⟨c, fun N z => ⟨(fun q hq => by cases hq), k, h2, comp, h3⟩, ?_⟩
  cases ty <;> first | exact h1 | exact absurd rfl (ho _)
theorem ig_AO_in : Cond.arrayOver (.object "Intergreen$Phase") ∈ lw_tbl := List.mem_append_right _ (List.mem_of_getElem? (i := 29) (by decide +kernel))
theorem ig_AOA_in : Cond.arrayOver (.array .int) ∈ lw_tbl := List.mem_append_right _ (List.mem_of_getElem? (i := 31) (by decide +kernel))
theorem ig_AOs_ex (hts : ∀ w ∈ lw_tbl, w.before #[Value.ref b0] s = true) : ig_AOs s := ⟨hts _ ig_AO_in, hts _ ig_AOA_in⟩
theorem ig_nm_in : ∀ q ∈ ig_nm, Cond.methodLinkNest q.1 q.2.1 q.2.2.1 q.2.2.2 ∈ lw_tbl := by decide +kernel
theorem ig_nd_in : ∀ x ∈ ig_nd, Cond.declares x ∈ lw_tbl := by decide +kernel
theorem ig_nc_in : ∀ q ∈ ig_nc, Cond.castable q q ∈ lw_tbl := by decide +kernel
theorem ig_st_in : ∀ q ∈ ig_st, Cond.stringRef RX5 q.1 q.2 ∈ lw_tbl := by decide +kernel
theorem ig_nn_in : ∀ q ∈ ig_nn, Cond.not (.castable q.1 q.2) ∈ flatC (Jvm.Cond.and given_1 narrow_1) := by decide +kernel
theorem ig_sx_in : ∀ q ∈ ig_st, Cond.exactly (.string RX5 q.1) "java/lang/String" ∈ flatC (Jvm.Cond.and given_1 narrow_1) := by decide +kernel
theorem ig_us_in : Cond.isRef (.static Bundle.tN "UNASSIGNED_STACK" Bundle.steD) ∈ flatC (Jvm.Cond.and given_1 narrow_1) := by decide +kernel
theorem ig_ss_in : Cond.isRef (.static Bundle.tN "SUPPRESSED_SENTINEL" Bundle.listD) ∈ flatC (Jvm.Cond.and given_1 narrow_1) := by decide +kernel
theorem ig_lu_in : Cond.laysStatic Bundle.tN "UNASSIGNED_STACK" Bundle.steD ∈ lw_tbl := List.mem_append_right _ (List.mem_of_getElem? (i := 229) (by decide +kernel))
theorem ig_ls_in : Cond.laysStatic Bundle.tN "SUPPRESSED_SENTINEL" Bundle.listD ∈ lw_tbl := List.mem_append_right _ (List.mem_of_getElem? (i := 231) (by decide +kernel))
theorem ig_it_in : Cond.initialized Bundle.tN ∈ lw_tbl := List.mem_append_right _ (List.mem_of_getElem? (i := 7) (by decide +kernel))
theorem ig_N_ex (hts : ∀ w ∈ lw_tbl, w.before #[Value.ref b0] s = true) (hgv : (Jvm.Cond.and given_1 narrow_1).before #[Value.ref b0] s = true) : ig_N s := by
  have hs := flat_of_before _ hgv
  refine ⟨fun q hq => va_Nw.of rfl (hts _ (ig_nm_in q hq)), fun x hx => va_Nw.of rfl (hts _ (ig_nd_in x hx)), fun q hq => va_Nw.of rfl (hts _ (ig_nc_in q hq)), fun q hq => va_Nc.of (hs _ (ig_nn_in q hq)), fun q hq => ?_⟩
  obtain ⟨a, -, -, -, ha, -⟩ := Cond.exactly_spec (hs _ (ig_sx_in q hq))
  exact ⟨a, vk_R.of (hts _ (ig_st_in q hq)) ha⟩
theorem ig_X_ex (hts : ∀ w ∈ lw_tbl, w.before #[Value.ref b0] s = true) (hgv : (Jvm.Cond.and given_1 narrow_1).before #[Value.ref b0] s = true) : ig_X s.heap.size s := by
  have hs := flat_of_before _ hgv
  exact ⟨vx_Zqof (hts _ ig_lu_in) (hts _ ig_it_in) (hs _ ig_us_in) (fun a ha h => Nat.lt_irrefl _ (Nat.lt_of_lt_of_le ha h)), vx_Zqof (hts _ ig_ls_in) (hts _ ig_it_in) (hs _ ig_ss_in) (fun a ha h => Nat.lt_irrefl _ (Nat.lt_of_lt_of_le ha h))⟩
theorem ig_E_ex (hts : ∀ w ∈ lw_tbl, w.before #[Value.ref b0] s = true) (hgv : (Jvm.Cond.and given_1 narrow_1).before #[Value.ref b0] s = true) : ∃ (D : va_G) (kk : Nat → ClassId), ig_E D kk (ig_ad s.heap.size) s.heap.size s := by
  obtain ⟨cX0, iX0, hKX0⟩ := u_known (C := RX0) (T := TX0) (N := 9) (n := 9) hts (fun w h => ig_tb (in_X0 w h)) (hts _ (ig_tb mw_521))
  obtain ⟨cX1, iX1, hKX1⟩ := u_known (C := RX1) (T := TX1) (N := 1) (n := 1) hts (fun w h => ig_tb (in_X1 w h)) (hts _ (ig_tb mw_517))
  obtain ⟨cX2, iX2, hKX2⟩ := u_known (C := RX2) (T := TX2) (N := 12) (n := 12) hts (fun w h => ig_tb (in_X2 w h)) (hts _ (ig_tb mw_507))
  obtain ⟨cX3, iX3, hKX3⟩ := u_known (C := RX3) (T := TX3) (N := 5) (n := 5) hts (fun w h => ig_tb (in_X3 w h)) (hts _ (ig_tb mw_512))
  obtain ⟨cX4, iX4, hKX4⟩ := u_known (C := RX4) (T := TX4) (N := 3) (n := 3) hts (fun w h => ig_tb (in_X4 w h)) (hts _ (ig_tb mw_526))
  obtain ⟨cX5, iX5, hKX5⟩ := u_known (C := RX5) (T := TX5) (N := 4) (n := 4) hts (fun w h => ig_tb (in_X5 w h)) (hts _ (ig_tb mw_530))
  obtain ⟨k0, hk0a, hk0b⟩ := ig_kk_ex hts (ty := .int) (ig_tb mw_498) (fun _ h => by cases h)
  obtain ⟨comp3, k3, kc3, h31, -, h33, h34, h35⟩ := Cond.arrayOver_spec (hts _ ig_AO_in)
  obtain ⟨comp4, k4, kc4, -, -, h43, h44, h45⟩ := ig_AOA_spec (t := .int) (s := s) (hts _ ig_AOA_in)
  refine ⟨(fun k => match k with | 0 => cX0 | 1 => cX1 | 2 => cX2 | 3 => cX3 | 4 => cX4 | _ => cX5, fun k => match k with | 0 => iX0 | 1 => iX1 | 2 => iX2 | 3 => iX3 | 4 => iX4 | _ => iX5), (fun k => match k with | 3 => k3 | 4 => k4 | _ => k0), ⟨?_, ?_⟩, ⟨?_, ?_⟩, Nat.le_refl _, ig_N_ex hts hgv, ig_X_ex hts hgv⟩
  · intro k q hq
    match k, hq with
    | 0, hq => cases hq; exact hKX0
    | 1, hq => cases hq; exact hKX1
    | 2, hq => cases hq; exact hKX2
    | 3, hq => cases hq; exact hKX3
    | 4, hq => cases hq; exact hKX4
    | 5, hq => cases hq; exact hKX5
    | k + 6, hq => simp [vwCl] at hq
  · intro k q hq
    match k, hq with
    | 0, hq => cases hq; exact ⟨hk0a, hk0b⟩
    | 1, hq => cases hq; exact ⟨hk0a, hk0b⟩
    | 2, hq => cases hq; exact ⟨hk0a, hk0b⟩
    | 3, hq => cases hq; exact ⟨fun N z => ⟨(fun q hq => by cases hq), kc3, h33, comp3, h34⟩, kc3, comp3, h33, h34, h31, h35⟩
    | 4, hq => cases hq; exact ⟨fun N z => ⟨(fun q hq => by cases hq), kc4, h43, comp4, h44⟩, h45⟩
    | k + 5, hq => simp [ig_tys] at hq
  · intro i j hi hj h
    exact ig_ad_inj hi hj h
  · intro i _
    exact ig_ad_le _ i
set_option maxHeartbeats 4000000 in
set_option maxRecDepth 100000 in
theorem ig_start (l : Launch) (hflags : l.flags = flags0) (hpure : wp_L_law xs Ln ig_a0 0 ig_a0 0) (C0 : lw_At p s m meth c b0 Ln xs) : W p l e room_1 s m #[Value.ref b0] below meth c s.heap [] 0 0 (lw_Z below #[Value.ref b0] s) (entryFrame m ([Value.ref b0] : List Value).toArray 6) := by
  obtain ⟨hx, hb, hr, hml, hown, hts, hX, hbl, hk, hgv⟩ := C0
  have hlt : l.stackTraces = false := by unfold Launch.stackTraces; rw [hflags]; decide
  have Fs : CallFix p m c code 6 s #[Value.ref b0] ig_all RL := ⟨hx, hb, hml, hown, fun w hw => hts w (ig_tb hw)⟩
  have hAO := ig_AOs_ex hts
  obtain ⟨D, kk, Es⟩ := ig_E_ex hts hgv
  obtain ⟨bs, hbs⟩ : ∃ q, q = s.heap.size := ⟨_, rfl⟩
  rw [← hbs] at Es
  have hbA : ¬ ig_A bs b0 := by unfold ig_A; omega
  refine W.base ?_
  have hd0 := Drawn.sameBut.refl s.drawn lw_cs
  have F := ig_Fd Fs s.drawn
  have E := ig_Ed Es s.drawn
  have hAO : ig_AOs (s.setDrawn s.drawn) := hAO.moved (Vm.Alike.refl _)
  have Z : ig_GZ D bs (s.setDrawn s.drawn) s.heap [] 0 (fun _ => .inr (0, [])) := ⟨⟨hbs, fun i hi => absurd hi (Nat.not_lt_zero i)⟩, va_S.rf⟩
  have hl := lv_entry ([.ref b0]) (n := 6) (Nat.le_of_ble_eq_true rfl)
  rw [lg_entry_eq]
  generalize (lg_sl ([.ref b0]) ++ List.replicate (6 - (lg_sl ([.ref b0])).length) Slot.unset).toArray = ls at hl ⊢
  have hl : lv_has ls 6 [(0, .ref b0)] := hl
  refine ic_new (T := TX5) (N := 4) (ci := 5) (fs := [.null, .null, .null, .null]) F E Z in_X5 tyX5 tyX5_ok mw_531 mw_530 mw_3 rfl (by decide +kernel) (Nat.le_of_ble_eq_true rfl) (Nat.le_of_ble_eq_true rfl) dL_law_0 (fun H Z => ?_)
  refine lv_dup F.1 F.2.1 dL_law_3 rfl ?_
  have Z : ig_GZ D bs (s.setDrawn s.drawn) H [] 1 ig_h1 := Z
  have hM := k_X5_init l (D := D) (kk := kk) (ad := ig_ad bs) (bs := bs) (g := ig_h1) rfl
  refine ic_callv E Z (ic_runI (As := []) (rest := [.ref (bs + 0)]) F E hAO Z hl hM mw_532 mw_3 mw_533 mw_534 rfl md_X5_init rfl ⟨rfl, rfl⟩ ⟨(Nat.le_of_ble_eq_true rfl), (Nat.le_of_ble_eq_true rfl)⟩ (Nat.le_of_ble_eq_true rfl) dL_law_4 ⟨(Nat.le_of_ble_eq_true rfl), (Nat.le_of_ble_eq_true rfl)⟩) (fun H locs Z => ?_)
  refine lv_astore_n (lv' := [(1, .ref (bs + 0)), (0, .ref b0)]) F.1 F.2.1 dL_law_7 rfl hl (by decide) rfl (fun ls hl => ?_)
  refine ic_new (T := TX5) (N := 4) (ci := 5) (fs := [.null, .null, .null, .null]) F E Z in_X5 tyX5 tyX5_ok mw_531 mw_530 mw_3 rfl (by decide +kernel) (Nat.le_of_ble_eq_true rfl) (Nat.le_of_ble_eq_true rfl) dL_law_8 (fun H Z => ?_)
  refine lv_dup F.1 F.2.1 dL_law_11 rfl ?_
  have Z : ig_GZ D bs (s.setDrawn s.drawn) H _ 98 (ig_gu (ig_gX5_i kk bs ig_h1) 97 (.inr (5, [.null, .null, .null, .null]))) := Z
  have hM := k_X5_init l (D := D) (kk := kk) (ad := ig_ad2 (bs + 97)) (bs := bs + 97) (g := ig_h1) rfl
  refine ic_callv2 (n1 := 97) Z (by decide) (ic_runI2 (n1 := 97) (n2 := 1) (As := []) (rest := [.ref (bs + 97)]) F E hAO Z rfl (fun i hi => by
    have e : i = 0 := by omega
    subst e
    rfl) hl hM mw_532 mw_3 mw_533 mw_534 rfl md_X5_init rfl ⟨rfl, rfl⟩ ⟨(Nat.le_of_ble_eq_true rfl), (Nat.le_of_ble_eq_true rfl)⟩ (Nat.le_of_ble_eq_true rfl) dL_law_12 ⟨(Nat.le_of_ble_eq_true rfl), (Nat.le_of_ble_eq_true rfl)⟩) (fun H locs Z => ?_)
  refine lv_astore_n (lv' := [(2, .ref (bs + 97)), (1, .ref (bs + 0)), (0, .ref b0)]) F.1 F.2.1 dL_law_15 rfl hl (by decide) rfl (fun ls hl => ?_)
  have Z2 : ig_Z D kk (ig_ad bs) bs (s.setDrawn s.drawn) H _ ig_a0 0 ig_a0 0 0 := ⟨ig_both_P (fun i hi => by
    have h1 := Z.1.2 i hi
    dsimp only at h1
    by_cases c : i < 97
    · rw [if_pos c] at h1 ⊢
      unfold ig_gu at h1
      rw [if_neg (by omega)] at h1
      exact h1
    · rw [if_neg c] at h1 ⊢
      exact h1), Z.2⟩
  exact wm_L_law l hlt Fs Es hr hk hX hbl hbA (Nat.le_of_eq hbs.symm) ig_a0 0 ig_a0 0 _ hd0 _ _ _ _ _ (Nat.le_of_ble_eq_true rfl) (Nat.le_of_ble_eq_true rfl) hpure Z2 (lv_sub hl [2, 1, 0] rfl)
end IGS
