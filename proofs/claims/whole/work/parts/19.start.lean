def ig_of (i : Nat) : Nat := if 3 ≤ i ∧ i ≤ 10 then i + 10 else if 11 ≤ i ∧ i ≤ 20 then i - 8 else i
def ig_ad (bs : Nat) : Nat → Nat := fun i => bs + ig_of i
theorem ig_of_lt {i : Nat} (h : i < 116) : ig_of i < 116 := by
  unfold ig_of
  by_cases h1 : 3 ≤ i ∧ i ≤ 10
  · rw [if_pos h1]; omega
  · rw [if_neg h1]
    by_cases h2 : 11 ≤ i ∧ i ≤ 20
    · rw [if_pos h2]; omega
    · rw [if_neg h2]; exact h
theorem ig_of_inj {i j : Nat} (h : ig_of i = ig_of j) : i = j := by
  unfold ig_of at h
  split at h <;> split at h <;> (try split at h) <;> (try split at h) <;> omega
def ig_a0 : ig_M := fun i => if 3 ≤ i ∧ i ≤ 10 then (fun j => if j = 9 then -1 else 0) else if i = 23 then (fun j => if j = 3 ∨ j = 5 then -1 else 0) else fun _ => 0
def ig_e0 : Nat → Int32 := (upd (upd (upd (upd (upd (upd (upd (upd (fun _ => 0) (0 : Int32).toNatClampNeg (-1)) (1 : Int32).toNatClampNeg (-1)) (2 : Int32).toNatClampNeg (-1)) (3 : Int32).toNatClampNeg (-1)) (4 : Int32).toNatClampNeg (-1)) (5 : Int32).toNatClampNeg (-1)) (6 : Int32).toNatClampNeg (-1)) (7 : Int32).toNatClampNeg (-1))
def ig_b0 : ig_M := fun i => if i = 97 then (fun j => if j = 21 then -1 else 0) else if i = 104 then ig_e0 else fun _ => 0
def ig_h1 : Nat → va_E := ig_gu (fun _ => .inr (0, [])) 0 (.inr (5, [.null, .null, .null, .null]))
def ig_h2 (kk : Nat → ClassId) (bs : Nat) : Nat → va_E := ig_gu (ig_gX5_i kk bs ig_h1) 97 (.inr (6, [.int 0, .int 0, .int 0, .null, .null, .null, .null, .int 0, .null, .int 0, .int 0, .int 0, .null, .null, .null, .null, .null, .null, .null, .null, .null, .int 0, .int 0, .long 0, .null, .null, .null]))
def ig_h3 (kk : Nat → ClassId) (bs : Nat) : Nat → va_E := ig_gu (ig_gX6_i kk bs (ig_h2 kk bs)) 115 (.inl (kk 2, 1, .inr (.inl (fun _ => 0))))
theorem ig_rf_eq (bs n b0 c0 : Nat) (h : ∀ k, k < n → ig_ad bs (b0 + k) = bs + c0 + k) : (fun k => if k < n then some (bs + c0 + k) else none) = ig_rf (ig_ad bs) n b0 := by
  funext k
  unfold ig_rf
  by_cases hk : k < n
  · rw [if_pos hk, if_pos hk, h k hk]
  · rw [if_neg hk, if_neg hk]
theorem ig_h_0 (kk : Nat → ClassId) (bs : Nat) : ig_h3 kk bs 0 = ig_c kk (ig_ad bs) 0 0 0 (ig_mm ig_a0 ig_b0 0) 0 := rfl
theorem ig_h_1 (kk : Nat → ClassId) (bs : Nat) : ig_h3 kk bs 1 = ig_c kk (ig_ad bs) 0 0 0 (ig_mm ig_a0 ig_b0 1) 1 := rfl
theorem ig_h_2 (kk : Nat → ClassId) (bs : Nat) : ig_h3 kk bs 2 = ig_c kk (ig_ad bs) 0 0 0 (ig_mm ig_a0 ig_b0 2) 2 := (congrArg (ig_ra (kk 3) 8) ((funext fun k => by by_cases h : k < 8 <;> simp only [h, if_true, if_false, Nat.add_assoc]).trans (ig_rf_eq bs 8 3 13 (fun k hk => by unfold ig_ad ig_of; rw [if_pos (by omega)]; omega))))
theorem ig_h_3 (kk : Nat → ClassId) (bs : Nat) : ig_h3 kk bs 13 = ig_c kk (ig_ad bs) 0 0 0 (ig_mm ig_a0 ig_b0 3) 3 := rfl
theorem ig_h_4 (kk : Nat → ClassId) (bs : Nat) : ig_h3 kk bs 14 = ig_c kk (ig_ad bs) 0 0 0 (ig_mm ig_a0 ig_b0 4) 4 := rfl
theorem ig_h_5 (kk : Nat → ClassId) (bs : Nat) : ig_h3 kk bs 15 = ig_c kk (ig_ad bs) 0 0 0 (ig_mm ig_a0 ig_b0 5) 5 := rfl
theorem ig_h_6 (kk : Nat → ClassId) (bs : Nat) : ig_h3 kk bs 16 = ig_c kk (ig_ad bs) 0 0 0 (ig_mm ig_a0 ig_b0 6) 6 := rfl
theorem ig_h_7 (kk : Nat → ClassId) (bs : Nat) : ig_h3 kk bs 17 = ig_c kk (ig_ad bs) 0 0 0 (ig_mm ig_a0 ig_b0 7) 7 := rfl
theorem ig_h_8 (kk : Nat → ClassId) (bs : Nat) : ig_h3 kk bs 18 = ig_c kk (ig_ad bs) 0 0 0 (ig_mm ig_a0 ig_b0 8) 8 := rfl
theorem ig_h_9 (kk : Nat → ClassId) (bs : Nat) : ig_h3 kk bs 19 = ig_c kk (ig_ad bs) 0 0 0 (ig_mm ig_a0 ig_b0 9) 9 := rfl
theorem ig_h_10 (kk : Nat → ClassId) (bs : Nat) : ig_h3 kk bs 20 = ig_c kk (ig_ad bs) 0 0 0 (ig_mm ig_a0 ig_b0 10) 10 := rfl
theorem ig_h_11 (kk : Nat → ClassId) (bs : Nat) : ig_h3 kk bs 3 = ig_c kk (ig_ad bs) 0 0 0 (ig_mm ig_a0 ig_b0 11) 11 := (congrArg (ig_ra (kk 4) 8) (ig_rf_eq bs 8 12 4 (fun k hk => by unfold ig_ad ig_of; rw [if_neg (by omega), if_pos (by omega)]; omega)))
theorem ig_h_12 (kk : Nat → ClassId) (bs : Nat) : ig_h3 kk bs 4 = ig_c kk (ig_ad bs) 0 0 0 (ig_mm ig_a0 ig_b0 12) 12 := rfl
theorem ig_h_13 (kk : Nat → ClassId) (bs : Nat) : ig_h3 kk bs 5 = ig_c kk (ig_ad bs) 0 0 0 (ig_mm ig_a0 ig_b0 13) 13 := rfl
theorem ig_h_14 (kk : Nat → ClassId) (bs : Nat) : ig_h3 kk bs 6 = ig_c kk (ig_ad bs) 0 0 0 (ig_mm ig_a0 ig_b0 14) 14 := rfl
theorem ig_h_15 (kk : Nat → ClassId) (bs : Nat) : ig_h3 kk bs 7 = ig_c kk (ig_ad bs) 0 0 0 (ig_mm ig_a0 ig_b0 15) 15 := rfl
theorem ig_h_16 (kk : Nat → ClassId) (bs : Nat) : ig_h3 kk bs 8 = ig_c kk (ig_ad bs) 0 0 0 (ig_mm ig_a0 ig_b0 16) 16 := rfl
theorem ig_h_17 (kk : Nat → ClassId) (bs : Nat) : ig_h3 kk bs 9 = ig_c kk (ig_ad bs) 0 0 0 (ig_mm ig_a0 ig_b0 17) 17 := rfl
theorem ig_h_18 (kk : Nat → ClassId) (bs : Nat) : ig_h3 kk bs 10 = ig_c kk (ig_ad bs) 0 0 0 (ig_mm ig_a0 ig_b0 18) 18 := rfl
theorem ig_h_19 (kk : Nat → ClassId) (bs : Nat) : ig_h3 kk bs 11 = ig_c kk (ig_ad bs) 0 0 0 (ig_mm ig_a0 ig_b0 19) 19 := rfl
theorem ig_h_20 (kk : Nat → ClassId) (bs : Nat) : ig_h3 kk bs 12 = ig_c kk (ig_ad bs) 0 0 0 (ig_mm ig_a0 ig_b0 20) 20 := rfl
theorem ig_h_21 (kk : Nat → ClassId) (bs : Nat) : ig_h3 kk bs 21 = ig_c kk (ig_ad bs) 0 0 0 (ig_mm ig_a0 ig_b0 21) 21 := rfl
theorem ig_h_22 (kk : Nat → ClassId) (bs : Nat) : ig_h3 kk bs 22 = ig_c kk (ig_ad bs) 0 0 0 (ig_mm ig_a0 ig_b0 22) 22 := rfl
theorem ig_h_23 (kk : Nat → ClassId) (bs : Nat) : ig_h3 kk bs 23 = ig_c kk (ig_ad bs) 0 0 0 (ig_mm ig_a0 ig_b0 23) 23 := rfl
theorem ig_h_24 (kk : Nat → ClassId) (bs : Nat) : ig_h3 kk bs 24 = ig_c kk (ig_ad bs) 0 0 0 (ig_mm ig_a0 ig_b0 24) 24 := rfl
theorem ig_h_25 (kk : Nat → ClassId) (bs : Nat) : ig_h3 kk bs 25 = ig_c kk (ig_ad bs) 0 0 0 (ig_mm ig_a0 ig_b0 25) 25 := (congrArg (ig_ra (kk 4) 6) (ig_rf_eq bs 6 26 26 (fun k hk => by unfold ig_ad ig_of; rw [if_neg (by omega), if_neg (by omega)]; omega)))
theorem ig_h_26 (kk : Nat → ClassId) (bs : Nat) : ig_h3 kk bs 26 = ig_c kk (ig_ad bs) 0 0 0 (ig_mm ig_a0 ig_b0 26) 26 := rfl
theorem ig_h_27 (kk : Nat → ClassId) (bs : Nat) : ig_h3 kk bs 27 = ig_c kk (ig_ad bs) 0 0 0 (ig_mm ig_a0 ig_b0 27) 27 := rfl
theorem ig_h_28 (kk : Nat → ClassId) (bs : Nat) : ig_h3 kk bs 28 = ig_c kk (ig_ad bs) 0 0 0 (ig_mm ig_a0 ig_b0 28) 28 := rfl
theorem ig_h_29 (kk : Nat → ClassId) (bs : Nat) : ig_h3 kk bs 29 = ig_c kk (ig_ad bs) 0 0 0 (ig_mm ig_a0 ig_b0 29) 29 := rfl
theorem ig_h_30 (kk : Nat → ClassId) (bs : Nat) : ig_h3 kk bs 30 = ig_c kk (ig_ad bs) 0 0 0 (ig_mm ig_a0 ig_b0 30) 30 := rfl
theorem ig_h_31 (kk : Nat → ClassId) (bs : Nat) : ig_h3 kk bs 31 = ig_c kk (ig_ad bs) 0 0 0 (ig_mm ig_a0 ig_b0 31) 31 := rfl
theorem ig_h_32 (kk : Nat → ClassId) (bs : Nat) : ig_h3 kk bs 32 = ig_c kk (ig_ad bs) 0 0 0 (ig_mm ig_a0 ig_b0 32) 32 := (congrArg (ig_ra (kk 4) 64) (ig_rf_eq bs 64 33 33 (fun k hk => by unfold ig_ad ig_of; rw [if_neg (by omega), if_neg (by omega)]; omega)))
theorem ig_h_33 (kk : Nat → ClassId) (bs : Nat) : ig_h3 kk bs 33 = ig_c kk (ig_ad bs) 0 0 0 (ig_mm ig_a0 ig_b0 33) 33 := rfl
theorem ig_h_34 (kk : Nat → ClassId) (bs : Nat) : ig_h3 kk bs 34 = ig_c kk (ig_ad bs) 0 0 0 (ig_mm ig_a0 ig_b0 34) 34 := rfl
theorem ig_h_35 (kk : Nat → ClassId) (bs : Nat) : ig_h3 kk bs 35 = ig_c kk (ig_ad bs) 0 0 0 (ig_mm ig_a0 ig_b0 35) 35 := rfl
theorem ig_h_36 (kk : Nat → ClassId) (bs : Nat) : ig_h3 kk bs 36 = ig_c kk (ig_ad bs) 0 0 0 (ig_mm ig_a0 ig_b0 36) 36 := rfl
theorem ig_h_37 (kk : Nat → ClassId) (bs : Nat) : ig_h3 kk bs 37 = ig_c kk (ig_ad bs) 0 0 0 (ig_mm ig_a0 ig_b0 37) 37 := rfl
theorem ig_h_38 (kk : Nat → ClassId) (bs : Nat) : ig_h3 kk bs 38 = ig_c kk (ig_ad bs) 0 0 0 (ig_mm ig_a0 ig_b0 38) 38 := rfl
theorem ig_h_39 (kk : Nat → ClassId) (bs : Nat) : ig_h3 kk bs 39 = ig_c kk (ig_ad bs) 0 0 0 (ig_mm ig_a0 ig_b0 39) 39 := rfl
theorem ig_h_40 (kk : Nat → ClassId) (bs : Nat) : ig_h3 kk bs 40 = ig_c kk (ig_ad bs) 0 0 0 (ig_mm ig_a0 ig_b0 40) 40 := rfl
theorem ig_h_41 (kk : Nat → ClassId) (bs : Nat) : ig_h3 kk bs 41 = ig_c kk (ig_ad bs) 0 0 0 (ig_mm ig_a0 ig_b0 41) 41 := rfl
theorem ig_h_42 (kk : Nat → ClassId) (bs : Nat) : ig_h3 kk bs 42 = ig_c kk (ig_ad bs) 0 0 0 (ig_mm ig_a0 ig_b0 42) 42 := rfl
theorem ig_h_43 (kk : Nat → ClassId) (bs : Nat) : ig_h3 kk bs 43 = ig_c kk (ig_ad bs) 0 0 0 (ig_mm ig_a0 ig_b0 43) 43 := rfl
theorem ig_h_44 (kk : Nat → ClassId) (bs : Nat) : ig_h3 kk bs 44 = ig_c kk (ig_ad bs) 0 0 0 (ig_mm ig_a0 ig_b0 44) 44 := rfl
theorem ig_h_45 (kk : Nat → ClassId) (bs : Nat) : ig_h3 kk bs 45 = ig_c kk (ig_ad bs) 0 0 0 (ig_mm ig_a0 ig_b0 45) 45 := rfl
theorem ig_h_46 (kk : Nat → ClassId) (bs : Nat) : ig_h3 kk bs 46 = ig_c kk (ig_ad bs) 0 0 0 (ig_mm ig_a0 ig_b0 46) 46 := rfl
theorem ig_h_47 (kk : Nat → ClassId) (bs : Nat) : ig_h3 kk bs 47 = ig_c kk (ig_ad bs) 0 0 0 (ig_mm ig_a0 ig_b0 47) 47 := rfl
theorem ig_h_48 (kk : Nat → ClassId) (bs : Nat) : ig_h3 kk bs 48 = ig_c kk (ig_ad bs) 0 0 0 (ig_mm ig_a0 ig_b0 48) 48 := rfl
theorem ig_h_49 (kk : Nat → ClassId) (bs : Nat) : ig_h3 kk bs 49 = ig_c kk (ig_ad bs) 0 0 0 (ig_mm ig_a0 ig_b0 49) 49 := rfl
theorem ig_h_50 (kk : Nat → ClassId) (bs : Nat) : ig_h3 kk bs 50 = ig_c kk (ig_ad bs) 0 0 0 (ig_mm ig_a0 ig_b0 50) 50 := rfl
theorem ig_h_51 (kk : Nat → ClassId) (bs : Nat) : ig_h3 kk bs 51 = ig_c kk (ig_ad bs) 0 0 0 (ig_mm ig_a0 ig_b0 51) 51 := rfl
theorem ig_h_52 (kk : Nat → ClassId) (bs : Nat) : ig_h3 kk bs 52 = ig_c kk (ig_ad bs) 0 0 0 (ig_mm ig_a0 ig_b0 52) 52 := rfl
theorem ig_h_53 (kk : Nat → ClassId) (bs : Nat) : ig_h3 kk bs 53 = ig_c kk (ig_ad bs) 0 0 0 (ig_mm ig_a0 ig_b0 53) 53 := rfl
theorem ig_h_54 (kk : Nat → ClassId) (bs : Nat) : ig_h3 kk bs 54 = ig_c kk (ig_ad bs) 0 0 0 (ig_mm ig_a0 ig_b0 54) 54 := rfl
theorem ig_h_55 (kk : Nat → ClassId) (bs : Nat) : ig_h3 kk bs 55 = ig_c kk (ig_ad bs) 0 0 0 (ig_mm ig_a0 ig_b0 55) 55 := rfl
theorem ig_h_56 (kk : Nat → ClassId) (bs : Nat) : ig_h3 kk bs 56 = ig_c kk (ig_ad bs) 0 0 0 (ig_mm ig_a0 ig_b0 56) 56 := rfl
theorem ig_h_57 (kk : Nat → ClassId) (bs : Nat) : ig_h3 kk bs 57 = ig_c kk (ig_ad bs) 0 0 0 (ig_mm ig_a0 ig_b0 57) 57 := rfl
theorem ig_h_58 (kk : Nat → ClassId) (bs : Nat) : ig_h3 kk bs 58 = ig_c kk (ig_ad bs) 0 0 0 (ig_mm ig_a0 ig_b0 58) 58 := rfl
theorem ig_h_59 (kk : Nat → ClassId) (bs : Nat) : ig_h3 kk bs 59 = ig_c kk (ig_ad bs) 0 0 0 (ig_mm ig_a0 ig_b0 59) 59 := rfl
theorem ig_h_60 (kk : Nat → ClassId) (bs : Nat) : ig_h3 kk bs 60 = ig_c kk (ig_ad bs) 0 0 0 (ig_mm ig_a0 ig_b0 60) 60 := rfl
theorem ig_h_61 (kk : Nat → ClassId) (bs : Nat) : ig_h3 kk bs 61 = ig_c kk (ig_ad bs) 0 0 0 (ig_mm ig_a0 ig_b0 61) 61 := rfl
theorem ig_h_62 (kk : Nat → ClassId) (bs : Nat) : ig_h3 kk bs 62 = ig_c kk (ig_ad bs) 0 0 0 (ig_mm ig_a0 ig_b0 62) 62 := rfl
theorem ig_h_63 (kk : Nat → ClassId) (bs : Nat) : ig_h3 kk bs 63 = ig_c kk (ig_ad bs) 0 0 0 (ig_mm ig_a0 ig_b0 63) 63 := rfl
theorem ig_h_64 (kk : Nat → ClassId) (bs : Nat) : ig_h3 kk bs 64 = ig_c kk (ig_ad bs) 0 0 0 (ig_mm ig_a0 ig_b0 64) 64 := rfl
theorem ig_h_65 (kk : Nat → ClassId) (bs : Nat) : ig_h3 kk bs 65 = ig_c kk (ig_ad bs) 0 0 0 (ig_mm ig_a0 ig_b0 65) 65 := rfl
theorem ig_h_66 (kk : Nat → ClassId) (bs : Nat) : ig_h3 kk bs 66 = ig_c kk (ig_ad bs) 0 0 0 (ig_mm ig_a0 ig_b0 66) 66 := rfl
theorem ig_h_67 (kk : Nat → ClassId) (bs : Nat) : ig_h3 kk bs 67 = ig_c kk (ig_ad bs) 0 0 0 (ig_mm ig_a0 ig_b0 67) 67 := rfl
theorem ig_h_68 (kk : Nat → ClassId) (bs : Nat) : ig_h3 kk bs 68 = ig_c kk (ig_ad bs) 0 0 0 (ig_mm ig_a0 ig_b0 68) 68 := rfl
theorem ig_h_69 (kk : Nat → ClassId) (bs : Nat) : ig_h3 kk bs 69 = ig_c kk (ig_ad bs) 0 0 0 (ig_mm ig_a0 ig_b0 69) 69 := rfl
theorem ig_h_70 (kk : Nat → ClassId) (bs : Nat) : ig_h3 kk bs 70 = ig_c kk (ig_ad bs) 0 0 0 (ig_mm ig_a0 ig_b0 70) 70 := rfl
theorem ig_h_71 (kk : Nat → ClassId) (bs : Nat) : ig_h3 kk bs 71 = ig_c kk (ig_ad bs) 0 0 0 (ig_mm ig_a0 ig_b0 71) 71 := rfl
theorem ig_h_72 (kk : Nat → ClassId) (bs : Nat) : ig_h3 kk bs 72 = ig_c kk (ig_ad bs) 0 0 0 (ig_mm ig_a0 ig_b0 72) 72 := rfl
theorem ig_h_73 (kk : Nat → ClassId) (bs : Nat) : ig_h3 kk bs 73 = ig_c kk (ig_ad bs) 0 0 0 (ig_mm ig_a0 ig_b0 73) 73 := rfl
theorem ig_h_74 (kk : Nat → ClassId) (bs : Nat) : ig_h3 kk bs 74 = ig_c kk (ig_ad bs) 0 0 0 (ig_mm ig_a0 ig_b0 74) 74 := rfl
theorem ig_h_75 (kk : Nat → ClassId) (bs : Nat) : ig_h3 kk bs 75 = ig_c kk (ig_ad bs) 0 0 0 (ig_mm ig_a0 ig_b0 75) 75 := rfl
theorem ig_h_76 (kk : Nat → ClassId) (bs : Nat) : ig_h3 kk bs 76 = ig_c kk (ig_ad bs) 0 0 0 (ig_mm ig_a0 ig_b0 76) 76 := rfl
theorem ig_h_77 (kk : Nat → ClassId) (bs : Nat) : ig_h3 kk bs 77 = ig_c kk (ig_ad bs) 0 0 0 (ig_mm ig_a0 ig_b0 77) 77 := rfl
theorem ig_h_78 (kk : Nat → ClassId) (bs : Nat) : ig_h3 kk bs 78 = ig_c kk (ig_ad bs) 0 0 0 (ig_mm ig_a0 ig_b0 78) 78 := rfl
theorem ig_h_79 (kk : Nat → ClassId) (bs : Nat) : ig_h3 kk bs 79 = ig_c kk (ig_ad bs) 0 0 0 (ig_mm ig_a0 ig_b0 79) 79 := rfl
theorem ig_h_80 (kk : Nat → ClassId) (bs : Nat) : ig_h3 kk bs 80 = ig_c kk (ig_ad bs) 0 0 0 (ig_mm ig_a0 ig_b0 80) 80 := rfl
theorem ig_h_81 (kk : Nat → ClassId) (bs : Nat) : ig_h3 kk bs 81 = ig_c kk (ig_ad bs) 0 0 0 (ig_mm ig_a0 ig_b0 81) 81 := rfl
theorem ig_h_82 (kk : Nat → ClassId) (bs : Nat) : ig_h3 kk bs 82 = ig_c kk (ig_ad bs) 0 0 0 (ig_mm ig_a0 ig_b0 82) 82 := rfl
theorem ig_h_83 (kk : Nat → ClassId) (bs : Nat) : ig_h3 kk bs 83 = ig_c kk (ig_ad bs) 0 0 0 (ig_mm ig_a0 ig_b0 83) 83 := rfl
theorem ig_h_84 (kk : Nat → ClassId) (bs : Nat) : ig_h3 kk bs 84 = ig_c kk (ig_ad bs) 0 0 0 (ig_mm ig_a0 ig_b0 84) 84 := rfl
theorem ig_h_85 (kk : Nat → ClassId) (bs : Nat) : ig_h3 kk bs 85 = ig_c kk (ig_ad bs) 0 0 0 (ig_mm ig_a0 ig_b0 85) 85 := rfl
theorem ig_h_86 (kk : Nat → ClassId) (bs : Nat) : ig_h3 kk bs 86 = ig_c kk (ig_ad bs) 0 0 0 (ig_mm ig_a0 ig_b0 86) 86 := rfl
theorem ig_h_87 (kk : Nat → ClassId) (bs : Nat) : ig_h3 kk bs 87 = ig_c kk (ig_ad bs) 0 0 0 (ig_mm ig_a0 ig_b0 87) 87 := rfl
theorem ig_h_88 (kk : Nat → ClassId) (bs : Nat) : ig_h3 kk bs 88 = ig_c kk (ig_ad bs) 0 0 0 (ig_mm ig_a0 ig_b0 88) 88 := rfl
theorem ig_h_89 (kk : Nat → ClassId) (bs : Nat) : ig_h3 kk bs 89 = ig_c kk (ig_ad bs) 0 0 0 (ig_mm ig_a0 ig_b0 89) 89 := rfl
theorem ig_h_90 (kk : Nat → ClassId) (bs : Nat) : ig_h3 kk bs 90 = ig_c kk (ig_ad bs) 0 0 0 (ig_mm ig_a0 ig_b0 90) 90 := rfl
theorem ig_h_91 (kk : Nat → ClassId) (bs : Nat) : ig_h3 kk bs 91 = ig_c kk (ig_ad bs) 0 0 0 (ig_mm ig_a0 ig_b0 91) 91 := rfl
theorem ig_h_92 (kk : Nat → ClassId) (bs : Nat) : ig_h3 kk bs 92 = ig_c kk (ig_ad bs) 0 0 0 (ig_mm ig_a0 ig_b0 92) 92 := rfl
theorem ig_h_93 (kk : Nat → ClassId) (bs : Nat) : ig_h3 kk bs 93 = ig_c kk (ig_ad bs) 0 0 0 (ig_mm ig_a0 ig_b0 93) 93 := rfl
theorem ig_h_94 (kk : Nat → ClassId) (bs : Nat) : ig_h3 kk bs 94 = ig_c kk (ig_ad bs) 0 0 0 (ig_mm ig_a0 ig_b0 94) 94 := rfl
theorem ig_h_95 (kk : Nat → ClassId) (bs : Nat) : ig_h3 kk bs 95 = ig_c kk (ig_ad bs) 0 0 0 (ig_mm ig_a0 ig_b0 95) 95 := rfl
theorem ig_h_96 (kk : Nat → ClassId) (bs : Nat) : ig_h3 kk bs 96 = ig_c kk (ig_ad bs) 0 0 0 (ig_mm ig_a0 ig_b0 96) 96 := rfl
theorem ig_h_97 (kk : Nat → ClassId) (bs : Nat) : ig_h3 kk bs 97 = ig_c kk (ig_ad bs) 0 0 0 (ig_mm ig_a0 ig_b0 97) 97 := rfl
theorem ig_h_98 (kk : Nat → ClassId) (bs : Nat) : ig_h3 kk bs 98 = ig_c kk (ig_ad bs) 0 0 0 (ig_mm ig_a0 ig_b0 98) 98 := rfl
theorem ig_h_99 (kk : Nat → ClassId) (bs : Nat) : ig_h3 kk bs 99 = ig_c kk (ig_ad bs) 0 0 0 (ig_mm ig_a0 ig_b0 99) 99 := rfl
theorem ig_h_100 (kk : Nat → ClassId) (bs : Nat) : ig_h3 kk bs 100 = ig_c kk (ig_ad bs) 0 0 0 (ig_mm ig_a0 ig_b0 100) 100 := rfl
theorem ig_h_101 (kk : Nat → ClassId) (bs : Nat) : ig_h3 kk bs 101 = ig_c kk (ig_ad bs) 0 0 0 (ig_mm ig_a0 ig_b0 101) 101 := rfl
theorem ig_h_102 (kk : Nat → ClassId) (bs : Nat) : ig_h3 kk bs 102 = ig_c kk (ig_ad bs) 0 0 0 (ig_mm ig_a0 ig_b0 102) 102 := rfl
theorem ig_h_103 (kk : Nat → ClassId) (bs : Nat) : ig_h3 kk bs 103 = ig_c kk (ig_ad bs) 0 0 0 (ig_mm ig_a0 ig_b0 103) 103 := rfl
theorem ig_h_104 (kk : Nat → ClassId) (bs : Nat) : ig_h3 kk bs 104 = ig_c kk (ig_ad bs) 0 0 0 (ig_mm ig_a0 ig_b0 104) 104 := rfl
theorem ig_h_105 (kk : Nat → ClassId) (bs : Nat) : ig_h3 kk bs 105 = ig_c kk (ig_ad bs) 0 0 0 (ig_mm ig_a0 ig_b0 105) 105 := rfl
theorem ig_h_106 (kk : Nat → ClassId) (bs : Nat) : ig_h3 kk bs 106 = ig_c kk (ig_ad bs) 0 0 0 (ig_mm ig_a0 ig_b0 106) 106 := rfl
theorem ig_h_107 (kk : Nat → ClassId) (bs : Nat) : ig_h3 kk bs 107 = ig_c kk (ig_ad bs) 0 0 0 (ig_mm ig_a0 ig_b0 107) 107 := rfl
theorem ig_h_108 (kk : Nat → ClassId) (bs : Nat) : ig_h3 kk bs 108 = ig_c kk (ig_ad bs) 0 0 0 (ig_mm ig_a0 ig_b0 108) 108 := rfl
theorem ig_h_109 (kk : Nat → ClassId) (bs : Nat) : ig_h3 kk bs 109 = ig_c kk (ig_ad bs) 0 0 0 (ig_mm ig_a0 ig_b0 109) 109 := rfl
theorem ig_h_110 (kk : Nat → ClassId) (bs : Nat) : ig_h3 kk bs 110 = ig_c kk (ig_ad bs) 0 0 0 (ig_mm ig_a0 ig_b0 110) 110 := rfl
theorem ig_h_111 (kk : Nat → ClassId) (bs : Nat) : ig_h3 kk bs 111 = ig_c kk (ig_ad bs) 0 0 0 (ig_mm ig_a0 ig_b0 111) 111 := rfl
theorem ig_h_112 (kk : Nat → ClassId) (bs : Nat) : ig_h3 kk bs 112 = ig_c kk (ig_ad bs) 0 0 0 (ig_mm ig_a0 ig_b0 112) 112 := rfl
theorem ig_h_113 (kk : Nat → ClassId) (bs : Nat) : ig_h3 kk bs 113 = ig_c kk (ig_ad bs) 0 0 0 (ig_mm ig_a0 ig_b0 113) 113 := rfl
theorem ig_h_114 (kk : Nat → ClassId) (bs : Nat) : ig_h3 kk bs 114 = ig_c kk (ig_ad bs) 0 0 0 (ig_mm ig_a0 ig_b0 114) 114 := rfl
theorem ig_h_115 (kk : Nat → ClassId) (bs : Nat) : ig_h3 kk bs 115 = ig_c kk (ig_ad bs) 0 0 0 (ig_mm ig_a0 ig_b0 115) 115 := rfl
set_option maxRecDepth 100000 in
theorem ig_hall (kk : Nat → ClassId) (bs : Nat) : ∀ i : Nat, i < 116 → ig_h3 kk bs (ig_of i) = ig_c kk (ig_ad bs) 0 0 0 (ig_mm ig_a0 ig_b0 i) i := lt_s (lt_s (lt_s (lt_s (lt_s (lt_s (lt_s (lt_s (lt_s (lt_s (lt_s (lt_s (lt_s (lt_s (lt_s (lt_s (lt_s (lt_s (lt_s (lt_s (lt_s (lt_s (lt_s (lt_s (lt_s (lt_s (lt_s (lt_s (lt_s (lt_s (lt_s (lt_s (lt_s (lt_s (lt_s (lt_s (lt_s (lt_s (lt_s (lt_s (lt_s (lt_s (lt_s (lt_s (lt_s (lt_s (lt_s (lt_s (lt_s (lt_s (lt_s (lt_s (lt_s (lt_s (lt_s (lt_s (lt_s (lt_s (lt_s (lt_s (lt_s (lt_s (lt_s (lt_s (lt_s (lt_s (lt_s (lt_s (lt_s (lt_s (lt_s (lt_s (lt_s (lt_s (lt_s (lt_s (lt_s (lt_s (lt_s (lt_s (lt_s (lt_s (lt_s (lt_s (lt_s (lt_s (lt_s (lt_s (lt_s (lt_s (lt_s (lt_s (lt_s (lt_s (lt_s (lt_s (lt_s (lt_s (lt_s (lt_s (lt_s (lt_s (lt_s (lt_s (lt_s (lt_s (lt_s (lt_s (lt_s (lt_s (lt_s (lt_s (lt_s (lt_s (lt_s (lt_s (lt_0) (ig_h_0 kk bs)) (ig_h_1 kk bs)) (ig_h_2 kk bs)) (ig_h_3 kk bs)) (ig_h_4 kk bs)) (ig_h_5 kk bs)) (ig_h_6 kk bs)) (ig_h_7 kk bs)) (ig_h_8 kk bs)) (ig_h_9 kk bs)) (ig_h_10 kk bs)) (ig_h_11 kk bs)) (ig_h_12 kk bs)) (ig_h_13 kk bs)) (ig_h_14 kk bs)) (ig_h_15 kk bs)) (ig_h_16 kk bs)) (ig_h_17 kk bs)) (ig_h_18 kk bs)) (ig_h_19 kk bs)) (ig_h_20 kk bs)) (ig_h_21 kk bs)) (ig_h_22 kk bs)) (ig_h_23 kk bs)) (ig_h_24 kk bs)) (ig_h_25 kk bs)) (ig_h_26 kk bs)) (ig_h_27 kk bs)) (ig_h_28 kk bs)) (ig_h_29 kk bs)) (ig_h_30 kk bs)) (ig_h_31 kk bs)) (ig_h_32 kk bs)) (ig_h_33 kk bs)) (ig_h_34 kk bs)) (ig_h_35 kk bs)) (ig_h_36 kk bs)) (ig_h_37 kk bs)) (ig_h_38 kk bs)) (ig_h_39 kk bs)) (ig_h_40 kk bs)) (ig_h_41 kk bs)) (ig_h_42 kk bs)) (ig_h_43 kk bs)) (ig_h_44 kk bs)) (ig_h_45 kk bs)) (ig_h_46 kk bs)) (ig_h_47 kk bs)) (ig_h_48 kk bs)) (ig_h_49 kk bs)) (ig_h_50 kk bs)) (ig_h_51 kk bs)) (ig_h_52 kk bs)) (ig_h_53 kk bs)) (ig_h_54 kk bs)) (ig_h_55 kk bs)) (ig_h_56 kk bs)) (ig_h_57 kk bs)) (ig_h_58 kk bs)) (ig_h_59 kk bs)) (ig_h_60 kk bs)) (ig_h_61 kk bs)) (ig_h_62 kk bs)) (ig_h_63 kk bs)) (ig_h_64 kk bs)) (ig_h_65 kk bs)) (ig_h_66 kk bs)) (ig_h_67 kk bs)) (ig_h_68 kk bs)) (ig_h_69 kk bs)) (ig_h_70 kk bs)) (ig_h_71 kk bs)) (ig_h_72 kk bs)) (ig_h_73 kk bs)) (ig_h_74 kk bs)) (ig_h_75 kk bs)) (ig_h_76 kk bs)) (ig_h_77 kk bs)) (ig_h_78 kk bs)) (ig_h_79 kk bs)) (ig_h_80 kk bs)) (ig_h_81 kk bs)) (ig_h_82 kk bs)) (ig_h_83 kk bs)) (ig_h_84 kk bs)) (ig_h_85 kk bs)) (ig_h_86 kk bs)) (ig_h_87 kk bs)) (ig_h_88 kk bs)) (ig_h_89 kk bs)) (ig_h_90 kk bs)) (ig_h_91 kk bs)) (ig_h_92 kk bs)) (ig_h_93 kk bs)) (ig_h_94 kk bs)) (ig_h_95 kk bs)) (ig_h_96 kk bs)) (ig_h_97 kk bs)) (ig_h_98 kk bs)) (ig_h_99 kk bs)) (ig_h_100 kk bs)) (ig_h_101 kk bs)) (ig_h_102 kk bs)) (ig_h_103 kk bs)) (ig_h_104 kk bs)) (ig_h_105 kk bs)) (ig_h_106 kk bs)) (ig_h_107 kk bs)) (ig_h_108 kk bs)) (ig_h_109 kk bs)) (ig_h_110 kk bs)) (ig_h_111 kk bs)) (ig_h_112 kk bs)) (ig_h_113 kk bs)) (ig_h_114 kk bs)) (ig_h_115 kk bs)
section IGS
variable {p : Program} {l : Launch} {e : Env} {s : State} {m : MethodId} {below : List Frame} {meth : Method} {c : Code} {b0 Ln : Nat} {xs : Nat → Int32}
theorem ig_tb {w : Cond} (h : w ∈ ig_all) : w ∈ lw_tbl := (List.mem_filter.mp h).1
theorem ig_kk_ex (hts : ∀ w ∈ lw_tbl, w.before #[Value.ref b0] s = true) {ty : FieldType} (h : Cond.arrayClass ty ∈ lw_tbl) (ho : ∀ C, ty ≠ .object C) : ∃ cA : ClassId, ArrOfT s cA ty ∧ va_RA s cA ty := by
  obtain ⟨c, k, comp, h1, h2, h3⟩ := Cond.arrayClass_spec (hts _ h)
  refine ⟨c, fun N z => ⟨(fun q hq => by cases hq), k, h2, comp, h3⟩, ?_⟩
  cases ty <;> first | exact h1 | exact absurd rfl (ho _)
theorem ig_AO_in : Cond.arrayOver (.object "Intergreen$Phase") ∈ lw_tbl := List.mem_append_right _ (List.mem_of_getElem? (i := 30) (by decide +kernel))
theorem ig_AOA_in : Cond.arrayOver (.array .int) ∈ lw_tbl := List.mem_append_right _ (List.mem_of_getElem? (i := 32) (by decide +kernel))
theorem ig_AOs_ex (hts : ∀ w ∈ lw_tbl, w.before #[Value.ref b0] s = true) : ig_AOs s := ⟨hts _ ig_AO_in, hts _ ig_AOA_in⟩
theorem ig_nm_in : ∀ q ∈ ig_nm, Cond.methodLinkNest q.1 q.2.1 q.2.2.1 q.2.2.2 ∈ lw_tbl := by decide +kernel
theorem ig_nd_in : ∀ x ∈ ig_nd, Cond.declares x ∈ lw_tbl := by decide +kernel
theorem ig_nc_in : ∀ q ∈ ig_nc, Cond.castable q q ∈ lw_tbl := by decide +kernel
theorem ig_st_in : ∀ q ∈ ig_st, Cond.stringRef RX5 q.1 q.2 ∈ lw_tbl := by decide +kernel
theorem ig_nn_in : ∀ q ∈ ig_nn, Cond.not (.castable q.1 q.2) ∈ flatC (Jvm.Cond.and given_1 narrow_1) := by decide +kernel
theorem ig_sx_in : ∀ q ∈ ig_st, Cond.exactly (.string RX5 q.1) "java/lang/String" ∈ flatC (Jvm.Cond.and given_1 narrow_1) := by decide +kernel
theorem ig_us_in : Cond.isRef (.static Bundle.tN "UNASSIGNED_STACK" Bundle.steD) ∈ flatC (Jvm.Cond.and given_1 narrow_1) := by decide +kernel
theorem ig_ss_in : Cond.isRef (.static Bundle.tN "SUPPRESSED_SENTINEL" Bundle.listD) ∈ flatC (Jvm.Cond.and given_1 narrow_1) := by decide +kernel
theorem ig_lu_in : Cond.laysStatic Bundle.tN "UNASSIGNED_STACK" Bundle.steD ∈ lw_tbl := List.mem_append_right _ (List.mem_of_getElem? (i := 305) (by decide +kernel))
theorem ig_ls_in : Cond.laysStatic Bundle.tN "SUPPRESSED_SENTINEL" Bundle.listD ∈ lw_tbl := List.mem_append_right _ (List.mem_of_getElem? (i := 307) (by decide +kernel))
theorem ig_it_in : Cond.initialized Bundle.tN ∈ lw_tbl := List.mem_append_right _ (List.mem_of_getElem? (i := 8) (by decide +kernel))
theorem ig_N_ex (hts : ∀ w ∈ lw_tbl, w.before #[Value.ref b0] s = true) (hgv : (Jvm.Cond.and given_1 narrow_1).before #[Value.ref b0] s = true) : ig_N s := by
  have hs := flat_of_before _ hgv
  refine ⟨fun q hq => va_Nw.of rfl (hts _ (ig_nm_in q hq)), fun x hx => va_Nw.of rfl (hts _ (ig_nd_in x hx)), fun q hq => va_Nw.of rfl (hts _ (ig_nc_in q hq)), fun q hq => va_Nc.of (hs _ (ig_nn_in q hq)), fun q hq => ?_⟩
  obtain ⟨a, -, -, -, ha, -⟩ := Cond.exactly_spec (hs _ (ig_sx_in q hq))
  exact ⟨a, vk_R.of (hts _ (ig_st_in q hq)) ha⟩
theorem ig_X_ex (hts : ∀ w ∈ lw_tbl, w.before #[Value.ref b0] s = true) (hgv : (Jvm.Cond.and given_1 narrow_1).before #[Value.ref b0] s = true) : ig_X s.heap.size s := by
  have hs := flat_of_before _ hgv
  exact ⟨vx_Zqof (hts _ ig_lu_in) (hts _ ig_it_in) (hs _ ig_us_in) (fun a ha h => Nat.lt_irrefl _ (Nat.lt_of_lt_of_le ha h)), vx_Zqof (hts _ ig_ls_in) (hts _ ig_it_in) (hs _ ig_ss_in) (fun a ha h => Nat.lt_irrefl _ (Nat.lt_of_lt_of_le ha h))⟩
theorem ig_E_ex (hts : ∀ w ∈ lw_tbl, w.before #[Value.ref b0] s = true) (hgv : (Jvm.Cond.and given_1 narrow_1).before #[Value.ref b0] s = true) : ∃ (D : va_G) (kk : Nat → ClassId), ig_E D kk (ig_ad s.heap.size) s.heap.size s := by
  obtain ⟨cX0, iX0, hKX0⟩ := u_known (C := RX0) (T := TX0) (N := 9) (n := 9) hts (fun w h => ig_tb (in_X0 w h)) (hts _ (ig_tb mw_714))
  obtain ⟨cX1, iX1, hKX1⟩ := u_known (C := RX1) (T := TX1) (N := 1) (n := 1) hts (fun w h => ig_tb (in_X1 w h)) (hts _ (ig_tb mw_710))
  obtain ⟨cX2, iX2, hKX2⟩ := u_known (C := RX2) (T := TX2) (N := 12) (n := 12) hts (fun w h => ig_tb (in_X2 w h)) (hts _ (ig_tb mw_700))
  obtain ⟨cX3, iX3, hKX3⟩ := u_known (C := RX3) (T := TX3) (N := 5) (n := 5) hts (fun w h => ig_tb (in_X3 w h)) (hts _ (ig_tb mw_705))
  obtain ⟨cX4, iX4, hKX4⟩ := u_known (C := RX4) (T := TX4) (N := 3) (n := 3) hts (fun w h => ig_tb (in_X4 w h)) (hts _ (ig_tb mw_719))
  obtain ⟨cX5, iX5, hKX5⟩ := u_known (C := RX5) (T := TX5) (N := 4) (n := 4) hts (fun w h => ig_tb (in_X5 w h)) (hts _ (ig_tb mw_723))
  obtain ⟨cX6, iX6, hKX6⟩ := u_known (C := RX6) (T := TX6) (N := 27) (n := 27) hts (fun w h => ig_tb (in_X6 w h)) (hts _ (ig_tb mw_724))
  obtain ⟨k0, hk0a, hk0b⟩ := ig_kk_ex hts (ty := .int) (ig_tb mw_688) (fun _ h => by cases h)
  obtain ⟨k1, hk1a, hk1b⟩ := ig_kk_ex hts (ty := .boolean) (ig_tb mw_689) (fun _ h => by cases h)
  obtain ⟨k2, hk2a, hk2b⟩ := ig_kk_ex hts (ty := .long) (ig_tb mw_690) (fun _ h => by cases h)
  obtain ⟨comp3, k3, kc3, h31, -, h33, h34, h35⟩ := Cond.arrayOver_spec (hts _ ig_AO_in)
  obtain ⟨comp4, k4, kc4, -, -, h43, h44, h45⟩ := ig_AOA_spec (t := .int) (s := s) (hts _ ig_AOA_in)
  refine ⟨(fun k => match k with | 0 => cX0 | 1 => cX1 | 2 => cX2 | 3 => cX3 | 4 => cX4 | 5 => cX5 | _ => cX6, fun k => match k with | 0 => iX0 | 1 => iX1 | 2 => iX2 | 3 => iX3 | 4 => iX4 | 5 => iX5 | _ => iX6), (fun k => match k with | 0 => k0 | 1 => k1 | 2 => k2 | 3 => k3 | _ => k4), ⟨?_, ?_⟩, ⟨?_, ?_⟩, Nat.le_refl _, ig_N_ex hts hgv, ig_X_ex hts hgv⟩
  · intro k q hq
    match k, hq with
    | 0, hq => cases hq; exact hKX0
    | 1, hq => cases hq; exact hKX1
    | 2, hq => cases hq; exact hKX2
    | 3, hq => cases hq; exact hKX3
    | 4, hq => cases hq; exact hKX4
    | 5, hq => cases hq; exact hKX5
    | 6, hq => cases hq; exact hKX6
    | k + 7, hq => simp [vwCl] at hq
  · intro k q hq
    match k, hq with
    | 0, hq => cases hq; exact ⟨hk0a, hk0b⟩
    | 1, hq => cases hq; exact ⟨hk1a, hk1b⟩
    | 2, hq => cases hq; exact ⟨hk2a, hk2b⟩
    | 3, hq => cases hq; exact ⟨fun N z => ⟨(fun q hq => by cases hq), kc3, h33, comp3, h34⟩, kc3, comp3, h33, h34, h31, h35⟩
    | 4, hq => cases hq; exact ⟨fun N z => ⟨(fun q hq => by cases hq), kc4, h43, comp4, h44⟩, h45⟩
    | k + 5, hq => simp [ig_tys] at hq
  · intro i j _ _ h
    have h : s.heap.size + ig_of i = s.heap.size + ig_of j := h
    exact ig_of_inj (by omega)
  · intro i _
    exact Nat.le_add_right _ _
set_option maxHeartbeats 4000000 in
set_option maxRecDepth 100000 in
theorem ig_start (l : Launch) (hflags : l.flags = flags0) (hL : Ln ≤ 2560) (hpure : wp_L_law_23 xs Ln 1000 ig_a0 0 ig_b0 0 0 0) (C0 : lw_At p s m meth c b0 Ln xs) : W p l e room_1 s m #[Value.ref b0] below meth c s.heap [] 0 0 (lw_Z below #[Value.ref b0] s) (entryFrame m ([Value.ref b0] : List Value).toArray 9) := by
  obtain ⟨hx, hb, hr, hml, hown, hts, hX, hbl, hk, hgv⟩ := C0
  have hlt : l.stackTraces = false := by unfold Launch.stackTraces; rw [hflags]; decide
  have Fs : CallFix p m c code 9 s #[Value.ref b0] ig_all RL := ⟨hx, hb, hml, hown, fun w hw => hts w (ig_tb hw)⟩
  have hAO := ig_AOs_ex hts
  obtain ⟨D, kk, Es⟩ := ig_E_ex hts hgv
  obtain ⟨bs, hbs⟩ : ∃ q, q = s.heap.size := ⟨_, rfl⟩
  rw [← hbs] at Es
  have hbA : ¬ ig_A bs b0 := by unfold ig_A; omega
  refine W.base ?_
  have hd0 := Drawn.sameBut.refl s.drawn lw_cs
  have F := ig_Fd Fs s.drawn
  have E := ig_Ed Es s.drawn
  have hAO : ig_AOs (s.setDrawn s.drawn) := hAO.moved (Vm.Alike.refl _)
  have Z : ig_GZ D bs (s.setDrawn s.drawn) s.heap [] 0 (fun _ => .inr (0, [])) := ⟨⟨hbs, fun i hi => absurd hi (Nat.not_lt_zero i)⟩, va_S.rf⟩
  have hl := lv_entry ([.ref b0]) (n := 9) (Nat.le_of_ble_eq_true rfl)
  rw [lg_entry_eq]
  generalize (lg_sl ([.ref b0]) ++ List.replicate (9 - (lg_sl ([.ref b0])).length) Slot.unset).toArray = ls at hl ⊢
  have hl : lv_has ls 9 [(0, .ref b0)] := hl
  refine ic_new (T := TX5) (N := 4) (ci := 5) (fs := [.null, .null, .null, .null]) F E Z in_X5 tyX5 tyX5_ok mw_725 mw_723 mw_3 rfl (by decide +kernel) (Nat.le_of_ble_eq_true rfl) (Nat.le_of_ble_eq_true rfl) dL_law_0 (fun H Z => ?_)
  refine lv_dup F.1 F.2.1 dL_law_3 rfl ?_
  have Z : ig_GZ D bs (s.setDrawn s.drawn) H [] 1 ig_h1 := Z
  have hM := k_X5_init l (D := D) (kk := kk) (ad := ig_ad bs) (bs := bs) (g := ig_h1) rfl
  refine ic_callv E Z (ic_runI (As := []) (rest := [.ref (bs + 0)]) F E hAO Z hl hM mw_726 mw_3 mw_727 mw_728 rfl md_X5_init rfl ⟨rfl, rfl⟩ ⟨(Nat.le_of_ble_eq_true rfl), (Nat.le_of_ble_eq_true rfl)⟩ (Nat.le_of_ble_eq_true rfl) dL_law_4 ⟨(Nat.le_of_ble_eq_true rfl), (Nat.le_of_ble_eq_true rfl)⟩) (fun H locs Z => ?_)
  refine lv_astore_n (lv' := [(1, .ref (bs + 0)), (0, .ref b0)]) F.1 F.2.1 dL_law_7 rfl hl (by decide) rfl (fun ls hl => ?_)
  refine ic_new (T := TX6) (N := 27) (ci := 6) (fs := [.int 0, .int 0, .int 0, .null, .null, .null, .null, .int 0, .null, .int 0, .int 0, .int 0, .null, .null, .null, .null, .null, .null, .null, .null, .null, .int 0, .int 0, .long 0, .null, .null, .null]) F E Z in_X6 tyX6 tyX6_ok mw_729 mw_724 mw_120 rfl (by decide +kernel) (Nat.le_of_ble_eq_true rfl) (Nat.le_of_ble_eq_true rfl) dL_law_8 (fun H Z => ?_)
  refine lv_dup F.1 F.2.1 dL_law_11 rfl ?_
  have Z : ig_GZ D bs (s.setDrawn s.drawn) H _ 98 (ig_h2 kk bs) := Z
  have hM := k_X6_init l (D := D) (kk := kk) (ad := ig_ad bs) (bs := bs) (g := (ig_h2 kk bs)) rfl
  refine ic_callv E Z (ic_runI (As := []) (rest := [.ref (bs + 97)]) F E hAO Z hl hM mw_730 mw_120 mw_731 mw_732 rfl md_X6_init rfl ⟨rfl, rfl⟩ ⟨(Nat.le_of_ble_eq_true rfl), (Nat.le_of_ble_eq_true rfl)⟩ (Nat.le_of_ble_eq_true rfl) dL_law_12 ⟨(Nat.le_of_ble_eq_true rfl), (Nat.le_of_ble_eq_true rfl)⟩) (fun H locs Z => ?_)
  refine lv_astore_n (lv' := [(2, .ref (bs + 97)), (1, .ref (bs + 0)), (0, .ref b0)]) F.1 F.2.1 dL_law_15 rfl hl (by decide) rfl (fun ls hl => ?_)
  refine lv_iconst (v := 1) F.1 F.2.1 dL_law_16 (by decide) ?_
  refine ic_newj (N := 1) F E Z mw_690 (by decide) (by decide) (Nat.le_of_ble_eq_true rfl) (Nat.le_of_ble_eq_true rfl) (Nat.le_of_ble_eq_true rfl) dL_law_17 (fun H Z => ?_)
  have Z : ig_GZ D bs (s.setDrawn s.drawn) H _ 116 (ig_h3 kk bs) := Z
  refine lv_astore_n (lv' := [(3, .ref (bs + 115)), (2, .ref (bs + 97)), (1, .ref (bs + 0)), (0, .ref b0)]) F.1 F.2.1 dL_law_19 rfl hl (by decide) rfl (fun ls hl => ?_)
  refine lv_iconst (v := 0) F.1 F.2.1 dL_law_20 (by decide) ?_
  refine lv_istore (lv' := [(4, .int 0), (3, .ref (bs + 115)), (2, .ref (bs + 97)), (1, .ref (bs + 0)), (0, .ref b0)]) F.1 F.2.1 dL_law_21 hl (by decide) rfl (fun ls hl => ?_)
  have Z2 : ig_Z D kk (ig_ad bs) bs (s.setDrawn s.drawn) H _ ig_a0 0 ig_b0 0 0 := ⟨fun i hi => by
    rw [← ig_hall kk bs i hi]
    exact Z.1.2 (ig_of i) (ig_of_lt hi), Z.2⟩
  exact wm_L_law_23 l hlt Fs Es hr hk hX hbl hbA (Nat.le_of_eq hbs.symm) 1000 ig_a0 0 ig_b0 0 0 0 _ hd0 _ _ _ _ _ (Nat.le_of_ble_eq_true rfl) (Nat.le_of_ble_eq_true rfl) hpure Z2 (lv_sub hl [4, 3, 2, 1, 0] rfl)
end IGS
