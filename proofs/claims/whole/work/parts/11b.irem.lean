theorem i32_sub_div {a b : Int} (h0 : 0 ≤ a) (h1 : a ≤ 2147483647) (h2 : 0 < b) (h3 : b ≤ 2147483647) : Int32.ofInt a / Int32.ofInt b = Int32.ofInt (a / b) := by
  rw [← Int.tdiv_eq_ediv_of_nonneg h0]
  exact (Int32.ofInt_tdiv (by rw [Int32.toInt_minValue]; omega) (by rw [Int32.toInt_maxValue]; omega) (by rw [Int32.toInt_minValue]; omega) (by rw [Int32.toInt_maxValue]; omega)).symm
theorem s_irem {M : MD} {pc n : Nat} (hd : decode M.2.2.2.1 pc = .ok (.irem, 1)) (hn : n = pc + 1) : Sound M pc (iRem n) := by
  subst hn
  intro Q ls st μ K hK h
  obtain ⟨a, b, r, rfl, ⟨h0, h1, h2, h3⟩, h4⟩ := sII_elim h
  intro l ad sv D cT p e s m args below meth c C H locs la hP hS hL hV hT
  obtain ⟨hx, hb, hml, hr, hlk, hown, hts, hnw, hK0, hAD, hst⟩ := id C
  have hk := hK _ _ _ _ h4 l ad sv D cT p e s m args below meth c C H locs la hP hS hL hV (VOKs.cons (VOKs.tail (VOKs.tail hT)) (VOK_lt (Nat.zero_lt_succ 99)))
  have e : Int32.ofInt (a % b) = Int32.ofInt a - Int32.ofInt a / Int32.ofInt b * Int32.ofInt b := by
    rw [i32_sub_div h0 h1 h2 h3, ← Int32.ofInt_mul, ← Int32.ofInt_sub]
    congr 1
    rw [Int.emod_def, Int.mul_comm]
  rw [List.map_cons, cv_int, e] at hk
  exact lv_irem hx hb hd (by rw [i32_0, i32_eq (by omega) (by omega)]; omega) hk
