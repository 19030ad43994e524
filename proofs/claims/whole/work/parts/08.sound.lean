/-! THE INSTRUCTIONS and their soundness -/
def iC (z : Int) (n : Nat) : PI := fun _ ls st μ K => K n ls ((0, z) :: st) μ
def iCL (z : Int) (n : Nat) : PI := fun _ ls st μ K => K n ls ((1, z) :: st) μ
theorem s_iconst {M : MD} {pc n : Nat} {z : Int} (hd : decode M.2.2.2.1 pc = .ok (.iconst z, 1)) (hn : n = pc + 1) : Sound M pc (iC z n) := by
  subst hn
  intro Q ls st μ K hK h
  intro l ad sv D cT p e s m args below meth c C H locs la hP hS hL hV hT
  obtain ⟨hx, hb, hml, hr, hlk, hown, hts, hnw, hK0, hAD, hst⟩ := id C
  exact lv_iconst hx hb hd rfl (hK _ _ _ _ h l ad sv D cT p e s m args below meth c C H locs la hP hS hL hV (VOKs.cons hT (VOK_lt (Nat.zero_lt_succ 99))))
theorem s_bipush {M : MD} {pc n : Nat} {z : Int} (hv : (Int8.ofInt z).toInt32 = Int32.ofInt z) (hd : decode M.2.2.2.1 pc = .ok (.bipush z, 2)) (hn : n = pc + 2) : Sound M pc (iC z n) := by
  subst hn
  intro Q ls st μ K hK h
  intro l ad sv D cT p e s m args below meth c C H locs la hP hS hL hV hT
  obtain ⟨hx, hb, hml, hr, hlk, hown, hts, hnw, hK0, hAD, hst⟩ := id C
  exact lv_bipush hx hb hd hv (hK _ _ _ _ h l ad sv D cT p e s m args below meth c C H locs la hP hS hL hV (VOKs.cons hT (VOK_lt (Nat.zero_lt_succ 99))))
theorem s_sipush {M : MD} {pc n : Nat} {z : Int} (hv : (Int16.ofInt z).toInt32 = Int32.ofInt z) (hd : decode M.2.2.2.1 pc = .ok (.sipush z, 3)) (hn : n = pc + 3) : Sound M pc (iC z n) := by
  subst hn
  intro Q ls st μ K hK h
  intro l ad sv D cT p e s m args below meth c C H locs la hP hS hL hV hT
  obtain ⟨hx, hb, hml, hr, hlk, hown, hts, hnw, hK0, hAD, hst⟩ := id C
  exact lv_sipush hx hb hd hv (hK _ _ _ _ h l ad sv D cT p e s m args below meth c C H locs la hP hS hL hV (VOKs.cons hT (VOK_lt (Nat.zero_lt_succ 99))))
theorem s_ldc {M : MD} {pc n index : Nat} {z : Int} (hc : Cond.constant M.2.2.1.cls index (Int32.ofInt z) ∈ gW) (hd : decode M.2.2.2.1 pc = .ok (.ldc index, 2)) (hn : n = pc + 2) : Sound M pc (iC z n) := by
  subst hn
  intro Q ls st μ K hK h
  intro l ad sv D cT p e s m args below meth c C H locs la hP hS hL hV hT
  obtain ⟨hx, hb, hml, hr, hlk, hown, hts, hnw, hK0, hAD, hst⟩ := id C
  exact lv_ldc hx hb hown (hts _ (List.mem_cons_of_mem _ hc)) hd (hK _ _ _ _ h l ad sv D cT p e s m args below meth c C H locs la hP hS hL hV (VOKs.cons hT (VOK_lt (Nat.zero_lt_succ 99))))
theorem s_ldc2 {M : MD} {pc n index : Nat} {z : Int} (hc : Cond.constantLong M.2.2.1.cls index (Int64.ofInt z) ∈ gW) (hd : decode M.2.2.2.1 pc = .ok (.ldc2_w index, 3)) (hn : n = pc + 3) : Sound M pc (iCL z n) := by
  subst hn
  intro Q ls st μ K hK h
  intro l ad sv D cT p e s m args below meth c C H locs la hP hS hL hV hT
  obtain ⟨hx, hb, hml, hr, hlk, hown, hts, hnw, hK0, hAD, hst⟩ := id C
  exact lv_ldc2 hx hb hown (hts _ (List.mem_cons_of_mem _ hc)) hd (hK _ _ _ _ h l ad sv D cT p e s m args below meth c C H locs la hP hS hL hV (VOKs.cons hT (VOK_lt (by show (1 : Nat) < 100; omega))))
theorem s_lconst {M : MD} {pc n : Nat} {f : Fin 2} {z : Int} (hv : Int64.ofNat (f : Nat) = Int64.ofInt z) (hd : decode M.2.2.2.1 pc = .ok (.lconst f, 1)) (hn : n = pc + 1) : Sound M pc (iCL z n) := by
  subst hn
  intro Q ls st μ K hK h
  intro l ad sv D cT p e s m args below meth c C H locs la hP hS hL hV hT
  obtain ⟨hx, hb, hml, hr, hlk, hown, hts, hnw, hK0, hAD, hst⟩ := id C
  exact lv_lconst hx hb hd hv (hK _ _ _ _ h l ad sv D cT p e s m args below meth c C H locs la hP hS hL hV (VOKs.cons hT (VOK_lt (by show (1 : Nat) < 100; omega))))
def iL (j n : Nat) : PI := fun _ ls st μ K => getl ls j fun v => pI v fun z => K n ls ((0, z) :: st) μ
def iLA (j n : Nat) : PI := fun _ ls st μ K => getl ls j fun v => pR v (K n ls (v :: st) μ)
theorem s_iload_n {M : MD} {pc n j : Nat} {f : Fin 4} (hi : (f : Nat) = j) (hd : decode M.2.2.2.1 pc = .ok (.iload_n f, 1)) (hn : n = pc + 1) : Sound M pc (iL j n) := by
  subst hn
  intro Q ls st μ K hK h
  obtain ⟨v, hv, h1⟩ := getl_elim h
  obtain ⟨z, rfl, h2⟩ := pI_elim h1
  intro l ad sv D cT p e s m args below meth c C H locs la hP hS hL hV hT
  obtain ⟨hx, hb, hml, hr, hlk, hown, hts, hnw, hK0, hAD, hst⟩ := id C
  exact lv_iload_n hx hb hd hi (hL.get hv (show (0 : Nat) ≠ 9 by decide) (show (0 : Nat) ≠ 1 by decide)) (hK _ _ _ _ h2 l ad sv D cT p e s m args below meth c C H locs la hP hS hL hV (VOKs.cons hT (VOK_lt (Nat.zero_lt_succ 99))))
theorem s_iload {M : MD} {pc n j : Nat} (hd : decode M.2.2.2.1 pc = .ok (.iload j, 2)) (hn : n = pc + 2) : Sound M pc (iL j n) := by
  subst hn
  intro Q ls st μ K hK h
  obtain ⟨v, hv, h1⟩ := getl_elim h
  obtain ⟨z, rfl, h2⟩ := pI_elim h1
  intro l ad sv D cT p e s m args below meth c C H locs la hP hS hL hV hT
  obtain ⟨hx, hb, hml, hr, hlk, hown, hts, hnw, hK0, hAD, hst⟩ := id C
  exact lv_iload hx hb hd (hL.get hv (show (0 : Nat) ≠ 9 by decide) (show (0 : Nat) ≠ 1 by decide)) (hK _ _ _ _ h2 l ad sv D cT p e s m args below meth c C H locs la hP hS hL hV (VOKs.cons hT (VOK_lt (Nat.zero_lt_succ 99))))
theorem s_aload_n {M : MD} {pc n j : Nat} {f : Fin 4} (hi : (f : Nat) = j) (hd : decode M.2.2.2.1 pc = .ok (.aload_n f, 1)) (hn : n = pc + 1) : Sound M pc (iLA j n) := by
  subst hn
  intro Q ls st μ K hK h
  obtain ⟨v, hv, h1⟩ := getl_elim h
  obtain ⟨ht, h2⟩ := pR_elim h1
  intro l ad sv D cT p e s m args below meth c C H locs la hP hS hL hV hT
  obtain ⟨hx, hb, hml, hr, hlk, hown, hts, hnw, hK0, hAD, hst⟩ := id C
  have hg := hL.get hv (by omega) (by omega)
  have hvk : VOK M.1 v := hV v (List.mem_of_getElem? hv)
  have hk := hK _ _ _ _ h2 l ad sv D cT p e s m args below meth c C H locs la hP hS hL hV (VOKs.cons hT hvk)
  obtain ⟨t, z⟩ := v
  rw [cv_ref ad sv ht] at hg
  rw [List.map_cons, cv_ref ad sv ht] at hk
  exact lv_aload_n hx hb hd hi hg hk
theorem s_aload {M : MD} {pc n j : Nat} (hd : decode M.2.2.2.1 pc = .ok (.aload j, 2)) (hn : n = pc + 2) : Sound M pc (iLA j n) := by
  subst hn
  intro Q ls st μ K hK h
  obtain ⟨v, hv, h1⟩ := getl_elim h
  obtain ⟨ht, h2⟩ := pR_elim h1
  intro l ad sv D cT p e s m args below meth c C H locs la hP hS hL hV hT
  obtain ⟨hx, hb, hml, hr, hlk, hown, hts, hnw, hK0, hAD, hst⟩ := id C
  have hg := hL.get hv (by omega) (by omega)
  have hvk : VOK M.1 v := hV v (List.mem_of_getElem? hv)
  have hk := hK _ _ _ _ h2 l ad sv D cT p e s m args below meth c C H locs la hP hS hL hV (VOKs.cons hT hvk)
  obtain ⟨t, z⟩ := v
  rw [cv_ref ad sv ht] at hg
  rw [List.map_cons, cv_ref ad sv ht] at hk
  exact lv_aload hx hb hd hg hk
def iS (j n : Nat) : PI := fun _ ls st μ K => sI st fun z r => setl ls j (0, z) fun ls' => K n ls' r μ
def iSA (j n : Nat) : PI := fun _ ls st μ K => s1 st fun v r => pR v (setl ls j v fun ls' => K n ls' r μ)
theorem s_istore_n {M : MD} {pc n j : Nat} {f : Fin 4} (hi : (f : Nat) = j) (hd : decode M.2.2.2.1 pc = .ok (.istore_n f, 1)) (hn : n = pc + 1) : Sound M pc (iS j n) := by
  subst hn
  intro Q ls st μ K hK h
  obtain ⟨z, r, rfl, h1⟩ := sI_elim h
  obtain ⟨hj, h2⟩ := setl_elim h1
  intro l ad sv D cT p e s m args below meth c C H locs la hP hS hL hV hT
  obtain ⟨hx, hb, hml, hr, hlk, hown, hts, hnw, hK0, hAD, hst⟩ := id C
  exact lv_istore_n hx hb hd hi hL.lv (by rw [← hL.2.2.1]; exact hj) rfl (fun la' hl' => hK _ _ _ _ h2 l ad sv D cT p e s m args below meth c C H locs la' hP hS (hL.store (cv_int ad sv z) hl') (VOKs.set hV (VOK_lt (Nat.zero_lt_succ 99))) (VOKs.tail hT))
theorem s_istore {M : MD} {pc n j : Nat} (hd : decode M.2.2.2.1 pc = .ok (.istore j, 2)) (hn : n = pc + 2) : Sound M pc (iS j n) := by
  subst hn
  intro Q ls st μ K hK h
  obtain ⟨z, r, rfl, h1⟩ := sI_elim h
  obtain ⟨hj, h2⟩ := setl_elim h1
  intro l ad sv D cT p e s m args below meth c C H locs la hP hS hL hV hT
  obtain ⟨hx, hb, hml, hr, hlk, hown, hts, hnw, hK0, hAD, hst⟩ := id C
  exact lv_istore hx hb hd hL.lv (by rw [← hL.2.2.1]; exact hj) rfl (fun la' hl' => hK _ _ _ _ h2 l ad sv D cT p e s m args below meth c C H locs la' hP hS (hL.store (cv_int ad sv z) hl') (VOKs.set hV (VOK_lt (Nat.zero_lt_succ 99))) (VOKs.tail hT))
theorem s_astore_n {M : MD} {pc n j : Nat} {f : Fin 4} (hi : (f : Nat) = j) (hd : decode M.2.2.2.1 pc = .ok (.astore_n f, 1)) (hn : n = pc + 1) : Sound M pc (iSA j n) := by
  subst hn
  intro Q ls st μ K hK h
  obtain ⟨v, r, rfl, h1⟩ := s1_elim h
  obtain ⟨ht, h2⟩ := pR_elim h1
  obtain ⟨hj, h3⟩ := setl_elim h2
  intro l ad sv D cT p e s m args below meth c C H locs la hP hS hL hV hT
  obtain ⟨hx, hb, hml, hr, hlk, hown, hts, hnw, hK0, hAD, hst⟩ := id C
  obtain ⟨t, z⟩ := v
  rw [List.map_cons, cv_ref ad sv ht]
  exact lv_astore_n hx hb hd hi hL.lv (by rw [← hL.2.2.1]; exact hj) rfl (fun la' hl' => hK _ _ _ _ h3 l ad sv D cT p e s m args below meth c C H locs la' hP hS (hL.store (cv_ref ad sv ht z) hl') (VOKs.set hV (VOKs.head hT)) (VOKs.tail hT))
theorem s_astore {M : MD} {pc n j : Nat} (hd : decode M.2.2.2.1 pc = .ok (.astore j, 2)) (hn : n = pc + 2) : Sound M pc (iSA j n) := by
  subst hn
  intro Q ls st μ K hK h
  obtain ⟨v, r, rfl, h1⟩ := s1_elim h
  obtain ⟨ht, h2⟩ := pR_elim h1
  obtain ⟨hj, h3⟩ := setl_elim h2
  intro l ad sv D cT p e s m args below meth c C H locs la hP hS hL hV hT
  obtain ⟨hx, hb, hml, hr, hlk, hown, hts, hnw, hK0, hAD, hst⟩ := id C
  obtain ⟨t, z⟩ := v
  rw [List.map_cons, cv_ref ad sv ht]
  exact lv_astore hx hb hd hL.lv (by rw [← hL.2.2.1]; exact hj) rfl (fun la' hl' => hK _ _ _ _ h3 l ad sv D cT p e s m args below meth c C H locs la' hP hS (hL.store (cv_ref ad sv ht z) hl') (VOKs.set hV (VOKs.head hT)) (VOKs.tail hT))
def iInc (j : Nat) (k : Int) (n : Nat) : PI := fun _ ls st μ K => getl ls j fun v => pI v fun z => setl ls j (0, z + k) fun ls' => K n ls' st μ
theorem s_iinc {M : MD} {pc n j : Nat} {k : Int} (hd : decode M.2.2.2.1 pc = .ok (.iinc j k, 3)) (hn : n = pc + 3) : Sound M pc (iInc j k n) := by
  subst hn
  intro Q ls st μ K hK h
  obtain ⟨v, hv, h1⟩ := getl_elim h
  obtain ⟨z, rfl, h2⟩ := pI_elim h1
  obtain ⟨hj, h3⟩ := setl_elim h2
  intro l ad sv D cT p e s m args below meth c C H locs la hP hS hL hV hT
  obtain ⟨hx, hb, hml, hr, hlk, hown, hts, hnw, hK0, hAD, hst⟩ := id C
  obtain ⟨q, hq⟩ := List.getElem?_of_mem (lvOf_mem (ad := ad) (sv := sv) (q := (j, .int (Int32.ofInt z))) |>.mpr ⟨(0, z), hv, (show (0 : Nat) ≠ 9 by decide), (show (0 : Nat) ≠ 1 by decide), rfl⟩)
  exact lv_iinc hx hb hd hL.lv hq (Int32.ofInt_add z k).symm (by rw [← hL.2.2.1]; exact hj) rfl (fun la' hl' => hK _ _ _ _ h3 l ad sv D cT p e s m args below meth c C H locs la' hP hS (hL.store (cv_int ad sv (z + k)) hl') (VOKs.set hV (VOK_lt (Nat.zero_lt_succ 99))) hT)
def iAdd (n : Nat) : PI := fun _ ls st μ K => sII st fun a b r => K n ls ((0, a + b) :: r) μ
theorem s_iadd {M : MD} {pc n : Nat} (hd : decode M.2.2.2.1 pc = .ok (.iadd, 1)) (hn : n = pc + 1) : Sound M pc (iAdd n) := by
  subst hn
  intro Q ls st μ K hK h
  obtain ⟨a, b, r, rfl, h1⟩ := sII_elim h
  intro l ad sv D cT p e s m args below meth c C H locs la hP hS hL hV hT
  obtain ⟨hx, hb, hml, hr, hlk, hown, hts, hnw, hK0, hAD, hst⟩ := id C
  have hk := hK _ _ _ _ h1 l ad sv D cT p e s m args below meth c C H locs la hP hS hL hV (VOKs.cons (VOKs.tail (VOKs.tail hT)) (VOK_lt (Nat.zero_lt_succ 99)))
  rw [List.map_cons, cv_int, Int32.ofInt_add] at hk
  exact lv_iadd hx hb hd hk
def iSub (n : Nat) : PI := fun _ ls st μ K => sII st fun a b r => K n ls ((0, a - b) :: r) μ
theorem s_isub {M : MD} {pc n : Nat} (hd : decode M.2.2.2.1 pc = .ok (.isub, 1)) (hn : n = pc + 1) : Sound M pc (iSub n) := by
  subst hn
  intro Q ls st μ K hK h
  obtain ⟨a, b, r, rfl, h1⟩ := sII_elim h
  intro l ad sv D cT p e s m args below meth c C H locs la hP hS hL hV hT
  obtain ⟨hx, hb, hml, hr, hlk, hown, hts, hnw, hK0, hAD, hst⟩ := id C
  have hk := hK _ _ _ _ h1 l ad sv D cT p e s m args below meth c C H locs la hP hS hL hV (VOKs.cons (VOKs.tail (VOKs.tail hT)) (VOK_lt (Nat.zero_lt_succ 99)))
  rw [List.map_cons, cv_int, Int32.ofInt_sub] at hk
  exact lv_isub hx hb hd hk
def iMul (n : Nat) : PI := fun _ ls st μ K => sII st fun a b r => K n ls ((0, a * b) :: r) μ
theorem s_imul {M : MD} {pc n : Nat} (hd : decode M.2.2.2.1 pc = .ok (.imul, 1)) (hn : n = pc + 1) : Sound M pc (iMul n) := by
  subst hn
  intro Q ls st μ K hK h
  obtain ⟨a, b, r, rfl, h1⟩ := sII_elim h
  intro l ad sv D cT p e s m args below meth c C H locs la hP hS hL hV hT
  obtain ⟨hx, hb, hml, hr, hlk, hown, hts, hnw, hK0, hAD, hst⟩ := id C
  have hk := hK _ _ _ _ h1 l ad sv D cT p e s m args below meth c C H locs la hP hS hL hV (VOKs.cons (VOKs.tail (VOKs.tail hT)) (VOK_lt (Nat.zero_lt_succ 99)))
  rw [List.map_cons, cv_int, Int32.ofInt_mul] at hk
  exact lv_imul hx hb hd hk
def iNeg (n : Nat) : PI := fun _ ls st μ K => sI st fun a r => K n ls ((0, -a) :: r) μ
theorem s_ineg {M : MD} {pc n : Nat} (hd : decode M.2.2.2.1 pc = .ok (.ineg, 1)) (hn : n = pc + 1) : Sound M pc (iNeg n) := by
  subst hn
  intro Q ls st μ K hK h
  obtain ⟨a, r, rfl, h1⟩ := sI_elim h
  intro l ad sv D cT p e s m args below meth c C H locs la hP hS hL hV hT
  obtain ⟨hx, hb, hml, hr, hlk, hown, hts, hnw, hK0, hAD, hst⟩ := id C
  have hk := hK _ _ _ _ h1 l ad sv D cT p e s m args below meth c C H locs la hP hS hL hV (VOKs.cons (VOKs.tail hT) (VOK_lt (Nat.zero_lt_succ 99)))
  rw [List.map_cons, cv_int, Int32.ofInt_neg] at hk
  exact lv_ineg hx hb hd hk
def iDiv (n : Nat) : PI := fun _ ls st μ K => sII st fun a b r => (0 ≤ a ∧ a ≤ 2147483647 ∧ 0 < b ∧ b ≤ 2147483647) ∧ K n ls ((0, a / b) :: r) μ
theorem s_idiv {M : MD} {pc n : Nat} (hd : decode M.2.2.2.1 pc = .ok (.idiv, 1)) (hn : n = pc + 1) : Sound M pc (iDiv n) := by
  subst hn
  intro Q ls st μ K hK h
  obtain ⟨a, b, r, rfl, ⟨h0, h1, h2, h3⟩, h4⟩ := sII_elim h
  intro l ad sv D cT p e s m args below meth c C H locs la hP hS hL hV hT
  obtain ⟨hx, hb, hml, hr, hlk, hown, hts, hnw, hK0, hAD, hst⟩ := id C
  have hk := hK _ _ _ _ h4 l ad sv D cT p e s m args below meth c C H locs la hP hS hL hV (VOKs.cons (VOKs.tail (VOKs.tail hT)) (VOK_lt (Nat.zero_lt_succ 99)))
  have e : Int32.ofInt (a / b) = Int32.ofInt a / Int32.ofInt b := by
    rw [← Int.tdiv_eq_ediv_of_nonneg h0]
    exact Int32.ofInt_tdiv (by rw [Int32.toInt_minValue]; omega) (by rw [Int32.toInt_maxValue]; omega) (by rw [Int32.toInt_minValue]; omega) (by rw [Int32.toInt_maxValue]; omega)
  rw [List.map_cons, cv_int, e] at hk
  exact lv_idiv hx hb hd (by rw [i32_0, i32_eq (by omega) (by omega)]; omega) hk
def iRem (n : Nat) : PI := fun _ ls st μ K => sII st fun a b r => (0 ≤ a ∧ a ≤ 2147483647 ∧ 0 < b ∧ b ≤ 2147483647) ∧ K n ls ((0, a % b) :: r) μ
def iAnd (n : Nat) : PI := fun _ ls st μ K => sII st fun a b r => (0 ≤ a ∧ a ≤ 2147483647) ∧ (b = 3 ∨ b = 7 ∨ b = 31) ∧ K n ls ((0, a % (b + 1)) :: r) μ
theorem i32_and {a : Int} (k : Nat) (hk : k = 2 ∨ k = 3 ∨ k = 5) (h0 : 0 ≤ a) (h1 : a ≤ 2147483647) : Int32.ofInt a &&& Int32.ofInt (2 ^ k - 1) = Int32.ofInt (a % 2 ^ k) := by
  obtain ⟨n, rfl⟩ := Int.eq_ofNat_of_zero_le h0
  have hm : (Int32.ofInt (2 ^ k - 1)).toBitVec.toNat = 2 ^ k - 1 := by
    rcases hk with rfl | rfl | rfl <;> rfl
  rw [pk_and _ k hm]
  have e1 : (Int32.ofInt (n : Int)).toBitVec.toNat = n := by
    rw [Int32.ofInt_eq_ofNat]
    exact pk_tn (by omega)
  rw [e1]
  show Int32.ofNat (n % 2 ^ k) = _
  rw [← Int32.ofInt_eq_ofNat]
  congr 1
theorem s_iand {M : MD} {pc n : Nat} (hd : decode M.2.2.2.1 pc = .ok (.iand, 1)) (hn : n = pc + 1) : Sound M pc (iAnd n) := by
  subst hn
  intro Q ls st μ K hK h
  obtain ⟨a, b, r, rfl, ⟨h0, h1⟩, h2, h4⟩ := sII_elim h
  intro l ad sv D cT p e s m args below meth c C H locs la hP hS hL hV hT
  obtain ⟨hx, hb, hml, hr, hlk, hown, hts, hnw, hK0, hAD, hst⟩ := id C
  have hk := hK _ _ _ _ h4 l ad sv D cT p e s m args below meth c C H locs la hP hS hL hV (VOKs.cons (VOKs.tail (VOKs.tail hT)) (VOK_lt (Nat.zero_lt_succ 99)))
  have e : Int32.ofInt (a % (b + 1)) = Int32.ofInt a &&& Int32.ofInt b := by
    rcases h2 with rfl | rfl | rfl
    · exact (i32_and 2 (Or.inl rfl) h0 h1).symm
    · exact (i32_and 3 (Or.inr (Or.inl rfl)) h0 h1).symm
    · exact (i32_and 5 (Or.inr (Or.inr rfl)) h0 h1).symm
  rw [List.map_cons, cv_int, e] at hk
  exact lv_iand hx hb hd hk
def iI2L (n : Nat) : PI := fun _ ls st μ K => sI st fun a r => (-2147483648 ≤ a ∧ a ≤ 2147483647) ∧ K n ls ((1, a) :: r) μ
theorem s_i2l {M : MD} {pc n : Nat} (hd : decode M.2.2.2.1 pc = .ok (.i2l, 1)) (hn : n = pc + 1) : Sound M pc (iI2L n) := by
  subst hn
  intro Q ls st μ K hK h
  obtain ⟨a, r, rfl, ⟨h0, h1⟩, h2⟩ := sI_elim h
  intro l ad sv D cT p e s m args below meth c C H locs la hP hS hL hV hT
  obtain ⟨hx, hb, hml, hr, hlk, hown, hts, hnw, hK0, hAD, hst⟩ := id C
  exact lv_i2l hx hb hd (Int32.toInt64_ofInt (by rw [Int32.toInt_minValue]; omega) (by rw [Int32.toInt_maxValue]; omega)) (hK _ _ _ _ h2 l ad sv D cT p e s m args below meth c C H locs la hP hS hL hV (VOKs.cons (VOKs.tail hT) (VOK_lt (by show (1 : Nat) < 100; omega))))
def iLAdd (n : Nat) : PI := fun _ ls st μ K => s1 st fun v r => pT 1 v fun b => s1 r fun v r => pT 1 v fun a => K n ls ((1, a + b) :: r) μ
theorem s_ladd {M : MD} {pc n : Nat} (hd : decode M.2.2.2.1 pc = .ok (.ladd, 1)) (hn : n = pc + 1) : Sound M pc (iLAdd n) := by
  subst hn
  intro Q ls st μ K hK h
  obtain ⟨v, r, rfl, h1⟩ := s1_elim h
  obtain ⟨b, rfl, h2⟩ := pT_elim h1
  obtain ⟨v, r2, rfl, h3⟩ := s1_elim h2
  obtain ⟨a, rfl, h4⟩ := pT_elim h3
  intro l ad sv D cT p e s m args below meth c C H locs la hP hS hL hV hT
  obtain ⟨hx, hb, hml, hr, hlk, hown, hts, hnw, hK0, hAD, hst⟩ := id C
  have hk := hK _ _ _ _ h4 l ad sv D cT p e s m args below meth c C H locs la hP hS hL hV (VOKs.cons (VOKs.tail (VOKs.tail hT)) (VOK_lt (by show (1 : Nat) < 100; omega)))
  rw [List.map_cons, cv_long, Int64.ofInt_add] at hk
  exact lv_ladd hx hb hd hk
def iDup (n : Nat) : PI := fun _ ls st μ K => s1 st fun v r => match Nat.beq v.1 1 with | true => False | false => K n ls (v :: v :: r) μ
theorem s_dup {M : MD} {pc n : Nat} (hd : decode M.2.2.2.1 pc = .ok (.dup, 1)) (hn : n = pc + 1) : Sound M pc (iDup n) := by
  subst hn
  intro Q ls st μ K hK h
  obtain ⟨v, r, rfl, h1⟩ := s1_elim h
  intro l ad sv D cT p e s m args below meth c C H locs la hP hS hL hV hT
  obtain ⟨hx, hb, hml, hr, hlk, hown, hts, hnw, hK0, hAD, hst⟩ := id C
  cases hb1 : Nat.beq v.1 1 with
  | true => rw [hb1] at h1; exact h1.elim
  | false =>
    rw [hb1] at h1
    exact lv_dup hx hb hd (cv_cat (Nat.ne_of_beq_eq_false hb1)) (hK _ _ _ _ h1 l ad sv D cT p e s m args below meth c C H locs la hP hS hL hV (VOKs.cons hT (VOKs.head hT)))
def iDup2 (n : Nat) : PI := fun _ ls st μ K => s1 st fun v r => s1 r fun u r => match Nat.beq v.1 1, Nat.beq u.1 1 with | false, false => K n ls (v :: u :: v :: u :: r) μ | _, _ => False
theorem s_dup2 {M : MD} {pc n : Nat} (hd : decode M.2.2.2.1 pc = .ok (.dup2, 1)) (hn : n = pc + 1) : Sound M pc (iDup2 n) := by
  subst hn
  intro Q ls st μ K hK h
  obtain ⟨v, r, rfl, h1⟩ := s1_elim h
  obtain ⟨u, r2, rfl, h2⟩ := s1_elim h1
  intro l ad sv D cT p e s m args below meth c C H locs la hP hS hL hV hT
  obtain ⟨hx, hb, hml, hr, hlk, hown, hts, hnw, hK0, hAD, hst⟩ := id C
  cases hb1 : Nat.beq v.1 1 with
  | true => rw [hb1] at h2; exact h2.elim
  | false =>
    cases hb2 : Nat.beq u.1 1 with
    | true => rw [hb1, hb2] at h2; exact h2.elim
    | false =>
      rw [hb1, hb2] at h2
      exact lv_dup2_11 hx hb hd (cv_cat (Nat.ne_of_beq_eq_false hb1)) (cv_cat (Nat.ne_of_beq_eq_false hb2)) (hK _ _ _ _ h2 l ad sv D cT p e s m args below meth c C H locs la hP hS hL hV (VOKs.cons (VOKs.cons hT (VOKs.head (VOKs.tail hT))) (VOKs.head hT)))
def iGoto (t : Nat) : PI := fun _ ls st μ K => K t ls st μ
theorem s_goto {M : MD} {pc t : Nat} {off : Int} (ht : (pc : Int) + off = (t : Int)) (hd : decode M.2.2.2.1 pc = .ok (.goto off, 3)) : Sound M pc (iGoto t) := by
  intro Q ls st μ K hK h
  intro l ad sv D cT p e s m args below meth c C H locs la hP hS hL hV hT
  obtain ⟨hx, hb, hml, hr, hlk, hown, hts, hnw, hK0, hAD, hst⟩ := id C
  exact lv_goto hx hb hd ht (hK _ _ _ _ h l ad sv D cT p e s m args below meth c C H locs la hP hS hL hV hT)
def iCmp (ρ : Int → Int → Prop) (t n : Nat) : PI := fun _ ls st μ K => sII st fun a b r => (-2147483648 ≤ a ∧ a ≤ 2147483647) ∧ (-2147483648 ≤ b ∧ b ≤ 2147483647) ∧ (ρ a b → K t ls r μ) ∧ (¬ ρ a b → K n ls r μ)
def iIf (ρ : Int → Prop) (t n : Nat) : PI := fun _ ls st μ K => sI st fun a r => (-2147483648 ≤ a ∧ a ≤ 2147483647) ∧ (ρ a → K t ls r μ) ∧ (¬ ρ a → K n ls r μ)
theorem s_icmp_lt {M : MD} {pc t n : Nat} {off : Int} (ht : (pc : Int) + off = (t : Int)) (hd : decode M.2.2.2.1 pc = .ok (.if_icmp .lt off, 3)) (hn : n = pc + 3) : Sound M pc (iCmp (fun a b => a < b) t n) := by
  subst hn
  intro Q ls st μ K hK h
  obtain ⟨a, b, r, rfl, ha, hb0, h1, h2⟩ := sII_elim h
  intro l ad sv D cT p e s m args below meth c C H locs la hP hS hL hV hT
  obtain ⟨hx, hb, hml, hr, hlk, hown, hts, hnw, hK0, hAD, hst⟩ := id C
  have hz := (i32_lt ha hb0)
  exact lv_icmp_lt hx hb hd ht (fun q => hK _ _ _ _ (h1 (hz.mp q)) l ad sv D cT p e s m args below meth c C H locs la hP hS hL hV (VOKs.tail (VOKs.tail hT))) (fun q => hK _ _ _ _ (h2 (fun u => q (hz.mpr u))) l ad sv D cT p e s m args below meth c C H locs la hP hS hL hV (VOKs.tail (VOKs.tail hT)))
theorem s_icmp_le {M : MD} {pc t n : Nat} {off : Int} (ht : (pc : Int) + off = (t : Int)) (hd : decode M.2.2.2.1 pc = .ok (.if_icmp .le off, 3)) (hn : n = pc + 3) : Sound M pc (iCmp (fun a b => a ≤ b) t n) := by
  subst hn
  intro Q ls st μ K hK h
  obtain ⟨a, b, r, rfl, ha, hb0, h1, h2⟩ := sII_elim h
  intro l ad sv D cT p e s m args below meth c C H locs la hP hS hL hV hT
  obtain ⟨hx, hb, hml, hr, hlk, hown, hts, hnw, hK0, hAD, hst⟩ := id C
  have hz := (i32_le ha hb0)
  exact lv_icmp_le hx hb hd ht (fun q => hK _ _ _ _ (h1 (hz.mp q)) l ad sv D cT p e s m args below meth c C H locs la hP hS hL hV (VOKs.tail (VOKs.tail hT))) (fun q => hK _ _ _ _ (h2 (fun u => q (hz.mpr u))) l ad sv D cT p e s m args below meth c C H locs la hP hS hL hV (VOKs.tail (VOKs.tail hT)))
theorem s_icmp_gt {M : MD} {pc t n : Nat} {off : Int} (ht : (pc : Int) + off = (t : Int)) (hd : decode M.2.2.2.1 pc = .ok (.if_icmp .gt off, 3)) (hn : n = pc + 3) : Sound M pc (iCmp (fun a b => b < a) t n) := by
  subst hn
  intro Q ls st μ K hK h
  obtain ⟨a, b, r, rfl, ha, hb0, h1, h2⟩ := sII_elim h
  intro l ad sv D cT p e s m args below meth c C H locs la hP hS hL hV hT
  obtain ⟨hx, hb, hml, hr, hlk, hown, hts, hnw, hK0, hAD, hst⟩ := id C
  have hz := (i32_lt hb0 ha)
  exact lv_icmp_gt hx hb hd ht (fun q => hK _ _ _ _ (h1 (hz.mp q)) l ad sv D cT p e s m args below meth c C H locs la hP hS hL hV (VOKs.tail (VOKs.tail hT))) (fun q => hK _ _ _ _ (h2 (fun u => q (hz.mpr u))) l ad sv D cT p e s m args below meth c C H locs la hP hS hL hV (VOKs.tail (VOKs.tail hT)))
theorem s_icmp_ge {M : MD} {pc t n : Nat} {off : Int} (ht : (pc : Int) + off = (t : Int)) (hd : decode M.2.2.2.1 pc = .ok (.if_icmp .ge off, 3)) (hn : n = pc + 3) : Sound M pc (iCmp (fun a b => b ≤ a) t n) := by
  subst hn
  intro Q ls st μ K hK h
  obtain ⟨a, b, r, rfl, ha, hb0, h1, h2⟩ := sII_elim h
  intro l ad sv D cT p e s m args below meth c C H locs la hP hS hL hV hT
  obtain ⟨hx, hb, hml, hr, hlk, hown, hts, hnw, hK0, hAD, hst⟩ := id C
  have hz := (i32_le hb0 ha)
  exact lv_icmp_ge hx hb hd ht (fun q => hK _ _ _ _ (h1 (hz.mp q)) l ad sv D cT p e s m args below meth c C H locs la hP hS hL hV (VOKs.tail (VOKs.tail hT))) (fun q => hK _ _ _ _ (h2 (fun u => q (hz.mpr u))) l ad sv D cT p e s m args below meth c C H locs la hP hS hL hV (VOKs.tail (VOKs.tail hT)))
theorem s_icmp_eq {M : MD} {pc t n : Nat} {off : Int} (ht : (pc : Int) + off = (t : Int)) (hd : decode M.2.2.2.1 pc = .ok (.if_icmp .eq off, 3)) (hn : n = pc + 3) : Sound M pc (iCmp (fun a b => a = b) t n) := by
  subst hn
  intro Q ls st μ K hK h
  obtain ⟨a, b, r, rfl, ha, hb0, h1, h2⟩ := sII_elim h
  intro l ad sv D cT p e s m args below meth c C H locs la hP hS hL hV hT
  obtain ⟨hx, hb, hml, hr, hlk, hown, hts, hnw, hK0, hAD, hst⟩ := id C
  have hz := (i32_eq ha hb0)
  exact lv_icmp_eq hx hb hd ht (fun q => hK _ _ _ _ (h1 (hz.mp q)) l ad sv D cT p e s m args below meth c C H locs la hP hS hL hV (VOKs.tail (VOKs.tail hT))) (fun q => hK _ _ _ _ (h2 (fun u => q (hz.mpr u))) l ad sv D cT p e s m args below meth c C H locs la hP hS hL hV (VOKs.tail (VOKs.tail hT)))
theorem s_icmp_ne {M : MD} {pc t n : Nat} {off : Int} (ht : (pc : Int) + off = (t : Int)) (hd : decode M.2.2.2.1 pc = .ok (.if_icmp .ne off, 3)) (hn : n = pc + 3) : Sound M pc (iCmp (fun a b => ¬ a = b) t n) := by
  subst hn
  intro Q ls st μ K hK h
  obtain ⟨a, b, r, rfl, ha, hb0, h1, h2⟩ := sII_elim h
  intro l ad sv D cT p e s m args below meth c C H locs la hP hS hL hV hT
  obtain ⟨hx, hb, hml, hr, hlk, hown, hts, hnw, hK0, hAD, hst⟩ := id C
  have hz := (not_congr (i32_eq ha hb0))
  exact lv_icmp_ne hx hb hd ht (fun q => hK _ _ _ _ (h1 (hz.mp q)) l ad sv D cT p e s m args below meth c C H locs la hP hS hL hV (VOKs.tail (VOKs.tail hT))) (fun q => hK _ _ _ _ (h2 (fun u => hz.mpr u q)) l ad sv D cT p e s m args below meth c C H locs la hP hS hL hV (VOKs.tail (VOKs.tail hT)))
theorem s_if_lt {M : MD} {pc t n : Nat} {off : Int} (ht : (pc : Int) + off = (t : Int)) (hd : decode M.2.2.2.1 pc = .ok (.ifCond .lt off, 3)) (hn : n = pc + 3) : Sound M pc (iIf (fun a => a < 0) t n) := by
  subst hn
  intro Q ls st μ K hK h
  obtain ⟨a, r, rfl, ha, h1, h2⟩ := sI_elim h
  intro l ad sv D cT p e s m args below meth c C H locs la hP hS hL hV hT
  obtain ⟨hx, hb, hml, hr, hlk, hown, hts, hnw, hK0, hAD, hst⟩ := id C
  have z0 : -2147483648 ≤ (0 : Int) ∧ (0 : Int) ≤ 2147483647 := by omega
  have hz := i32_lt ha z0
  rw [← i32_0] at hz
  exact lv_if_lt hx hb hd ht (fun q => hK _ _ _ _ (h1 (hz.mp q)) l ad sv D cT p e s m args below meth c C H locs la hP hS hL hV (VOKs.tail hT)) (fun q => hK _ _ _ _ (h2 (fun u => q (hz.mpr u))) l ad sv D cT p e s m args below meth c C H locs la hP hS hL hV (VOKs.tail hT))
theorem s_if_le {M : MD} {pc t n : Nat} {off : Int} (ht : (pc : Int) + off = (t : Int)) (hd : decode M.2.2.2.1 pc = .ok (.ifCond .le off, 3)) (hn : n = pc + 3) : Sound M pc (iIf (fun a => a ≤ 0) t n) := by
  subst hn
  intro Q ls st μ K hK h
  obtain ⟨a, r, rfl, ha, h1, h2⟩ := sI_elim h
  intro l ad sv D cT p e s m args below meth c C H locs la hP hS hL hV hT
  obtain ⟨hx, hb, hml, hr, hlk, hown, hts, hnw, hK0, hAD, hst⟩ := id C
  have z0 : -2147483648 ≤ (0 : Int) ∧ (0 : Int) ≤ 2147483647 := by omega
  have hz := i32_le ha z0
  rw [← i32_0] at hz
  exact lv_if_le hx hb hd ht (fun q => hK _ _ _ _ (h1 (hz.mp q)) l ad sv D cT p e s m args below meth c C H locs la hP hS hL hV (VOKs.tail hT)) (fun q => hK _ _ _ _ (h2 (fun u => q (hz.mpr u))) l ad sv D cT p e s m args below meth c C H locs la hP hS hL hV (VOKs.tail hT))
theorem s_if_gt {M : MD} {pc t n : Nat} {off : Int} (ht : (pc : Int) + off = (t : Int)) (hd : decode M.2.2.2.1 pc = .ok (.ifCond .gt off, 3)) (hn : n = pc + 3) : Sound M pc (iIf (fun a => 0 < a) t n) := by
  subst hn
  intro Q ls st μ K hK h
  obtain ⟨a, r, rfl, ha, h1, h2⟩ := sI_elim h
  intro l ad sv D cT p e s m args below meth c C H locs la hP hS hL hV hT
  obtain ⟨hx, hb, hml, hr, hlk, hown, hts, hnw, hK0, hAD, hst⟩ := id C
  have z0 : -2147483648 ≤ (0 : Int) ∧ (0 : Int) ≤ 2147483647 := by omega
  have hz := i32_lt z0 ha
  rw [← i32_0] at hz
  exact lv_if_gt hx hb hd ht (fun q => hK _ _ _ _ (h1 (hz.mp q)) l ad sv D cT p e s m args below meth c C H locs la hP hS hL hV (VOKs.tail hT)) (fun q => hK _ _ _ _ (h2 (fun u => q (hz.mpr u))) l ad sv D cT p e s m args below meth c C H locs la hP hS hL hV (VOKs.tail hT))
theorem s_if_ge {M : MD} {pc t n : Nat} {off : Int} (ht : (pc : Int) + off = (t : Int)) (hd : decode M.2.2.2.1 pc = .ok (.ifCond .ge off, 3)) (hn : n = pc + 3) : Sound M pc (iIf (fun a => 0 ≤ a) t n) := by
  subst hn
  intro Q ls st μ K hK h
  obtain ⟨a, r, rfl, ha, h1, h2⟩ := sI_elim h
  intro l ad sv D cT p e s m args below meth c C H locs la hP hS hL hV hT
  obtain ⟨hx, hb, hml, hr, hlk, hown, hts, hnw, hK0, hAD, hst⟩ := id C
  have z0 : -2147483648 ≤ (0 : Int) ∧ (0 : Int) ≤ 2147483647 := by omega
  have hz := i32_le z0 ha
  rw [← i32_0] at hz
  exact lv_if_ge hx hb hd ht (fun q => hK _ _ _ _ (h1 (hz.mp q)) l ad sv D cT p e s m args below meth c C H locs la hP hS hL hV (VOKs.tail hT)) (fun q => hK _ _ _ _ (h2 (fun u => q (hz.mpr u))) l ad sv D cT p e s m args below meth c C H locs la hP hS hL hV (VOKs.tail hT))
theorem s_if_eq {M : MD} {pc t n : Nat} {off : Int} (ht : (pc : Int) + off = (t : Int)) (hd : decode M.2.2.2.1 pc = .ok (.ifCond .eq off, 3)) (hn : n = pc + 3) : Sound M pc (iIf (fun a => a = 0) t n) := by
  subst hn
  intro Q ls st μ K hK h
  obtain ⟨a, r, rfl, ha, h1, h2⟩ := sI_elim h
  intro l ad sv D cT p e s m args below meth c C H locs la hP hS hL hV hT
  obtain ⟨hx, hb, hml, hr, hlk, hown, hts, hnw, hK0, hAD, hst⟩ := id C
  have z0 : -2147483648 ≤ (0 : Int) ∧ (0 : Int) ≤ 2147483647 := by omega
  have hz := i32_eq ha z0
  rw [← i32_0] at hz
  exact lv_if_eq hx hb hd ht (fun q => hK _ _ _ _ (h1 (hz.mp q)) l ad sv D cT p e s m args below meth c C H locs la hP hS hL hV (VOKs.tail hT)) (fun q => hK _ _ _ _ (h2 (fun u => q (hz.mpr u))) l ad sv D cT p e s m args below meth c C H locs la hP hS hL hV (VOKs.tail hT))
theorem s_if_ne {M : MD} {pc t n : Nat} {off : Int} (ht : (pc : Int) + off = (t : Int)) (hd : decode M.2.2.2.1 pc = .ok (.ifCond .ne off, 3)) (hn : n = pc + 3) : Sound M pc (iIf (fun a => ¬ a = 0) t n) := by
  subst hn
  intro Q ls st μ K hK h
  obtain ⟨a, r, rfl, ha, h1, h2⟩ := sI_elim h
  intro l ad sv D cT p e s m args below meth c C H locs la hP hS hL hV hT
  obtain ⟨hx, hb, hml, hr, hlk, hown, hts, hnw, hK0, hAD, hst⟩ := id C
  have z0 : -2147483648 ≤ (0 : Int) ∧ (0 : Int) ≤ 2147483647 := by omega
  have hz := not_congr (i32_eq ha z0)
  rw [← i32_0] at hz
  exact lv_if_ne hx hb hd ht (fun q => hK _ _ _ _ (h1 (hz.mp q)) l ad sv D cT p e s m args below meth c C H locs la hP hS hL hV (VOKs.tail hT)) (fun q => hK _ _ _ _ (h2 (fun u => hz.mpr u q)) l ad sv D cT p e s m args below meth c C H locs la hP hS hL hV (VOKs.tail hT))
/-- a switch: key by key -/
def swK (a : Int) (d : Nat) (k : Nat → Prop) : List (Int × Nat) → Prop
  | [] => k d
  | (x, t) :: cs => (a = x → k t) ∧ (¬ a = x → swK a d k cs)
def iSw (cs : List (Int × Nat)) (d : Nat) : PI := fun _ ls st μ K => sI st fun a r => (-2147483648 ≤ a ∧ a ≤ 2147483647) ∧ swK a d (fun t => K t ls r μ) cs
/-- which key: the first, or none -/
theorem swK_elim {a : Int} {d : Nat} {k : Nat → Prop} : ∀ {cs : List (Int × Nat)}, swK a d k cs → (∃ (i t : Nat), cs[i]? = some (a, t) ∧ (∀ (j : Nat) (y : Int × Nat), j < i → cs[j]? = some y → ¬ a = y.1) ∧ k t) ∨ ((∀ q ∈ cs, ¬ a = q.1) ∧ k d)
  | [], h => Or.inr ⟨fun q hq => (by cases hq), h⟩
  | (x, t) :: cs, h => by
    by_cases hx : a = x
    · subst hx
      exact Or.inl ⟨0, t, rfl, fun j y hj => absurd hj (Nat.not_lt_zero _), h.1 rfl⟩
    · rcases swK_elim (h.2 hx) with ⟨i, t', h1, h2, h3⟩ | ⟨h1, h2⟩
      · refine Or.inl ⟨i + 1, t', by rw [List.getElem?_cons_succ]; exact h1, fun j y hj hy => ?_, h3⟩
        cases j with
        | zero => cases hy; exact hx
        | succ j => rw [List.getElem?_cons_succ] at hy; exact h2 j y (Nat.lt_of_succ_lt_succ hj) hy
      · refine Or.inr ⟨fun q hq => ?_, h2⟩
        rcases List.mem_cons.mp hq with rfl | hq
        · exact hx
        · exact h1 q hq
/-- a table switch's rows: keys from lo on, targets by the offsets -/
def swT (pc : Nat) : Int → List Int → List (Int × Nat) → Prop
  | _, [], cs => cs = []
  | k, o :: os, cs => ∃ t r, cs = (k, t) :: r ∧ (pc : Int) + o = (t : Int) ∧ swT pc (k + 1) os r
def swTb (pc : Nat) : Int → List Int → List (Int × Nat) → Bool
  | _, [], [] => true
  | k, o :: os, (x, t) :: r => decide (x = k) && decide ((pc : Int) + o = (t : Int)) && swTb pc (k + 1) os r
  | _, _, _ => false
theorem swTb_get {pc : Nat} : ∀ {os : List Int} {lo : Int} {cs : List (Int × Nat)}, swTb pc lo os cs = true → cs.length = os.length ∧ ∀ (i : Nat) (q : Int × Nat), cs[i]? = some q → q.1 = lo + i ∧ ∃ o : Int, os[i]? = some o ∧ (pc : Int) + o = (q.2 : Int)
  | [], lo, [], _ => ⟨rfl, fun i q h => by simp at h⟩
  | [], lo, _ :: _, h => by simp [swTb] at h
  | o :: os, lo, [], h => by simp [swTb] at h
  | o :: os, lo, (x, t) :: r, h => by
    simp only [swTb, Bool.and_eq_true, decide_eq_true_eq] at h
    obtain ⟨h1, h2⟩ := swTb_get (os := os) h.2
    refine ⟨by simp [h1], fun i q hq => ?_⟩
    cases i with
    | zero =>
      cases hq
      exact ⟨by rw [h.1.1]; simp, o, rfl, h.1.2⟩
    | succ i =>
      rw [List.getElem?_cons_succ] at hq
      obtain ⟨h3, o', h4, h5⟩ := h2 i q hq
      exact ⟨by rw [h3]; push_cast; omega, o', by rw [List.getElem?_cons_succ]; exact h4, h5⟩
theorem s_table {M : MD} {pc t : Nat} {dflt lo hi : Int} {offs : Array Int} {len : Nat} {cs : List (Int × Nat)} (hd : decode M.2.2.2.1 pc = .ok (.tableswitch dflt lo hi offs, len)) (hc : swTb pc lo offs.toList cs = true) (hhi : hi = lo + (offs.toList.length : Int) - 1) (ht : (pc : Int) + dflt = (t : Int)) : Sound M pc (iSw cs t) := by
  intro Q ls st μ K hK h
  obtain ⟨a, r, rfl, ha, h1⟩ := sI_elim h
  intro l ad sv D cT p e s m args below meth c C H locs la hP hS hL hV hT
  obtain ⟨hx, hb, hml, hr, hlk, hown, hts, hnw, hK0, hAD, hst⟩ := id C
  obtain ⟨hlen, hget⟩ := swTb_get hc
  have hai := i32_toInt ha.1 ha.2
  rcases swK_elim h1 with ⟨i, t', h2, -, h3⟩ | ⟨h2, h3⟩
  · obtain ⟨h4, o, h5, h6⟩ := hget i _ h2
    have hil : i < offs.toList.length := (List.getElem?_eq_some_iff.mp h5).1
    dsimp only at h4 h6
    refine lv_tableIn hx hb hd (by rw [hai]; omega) (by rw [hai]; omega) (off := o) (by rw [hai, h4, show (lo + (i : Int) - lo).toNat = i by omega, ← Array.getElem?_toList]; exact h5) h6 (hK _ _ _ _ h3 l ad sv D cT p e s m args below meth c C H locs la hP hS hL hV (VOKs.tail hT))
  · refine lv_tableOut hx hb hd ?_ ht (hK _ _ _ _ h3 l ad sv D cT p e s m args below meth c C H locs la hP hS hL hV (VOKs.tail hT))
    rw [hai]
    rcases Int.lt_or_le a lo with q | q
    · exact Or.inl q
    · refine Or.inr ?_
      rcases Int.lt_or_le hi a with q2 | q2
      · exact q2
      · exfalso
        have hi2 : (a - lo).toNat < cs.length := by omega
        obtain ⟨h4, -⟩ := hget (a - lo).toNat cs[(a - lo).toNat] (List.getElem?_eq_getElem hi2)
        exact h2 _ (List.getElem_mem hi2) (by rw [h4]; omega)
def swLb (pc : Nat) : List (Int × Int) → List (Int × Nat) → Bool
  | [], [] => true
  | (k, o) :: os, (x, t) :: r => decide (x = k) && decide ((pc : Int) + o = (t : Int)) && swLb pc os r
  | _, _ => false
theorem swLb_sem {pc t : Nat} {a dflt : Int} {k : Nat → Prop} (ht : (pc : Int) + dflt = (t : Int)) : ∀ {os : List (Int × Int)} {cs : List (Int × Nat)}, swLb pc os cs = true → swK a t k cs → ∃ tg : Nat, (pc : Int) + Op.lookupswitch.offset os dflt a = (tg : Int) ∧ k tg
  | [], [], _, h => ⟨t, by rw [show Op.lookupswitch.offset [] dflt a = dflt from rfl]; exact ht, h⟩
  | [], _ :: _, h, _ => by simp [swLb] at h
  | _ :: _, [], h, _ => by simp [swLb] at h
  | (k', o) :: os, (x, t') :: r, h, hk => by
    simp only [swLb, Bool.and_eq_true, decide_eq_true_eq] at h
    rw [Op.lookupswitch.offset_cons]
    by_cases hx : a = k'
    · rw [if_pos hx.symm]
      exact ⟨t', h.1.2, hk.1 (by rw [h.1.1]; exact hx)⟩
    · rw [if_neg (fun e => hx e.symm)]
      exact swLb_sem ht h.2 (hk.2 (by rw [h.1.1]; exact hx))
theorem s_lookup {M : MD} {pc t : Nat} {dflt : Int} {ps : Array (Int × Int)} {len : Nat} {cs : List (Int × Nat)} (hd : decode M.2.2.2.1 pc = .ok (.lookupswitch dflt ps, len)) (hc : swLb pc ps.toList cs = true) (hp : (ps.toList.zip (ps.toList.drop 1)).all (fun (a, next) => a.1 < next.1) = true) (ht : (pc : Int) + dflt = (t : Int)) : Sound M pc (iSw cs t) := by
  intro Q ls st μ K hK h
  obtain ⟨a, r, rfl, ha, h1⟩ := sI_elim h
  intro l ad sv D cT p e s m args below meth c C H locs la hP hS hL hV hT
  obtain ⟨hx, hb, hml, hr, hlk, hown, hts, hnw, hK0, hAD, hst⟩ := id C
  have hai := i32_toInt ha.1 ha.2
  obtain ⟨tg, h2, h3⟩ := swLb_sem ht hc h1
  exact lv_lookup hx hb hd hp (by rw [hai]) h2 (hK _ _ _ _ h3 l ad sv D cT p e s m args below meth c C H locs la hP hS hL hV (VOKs.tail hT))
