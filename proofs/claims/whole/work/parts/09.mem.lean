/-! MEMORY, CALLS, RETURNS -/
def CLS (ci : Nat) (C : String) (T : u_T) (N : Nat) (ty0 : Nat → FieldType) : Prop := vwCl[ci]? = some (C, T, N) ∧ (∀ q ∈ u_ws C T N, q ∈ gW) ∧ (∀ k, k < N → parseFieldDescriptor (T k).2.2.1 = some (ty0 k)) ∧ (∀ a, a < N → ∀ b, b < N → a ≠ b → (T a).2.1 ≠ (T b).2.1) ∧ ci < 10
def FL (own : String) (index : Nat) (C f d : String) : Prop := Cond.fieldLink own index C f d ∈ gW ∨ ∃ host, Cond.fieldLinkNest own index C f d host ∈ nWs
theorem lay_le (w k : Nat) : lay w k ≤ 6200 := by
  have hS : ∀ h, layS h ≤ 6200 := by intro h; unfold layS; split <;> omega
  have hH : ∀ h, layH h ≤ 6200 := by
    intro h; unfold layH
    split
    · omega
    · omega
    · omega
    · exact hS _
  unfold lay
  split
  · unfold layX
    split
    · omega
    · omega
    · omega
    · split
      · exact hH _
      · split
        · omega
        · exact hH _
  · unfold layM; split <;> omega
def iGI (t : Nat) (j : Int) (n : Nat) : PI := fun _ ls st μ K => s1 st fun v r => pT t v fun c => ∀ x, x = μ c j → K n ls ((0, x) :: r) μ
def iGR (t t' : Nat) (off : Int) (n : Nat) : PI := fun _ ls st μ K => s1 st fun v r => pT t v fun c => K n ls ((t', c + off) :: r) μ
def iPI (t : Nat) (j : Int) (n : Nat) : PI := fun _ ls st μ K => sI st fun x r => s1 r fun v r => pT t v fun c => ∀ μ', μ' = upm μ c j x → K n ls r μ'
def iPZ (t : Nat) (j : Int) (n : Nat) : PI := fun _ ls st μ K => sI st fun x r => s1 r fun v r => pT t v fun c => (x = 0 ∨ x = 1) ∧ ∀ μ', μ' = upm μ c j x → K n ls r μ'
def pA (v : PV) (k : Int → Int → Prop) : Prop := match Nat.ble 1100 v.1 with
  | true => k v.2 ((v.1 - 1100 : Nat) : Int)
  | false => False
theorem pA_elim {v : PV} {k : Int → Int → Prop} (h : pA v k) : 1100 ≤ v.1 ∧ k v.2 ((v.1 - 1100 : Nat) : Int) := by
  unfold pA at h
  cases hb : Nat.ble 1100 v.1 with
  | true => rw [hb] at h; exact ⟨Nat.le_of_ble_eq_true hb, h⟩
  | false => rw [hb] at h; exact h.elim
def iAL (n : Nat) : PI := fun _ ls st μ K => sI st fun i r => s1 r fun u r => pA u fun c len => (0 ≤ i ∧ i < len) ∧ ∀ x, x = μ c i → K n ls ((0, x) :: r) μ
def iAS (n : Nat) : PI := fun _ ls st μ K => sI st fun x r => sI r fun i r => s1 r fun u r => pA u fun c len => (0 ≤ i ∧ i < len) ∧ ∀ μ', μ' = upm μ c i x → K n ls r μ'
def iLen (n : Nat) : PI := fun _ ls st μ K => s1 st fun u r => pA u fun _ len => K n ls ((0, len) :: r) μ
def iAA (t t' : Nat) (len str : Int) (n : Nat) : PI := fun _ ls st μ K => sI st fun i r => s1 r fun u r => pT t u fun c => (0 ≤ i ∧ i < len) ∧ K n ls ((t', c + 1 + str * i) :: r) μ
def iGS (t : Int) (n : Nat) : PI := fun _ ls st μ K => K n ls ((3, t) :: st) μ
def iAT (t : Nat) (len : Int) (n : Nat) : PI := fun _ ls st μ K => sI st fun i r => s1 r fun u r => pT 3 u fun z => z = (t : Int) ∧ (0 ≤ i ∧ i < len) ∧ ∀ x, x = stV t i → K n ls ((0, x) :: r) μ
theorem upm_cell {w : Nat} {ad : Nat → Nat} {cT : Nat → ClassId} {μ : Mem} {c j v : Int} (h0 : 0 ≤ c) {e : va_E} (hk : c.toNat < siz w) (he : cellE w ad cT (upm μ c j v) c.toNat = e) : (wsW w ad cT μ).set c.toNat (ad c.toNat, e) = wsW w ad cT (upm μ c j v) := by
  refine wsW_set hk he (fun i hi => ?_)
  obtain ⟨k, rfl⟩ := Int.eq_ofNat_of_zero_le h0
  exact cellE_other (by simpa using hi)
theorem vok {w t : Nat} {c : Int} (h : VOK w (t, c)) (ht : 100 ≤ t) : ∃ k : Nat, c = (k : Int) ∧ k < siz w ∧ lay w k = t - 100 := by
  obtain ⟨h0, h1, h2⟩ := h ht
  exact ⟨c.toNat, (Int.toNat_of_nonneg h0).symm, h1, h2⟩
theorem s_getI {M : MD} {pc n t index N : Nat} {j : Int} {C : String} {T : u_T} {ty0 : Nat → FieldType} (ci jn : Nat) (hC : CLS ci C T N ty0) (ht : t = 100 + ci) (hj : j = (jn : Int)) (hjn : jn < N) (hf : (flds ci)[jn]? = some (-1)) (hl : FL M.2.2.1.cls index (T jn).1 (T jn).2.1 (T jn).2.2.1) (hd : decode M.2.2.2.1 pc = .ok (.getfield index, 3)) (hn : n = pc + 3) : Sound M pc (iGI t j n) := by
  subst ht; subst hj
  subst hn
  intro Q ls st μ K hK h
  obtain ⟨v, r, rfl, h1⟩ := s1_elim h
  obtain ⟨c0, rfl, h2⟩ := pT_elim h1
  intro l ad sv D cT p e s m args below meth c C H locs la hP hS hL hV hT
  obtain ⟨hx, hb, hml, hr, hlk, hown, hts, hnw, hK0, hAD, hst⟩ := id C
  obtain ⟨k, rfl, hk, hlay⟩ := vok (VOKs.head hT) (by omega)
  have hlay : lay M.1 k = ci := by omega
  have hci := hC.2.2.2.2
  have hget := wsW_get (w := M.1) (ad := ad) (cT := cT) (μ := μ) hk
  rw [cellE_obj hlay hci] at hget
  have hfs : (objF ad (μ (k : Int)) k 0 (flds ci))[jn]? = some (Value.int (Int32.ofInt (μ (k : Int) (jn : Int)))) := by
    rw [objF_get, hf]; simp
  have hk2 := hK _ _ _ _ (h2 _ rfl) l ad sv D cT p e s m args below meth c C H locs la hP hS hL hV (VOKs.cons (VOKs.tail hT) (VOK_lt (Nat.zero_lt_succ 99)))
  rw [List.map_cons, cv_ref ad sv (by omega : 100 ≤ 100 + ci)]
  rcases hl with hl | ⟨host, hl⟩
  · exact va_get (D := D) hx hb hts (fun q hq => List.mem_cons_of_mem _ (hC.2.1 q hq)) hown hK0 hP k hget hC.1 jn hjn (hts _ (List.mem_cons_of_mem _ hl)) (fun _ h9 => h9) hfs hd hk2
  · exact va_getN (D := D) hx hb hts (fun q hq => List.mem_cons_of_mem _ (hC.2.1 q hq)) hown hK0 hP k hget hC.1 jn hjn (hnw.use hl) (fun _ h9 => h9) hfs hd hk2
theorem s_getR {M : MD} {pc n t t' index N : Nat} {off : Int} {C : String} {T : u_T} {ty0 : Nat → FieldType} (ci jn : Nat) (hC : CLS ci C T N ty0) (ht : t = 100 + ci) (hjn : jn < N) (hf : (flds ci)[jn]? = some off) (h0 : 0 ≤ off) (hcl : ∀ k, k < siz M.1 → lay M.1 k = ci → k + off.toNat < siz M.1 ∧ lay M.1 (k + off.toNat) + 100 = t') (hl : FL M.2.2.1.cls index (T jn).1 (T jn).2.1 (T jn).2.2.1) (hd : decode M.2.2.2.1 pc = .ok (.getfield index, 3)) (hn : n = pc + 3) : Sound M pc (iGR t t' off n) := by
  subst ht
  subst hn
  intro Q ls st μ K hK h
  obtain ⟨v, r, rfl, h1⟩ := s1_elim h
  obtain ⟨c0, rfl, h2⟩ := pT_elim h1
  intro l ad sv D cT p e s m args below meth c C H locs la hP hS hL hV hT
  obtain ⟨hx, hb, hml, hr, hlk, hown, hts, hnw, hK0, hAD, hst⟩ := id C
  obtain ⟨k, rfl, hk, hlay⟩ := vok (VOKs.head hT) (by omega)
  have hlay : lay M.1 k = ci := by omega
  have hci := hC.2.2.2.2
  obtain ⟨hq1, hq2⟩ := hcl k hk hlay
  have hget := wsW_get (w := M.1) (ad := ad) (cT := cT) (μ := μ) hk
  rw [cellE_obj hlay hci] at hget
  have hoff : (k : Int) + off = ((k + off.toNat : Nat) : Int) := by omega
  have hfs : (objF ad (μ (k : Int)) k 0 (flds ci))[jn]? = some (Value.ref (ad (k + off.toNat))) := by
    rw [objF_get, hf]; simp only [Option.map_some]; rw [if_neg (by omega)]
  have hvk : VOK M.1 (t', (k : Int) + off) := fun _ => by
    rw [hoff]
    exact ⟨by omega, hq1, by rw [Int.toNat_natCast]; omega⟩
  have hk2 := hK _ _ _ _ h2 l ad sv D cT p e s m args below meth c C H locs la hP hS hL hV (VOKs.cons (VOKs.tail hT) hvk)
  rw [List.map_cons, cv_ref ad sv (by omega : 100 ≤ t'), hoff, Int.toNat_natCast] at hk2
  rw [List.map_cons, cv_ref ad sv (by omega : 100 ≤ 100 + ci)]
  rcases hl with hl | ⟨host, hl⟩
  · exact va_get (D := D) hx hb hts (fun q hq => List.mem_cons_of_mem _ (hC.2.1 q hq)) hown hK0 hP k hget hC.1 jn hjn (hts _ (List.mem_cons_of_mem _ hl)) (fun _ h9 => h9) hfs hd hk2
  · exact va_getN (D := D) hx hb hts (fun q hq => List.mem_cons_of_mem _ (hC.2.1 q hq)) hown hK0 hP k hget hC.1 jn hjn (hnw.use hl) (fun _ h9 => h9) hfs hd hk2
theorem s_putI {M : MD} {pc n t index N : Nat} {j : Int} {C : String} {T : u_T} {ty0 : Nat → FieldType} (ci jn : Nat) (hC : CLS ci C T N ty0) (ht : t = 100 + ci) (hj : j = (jn : Int)) (hjn : jn < N) (hf : (flds ci)[jn]? = some (-1)) (hfin : (T jn).2.2.2 = false) (hty : ty0 jn = .int) (hl : FL M.2.2.1.cls index (T jn).1 (T jn).2.1 (T jn).2.2.1) (hd : decode M.2.2.2.1 pc = .ok (.putfield index, 3)) (hn : n = pc + 3) : Sound M pc (iPI t j n) := by
  subst ht; subst hj
  subst hn
  intro Q ls st μ K hK h
  obtain ⟨x, r, rfl, h1⟩ := sI_elim h
  obtain ⟨v, r2, rfl, h2⟩ := s1_elim h1
  obtain ⟨c0, rfl, h3⟩ := pT_elim h2
  intro l ad sv D cT p e s m args below meth c C H locs la hP hS hL hV hT
  obtain ⟨hx, hb, hml, hr, hlk, hown, hts, hnw, hK0, hAD, hst⟩ := id C
  obtain ⟨k, rfl, hk, hlay⟩ := vok (VOKs.head (VOKs.tail hT)) (by omega)
  have hlay : lay M.1 k = ci := by omega
  have hci := hC.2.2.2.2
  have hget := wsW_get (w := M.1) (ad := ad) (cT := cT) (μ := μ) hk
  rw [cellE_obj hlay hci] at hget
  have hset : (wsW M.1 ad cT μ).set k (ad k, .inr (ci, (objF ad (μ (k : Int)) k 0 (flds ci)).set jn (.int (Int32.ofInt x)))) = wsW M.1 ad cT (upm μ (k : Int) (jn : Int) x) := by
    refine wsW_set hk ?_ (fun i hi => cellE_other hi)
    rw [cellE_obj hlay hci, objF_set _ _ _ _ _ _ hf]
    congr 2
    exact objF_ext _ _ _ _ _ (fun b => by simp [upm])
  have hjl : jn < (objF ad (μ (k : Int)) k 0 (flds ci)).length := by
    rw [objF_len]; exact (List.getElem?_eq_some_iff.mp hf).1
  have hpd : parseFieldDescriptor (T jn).2.2.1 = some .int := by rw [hC.2.2.1 jn hjn, hty]
  have hD := hAD.toD cT μ
  rw [List.map_cons, List.map_cons, cv_int, cv_ref ad sv (by omega : 100 ≤ 100 + ci)]
  rcases hl with hl | ⟨host, hl⟩
  · exact va_put (D := D) (v := .int (Int32.ofInt x)) hx hb hts (fun q hq => List.mem_cons_of_mem _ (hC.2.1 q hq)) ty0 hC.2.2.1 hC.2.2.2.1 hown hK0 hP hD hS k hget hC.1 jn hjn (hts _ (List.mem_cons_of_mem _ hl)) (fun _ h9 => h9) hfin hpd rfl rfl hjl hd (fun H1 locs1 hP1 _ hS1 => hK _ _ _ _ (h3 _ rfl) l ad sv D cT p e s m args below meth c C H1 locs1 la (hset ▸ hP1) hS1 hL hV (VOKs.tail (VOKs.tail hT)))
  · exact va_putN (D := D) (v := .int (Int32.ofInt x)) hx hb hts (fun q hq => List.mem_cons_of_mem _ (hC.2.1 q hq)) ty0 hC.2.2.1 hC.2.2.2.1 hown hK0 hP hD hS k hget hC.1 jn hjn (hnw.use hl) (fun _ h9 => h9) hfin hpd rfl rfl hjl hd (fun H1 locs1 hP1 _ hS1 => hK _ _ _ _ (h3 _ rfl) l ad sv D cT p e s m args below meth c C H1 locs1 la (hset ▸ hP1) hS1 hL hV (VOKs.tail (VOKs.tail hT)))
theorem s_putZ {M : MD} {pc n t index N : Nat} {j : Int} {C : String} {T : u_T} {ty0 : Nat → FieldType} (ci jn : Nat) (hC : CLS ci C T N ty0) (ht : t = 100 + ci) (hj : j = (jn : Int)) (hjn : jn < N) (hf : (flds ci)[jn]? = some (-1)) (hfin : (T jn).2.2.2 = false) (hty : ty0 jn = .boolean) (hl : FL M.2.2.1.cls index (T jn).1 (T jn).2.1 (T jn).2.2.1) (hd : decode M.2.2.2.1 pc = .ok (.putfield index, 3)) (hn : n = pc + 3) : Sound M pc (iPZ t j n) := by
  subst ht; subst hj
  subst hn
  intro Q ls st μ K hK h
  obtain ⟨x, r, rfl, h1⟩ := sI_elim h
  obtain ⟨v, r2, rfl, h2⟩ := s1_elim h1
  obtain ⟨c0, rfl, h3⟩ := pT_elim h2
  intro l ad sv D cT p e s m args below meth c C H locs la hP hS hL hV hT
  obtain ⟨hx, hb, hml, hr, hlk, hown, hts, hnw, hK0, hAD, hst⟩ := id C
  obtain ⟨hz, h3⟩ := h3
  obtain ⟨k, rfl, hk, hlay⟩ := vok (VOKs.head (VOKs.tail hT)) (by omega)
  have hlay : lay M.1 k = ci := by omega
  have hci := hC.2.2.2.2
  have hget := wsW_get (w := M.1) (ad := ad) (cT := cT) (μ := μ) hk
  rw [cellE_obj hlay hci] at hget
  have hset : (wsW M.1 ad cT μ).set k (ad k, .inr (ci, (objF ad (μ (k : Int)) k 0 (flds ci)).set jn (.int (Int32.ofInt x)))) = wsW M.1 ad cT (upm μ (k : Int) (jn : Int) x) := by
    refine wsW_set hk ?_ (fun i hi => cellE_other hi)
    rw [cellE_obj hlay hci, objF_set _ _ _ _ _ _ hf]
    congr 2
    exact objF_ext _ _ _ _ _ (fun b => by simp [upm])
  have hjl : jn < (objF ad (μ (k : Int)) k 0 (flds ci)).length := by
    rw [objF_len]; exact (List.getElem?_eq_some_iff.mp hf).1
  have hpd : parseFieldDescriptor (T jn).2.2.1 = some .boolean := by rw [hC.2.2.1 jn hjn, hty]
  have hD := hAD.toD cT μ
  rw [List.map_cons, List.map_cons, cv_int, cv_ref ad sv (by omega : 100 ≤ 100 + ci)]
  rcases hl with hl | ⟨host, hl⟩
  · exact va_put (D := D) (v := .int (Int32.ofInt x)) hx hb hts (fun q hq => List.mem_cons_of_mem _ (hC.2.1 q hq)) ty0 hC.2.2.1 hC.2.2.2.1 hown hK0 hP hD hS k hget hC.1 jn hjn (hts _ (List.mem_cons_of_mem _ hl)) (fun _ h9 => h9) hfin hpd (by rcases hz with rfl | rfl <;> rfl) (by rcases hz with rfl | rfl <;> rfl) hjl hd (fun H1 locs1 hP1 _ hS1 => hK _ _ _ _ (h3 _ rfl) l ad sv D cT p e s m args below meth c C H1 locs1 la (hset ▸ hP1) hS1 hL hV (VOKs.tail (VOKs.tail hT)))
  · exact va_putN (D := D) (v := .int (Int32.ofInt x)) hx hb hts (fun q hq => List.mem_cons_of_mem _ (hC.2.1 q hq)) ty0 hC.2.2.1 hC.2.2.2.1 hown hK0 hP hD hS k hget hC.1 jn hjn (hnw.use hl) (fun _ h9 => h9) hfin hpd (by rcases hz with rfl | rfl <;> rfl) (by rcases hz with rfl | rfl <;> rfl) hjl hd (fun H1 locs1 hP1 _ hS1 => hK _ _ _ _ (h3 _ rfl) l ad sv D cT p e s m args below meth c C H1 locs1 la (hset ▸ hP1) hS1 hL hV (VOKs.tail (VOKs.tail hT)))
theorem s_iaload {M : MD} {pc n : Nat} (hd : decode M.2.2.2.1 pc = .ok (.iaload, 1)) (hn : n = pc + 1) : Sound M pc (iAL n) := by
  subst hn
  intro Q ls st μ K hK h
  obtain ⟨i, r, rfl, h1⟩ := sI_elim h
  obtain ⟨⟨t, c0⟩, r2, rfl, h2⟩ := s1_elim h1
  obtain ⟨ht, ⟨h3, h4⟩, h5⟩ := pA_elim h2
  intro l ad sv D cT p e s m args below meth c C H locs la hP hS hL hV hT
  obtain ⟨hx, hb, hml, hr, hlk, hown, hts, hnw, hK0, hAD, hst⟩ := id C
  dsimp only at ht h3 h4
  obtain ⟨k, rfl, hk, hlay⟩ := vok (VOKs.head (VOKs.tail hT)) (by omega)
  have hlay : lay M.1 k = 1000 + (t - 1100) := by omega
  have hle := lay_le M.1 k
  have hget := wsW_get (w := M.1) (ad := ad) (cT := cT) (μ := μ) hk
  rw [cellE_arr hlay] at hget
  obtain ⟨hin, hcl⟩ := i32_in h3 h4 (by omega)
  have hk2 := hK _ _ _ _ (h5 _ rfl) l ad sv D cT p e s m args below meth c C H locs la hP hS hL hV (VOKs.cons (VOKs.tail (VOKs.tail hT)) (VOK_lt (Nat.zero_lt_succ 99)))
  rw [List.map_cons, List.map_cons, cv_int, cv_ref ad sv (by omega : 100 ≤ t)]
  refine va_iald (D := D) hx hb hK0 hP k 0 hget rfl hin hd ?_
  rw [hcl, Int.toNat_of_nonneg h3]
  exact hk2
theorem s_iastore {M : MD} {pc n : Nat} (hd : decode M.2.2.2.1 pc = .ok (.iastore, 1)) (hn : n = pc + 1) : Sound M pc (iAS n) := by
  subst hn
  intro Q ls st μ K hK h
  obtain ⟨x, r, rfl, h0⟩ := sI_elim h
  obtain ⟨i, r1, rfl, h1⟩ := sI_elim h0
  obtain ⟨⟨t, c0⟩, r2, rfl, h2⟩ := s1_elim h1
  obtain ⟨ht, ⟨h3, h4⟩, h5⟩ := pA_elim h2
  intro l ad sv D cT p e s m args below meth c C H locs la hP hS hL hV hT
  obtain ⟨hx, hb, hml, hr, hlk, hown, hts, hnw, hK0, hAD, hst⟩ := id C
  dsimp only at ht h3 h4
  obtain ⟨k, rfl, hk, hlay⟩ := vok (VOKs.head (VOKs.tail (VOKs.tail hT))) (by omega)
  have hlay : lay M.1 k = 1000 + (t - 1100) := by omega
  have hle := lay_le M.1 k
  have hget := wsW_get (w := M.1) (ad := ad) (cT := cT) (μ := μ) hk
  rw [cellE_arr hlay] at hget
  obtain ⟨hin, hcl⟩ := i32_in h3 h4 (by omega)
  have hset : (wsW M.1 ad cT μ).set k (ad k, .inl (cT 0, t - 1100, .inl (upd (fun j => Int32.ofInt (μ (k : Int) (j : Int))) (Int32.ofInt i).toNatClampNeg (Int32.ofInt x)))) = wsW M.1 ad cT (upm μ (k : Int) i x) := by
    refine wsW_set hk ?_ (fun q hq => cellE_other hq)
    rw [cellE_arr hlay]
    congr 4
    funext q
    rw [hcl]
    by_cases hq : q = i.toNat
    · subst hq
      simp [upd, upm, Int.toNat_of_nonneg h3]
    · have : ¬ (q : Int) = i := by omega
      simp [upd, upm, hq, this]
  have hD := hAD.toD cT μ
  rw [List.map_cons, List.map_cons, List.map_cons, cv_int, cv_int, cv_ref ad sv (by omega : 100 ≤ t)]
  exact va_iast (D := D) hx hb hK0 hP hD hS k 0 hget rfl hin hd (fun H1 locs1 hP1 _ hS1 => hK _ _ _ _ (h5 _ rfl) l ad sv D cT p e s m args below meth c C H1 locs1 la (hset ▸ hP1) hS1 hL hV (VOKs.tail (VOKs.tail (VOKs.tail hT))))
theorem s_alen {M : MD} {pc n : Nat} (hd : decode M.2.2.2.1 pc = .ok (.arraylength, 1)) (hn : n = pc + 1) : Sound M pc (iLen n) := by
  subst hn
  intro Q ls st μ K hK h
  obtain ⟨⟨t, c0⟩, r2, rfl, h2⟩ := s1_elim h
  obtain ⟨ht, h5⟩ := pA_elim h2
  intro l ad sv D cT p e s m args below meth c C H locs la hP hS hL hV hT
  obtain ⟨hx, hb, hml, hr, hlk, hown, hts, hnw, hK0, hAD, hst⟩ := id C
  dsimp only at ht h5
  obtain ⟨k, rfl, hk, hlay⟩ := vok (VOKs.head hT) (by omega)
  have hlay : lay M.1 k = 1000 + (t - 1100) := by omega
  have hget := wsW_get (w := M.1) (ad := ad) (cT := cT) (μ := μ) hk
  rw [cellE_arr hlay] at hget
  rw [List.map_cons, cv_ref ad sv (by omega : 100 ≤ t)]
  exact va_alen (D := D) hx hb hK0 hP k 0 hget rfl (v := Int32.ofInt ((t - 1100 : Nat) : Int)) (by rw [Int32.ofInt_eq_ofNat]) hd (hK _ _ _ _ h5 l ad sv D cT p e s m args below meth c C H locs la hP hS hL hV (VOKs.cons (VOKs.tail hT) (VOK_lt (Nat.zero_lt_succ 99))))
theorem s_aaload {M : MD} {pc n t t' : Nat} {len str : Int} (ra : Nat) (ht : t = 100 + ra) (hra : ra = 10 ∨ ra = 11 ∨ ra = 12) (hlen : len = (rlen ra : Int)) (hstr : str = (rstr ra : Int)) (hcl : ∀ k, k < siz M.1 → lay M.1 k = ra → ∀ j, j < rlen ra → k + 1 + rstr ra * j < siz M.1 ∧ lay M.1 (k + 1 + rstr ra * j) + 100 = t') (hd : decode M.2.2.2.1 pc = .ok (.aaload, 1)) (hn : n = pc + 1) : Sound M pc (iAA t t' len str n) := by
  subst ht; subst hlen; subst hstr
  subst hn
  intro Q ls st μ K hK h
  obtain ⟨i, r, rfl, h1⟩ := sI_elim h
  obtain ⟨v, r2, rfl, h2⟩ := s1_elim h1
  obtain ⟨c0, rfl, ⟨h3, h4⟩, h5⟩ := pT_elim h2
  intro l ad sv D cT p e s m args below meth c C H locs la hP hS hL hV hT
  obtain ⟨hx, hb, hml, hr, hlk, hown, hts, hnw, hK0, hAD, hst⟩ := id C
  obtain ⟨k, rfl, hk, hlay⟩ := vok (VOKs.head (VOKs.tail hT)) (by omega)
  have hlay : lay M.1 k = ra := by omega
  obtain ⟨j, rfl⟩ := Int.eq_ofNat_of_zero_le h3
  have hj : j < rlen ra := by omega
  obtain ⟨hq1, hq2⟩ := hcl k hk hlay j hj
  have hget := wsW_get (w := M.1) (ad := ad) (cT := cT) (μ := μ) hk
  rw [cellE_ref hlay (by omega) (by omega)] at hget
  have hrl : rlen ra ≤ 10 := by rcases hra with rfl | rfl | rfl <;> decide
  obtain ⟨hin, hclm⟩ := i32_in h3 h4 (by omega)
  have hoff : (k : Int) + 1 + (rstr ra : Int) * (j : Int) = ((k + 1 + rstr ra * j : Nat) : Int) := by push_cast; rfl
  have hvk : VOK M.1 (t', (k : Int) + 1 + (rstr ra : Int) * (j : Int)) := fun _ => by
    rw [hoff]
    exact ⟨by omega, hq1, by rw [Int.toNat_natCast]; omega⟩
  have hk2 := hK _ _ _ _ h5 l ad sv D cT p e s m args below meth c C H locs la hP hS hL hV (VOKs.cons (VOKs.tail (VOKs.tail hT)) hvk)
  rw [List.map_cons, cv_ref ad sv (by omega : 100 ≤ t'), hoff, Int.toNat_natCast] at hk2
  have hty : ∃ Cn : String, (tysW cT)[ra - 9]? = some (cT (ra - 9), .object Cn) := by
    rcases hra with rfl | rfl | rfl
    · exact ⟨_, rfl⟩
    · exact ⟨_, rfl⟩
    · exact ⟨_, rfl⟩
  obtain ⟨Cn, hty⟩ := hty
  rw [List.map_cons, List.map_cons, cv_int, cv_ref ad sv (by omega : 100 ≤ 100 + ra)]
  refine va_aldq (D := D) hx hb hK0 hP k (ra - 9) hget hty hin hd ?_
  rw [hclm, Int.toNat_natCast]
  exact hk2
theorem s_getS {M : MD} {pc n index : Nat} (t : Nat) {z : Int} (hz : z = (t : Int)) (ht : t < 4) (hl : FL M.2.2.1.cls index RX4 (stN t) "[I") (hd : decode M.2.2.2.1 pc = .ok (.getstatic index, 3)) (hn : n = pc + 3) : Sound M pc (iGS z n) := by
  subst hz
  subst hn
  intro Q ls st μ K hK h
  intro l ad sv D cT p e s m args below meth c C H locs la hP hS hL hV hT
  obtain ⟨hx, hb, hml, hr, hlk, hown, hts, hnw, hK0, hAD, hst⟩ := id C
  have hk2 := hK _ _ _ _ h l ad sv D cT p e s m args below meth c C H locs la hP hS hL hV (VOKs.cons hT (VOK_lt (by show (3 : Nat) < 100; omega)))
  rw [List.map_cons, cv_tab, Int.toNat_natCast] at hk2
  rcases hl with hl | ⟨host, hl⟩
  · exact va_gets hx hb (hst t ht).1 hS hown (hts _ (List.mem_cons_of_mem _ hl)) (fun _ h9 => h9) hd hk2
  · exact va_getsN hx hb (hst t ht).1 hS hown (hnw.use hl) (fun _ h9 => h9) hd hk2
theorem s_tload {M : MD} {pc n : Nat} (t : Nat) {len : Int} (ht : t < 4) (hlen : len = ((stL t).length : Int)) (hd : decode M.2.2.2.1 pc = .ok (.iaload, 1)) (hn : n = pc + 1) : Sound M pc (iAT t len n) := by
  subst hlen
  subst hn
  intro Q ls st μ K hK h
  obtain ⟨i, r, rfl, h1⟩ := sI_elim h
  obtain ⟨v, r2, rfl, h2⟩ := s1_elim h1
  obtain ⟨c0, rfl, rfl, ⟨h3, h4⟩, h5⟩ := pT_elim h2
  intro l ad sv D cT p e s m args below meth c C H locs la hP hS hL hV hT
  obtain ⟨hx, hb, hml, hr, hlk, hown, hts, hnw, hK0, hAD, hst⟩ := id C
  have hlb : (stL t).length < 2147483648 := by
    unfold stL
    split <;> decide
  obtain ⟨hin, hcl⟩ := i32_in h3 h4 hlb
  have hk2 := hK _ _ _ _ (h5 _ rfl) l ad sv D cT p e s m args below meth c C H locs la hP hS hL hV (VOKs.cons (VOKs.tail (VOKs.tail hT)) (VOK_lt (Nat.zero_lt_succ 99)))
  rw [List.map_cons, List.map_cons, cv_int, cv_tab, Int.toNat_natCast]
  exact va_ti hx hb (hst t ht).2 hS hin (by rw [hcl]; rfl) hd hk2
def wsum : List PV → Nat
  | [] => 0
  | v :: r => (match Nat.beq v.1 1 with | true => 2 | false => 1) + wsum r
theorem wsum_cat (ad sv : Nat → Nat) : ∀ r : List PV, ((r.map (cv ad sv)).map fun v => v.category).sum = wsum r
  | [] => rfl
  | v :: r => by
    rw [List.map_cons, List.map_cons, List.sum_cons, wsum_cat ad sv r]
    rw [show wsum (v :: r) = (match Nat.beq v.1 1 with | true => 2 | false => 1) + wsum r from rfl]
    cases hb : Nat.beq v.1 1 with
    | true =>
      obtain ⟨t, z⟩ := v
      have : t = 1 := Nat.eq_of_beq_eq_true hb
      subst this
      rfl
    | false => rw [cv_cat (Nat.ne_of_beq_eq_false hb)]
def w8 (r : List PV) (k : Prop) : Prop := match Nat.ble (wsum r) 8 with
  | true => k
  | false => False
theorem w8_elim {r : List PV} {k : Prop} (h : w8 r k) : wsum r ≤ 8 ∧ k := by
  unfold w8 at h
  cases hb : Nat.ble (wsum r) 8 with
  | true => rw [hb] at h; exact ⟨Nat.le_of_ble_eq_true hb, h⟩
  | false => rw [hb] at h; exact h.elim
def iMax (n : Nat) : PI := fun _ ls st μ K => sII st fun a b r => w8 r ((-2147483648 ≤ a ∧ a ≤ 2147483647) ∧ (-2147483648 ≤ b ∧ b ≤ 2147483647) ∧ K n ls ((0, max a b) :: r) μ)
def iMin (n : Nat) : PI := fun _ ls st μ K => sII st fun a b r => w8 r ((-2147483648 ≤ a ∧ a ≤ 2147483647) ∧ (-2147483648 ≤ b ∧ b ≤ 2147483647) ∧ K n ls ((0, min a b) :: r) μ)
def iAbs (n : Nat) : PI := fun _ ls st μ K => sI st fun a r => w8 r ((-2147483647 ≤ a ∧ a ≤ 2147483647) ∧ K n ls ((0, if 0 ≤ a then a else -a) :: r) μ)
def iCpy (n : Nat) : PI := fun _ ls st μ K => sI st fun ln r => sI r fun dp r => s1 r fun ud r => sI r fun sp r => s1 r fun us r => w8 r (pA us fun cs ns => pA ud fun cd nd => (sp = 0 ∧ dp = 0 ∧ 0 ≤ ln ∧ ln ≤ ns ∧ ln ≤ nd) ∧ ∀ μ', μ' = (fun a b => if a = cd ∧ 0 ≤ b ∧ b < ln then μ cs b else μ a b) → K n ls r μ')
theorem s_max {M : MD} {pc n index : Nat} (hlv : 1 ≤ M.2.1) (hl : Cond.methodLink M.2.2.1.cls index Lib.Math.max.name ∈ gW) (hs2 : Cond.static Lib.Math.max.name ∈ gW) (hi2 : Cond.initialized "java/lang/Math" ∈ gW) (hc2 : Cond.code Lib.Math.max.name Lib.Math.max.code 2 (some .int) ∈ gW) (hd : decode M.2.2.2.1 pc = .ok (.invokestatic index, 3)) (hn : n = pc + 3) : Sound M pc (iMax n) := by
  subst hn
  intro Q ls st μ K hK h
  obtain ⟨a, b, r, rfl, h1⟩ := sII_elim h
  obtain ⟨hw, ha, hb0, h2⟩ := w8_elim h1
  intro l ad sv D cT p e s m args below meth c C H locs la hP hS hL hV hT
  obtain ⟨hx, hb, hml, hr, hlk, hown, hts, hnw, hK0, hAD, hst⟩ := id C
  have hk2 := hK _ _ _ _ h2 l ad sv D cT p e s m args below meth c C H locs la hP hS hL hV (VOKs.cons (VOKs.tail (VOKs.tail hT)) (VOK_lt (Nat.zero_lt_succ 99)))
  rw [List.map_cons, cv_int] at hk2
  rw [List.map_cons, List.map_cons, cv_int, cv_int]
  refine va_mmax hx hb (hml.trans hL.1.symm) hown (hts _ (List.mem_cons_of_mem _ hl)) (hts _ (List.mem_cons_of_mem _ hs2)) (hts _ (List.mem_cons_of_mem _ hi2)) (hts _ (List.mem_cons_of_mem _ hc2)) (show 1 ≤ M.2.1 from hlv) (show _ ≤ 40 * M.2.1 by rw [wsum_cat]; omega) (Nat.zero_le _) (Nat.zero_le _) hd ?_
  refine W.eq ?_ hk2
  congr 3
  have hz := i32_lt ha hb0
  split
  · rename_i q
    rw [hz] at q
    congr 1
    omega
  · rename_i q
    rw [hz] at q
    congr 1
    omega
theorem s_min {M : MD} {pc n index : Nat} (hlv : 1 ≤ M.2.1) (hl : Cond.methodLink M.2.2.1.cls index Lib.Math.min.name ∈ gW) (hs2 : Cond.static Lib.Math.min.name ∈ gW) (hi2 : Cond.initialized "java/lang/Math" ∈ gW) (hc2 : Cond.code Lib.Math.min.name Lib.Math.min.code 2 (some .int) ∈ gW) (hd : decode M.2.2.2.1 pc = .ok (.invokestatic index, 3)) (hn : n = pc + 3) : Sound M pc (iMin n) := by
  subst hn
  intro Q ls st μ K hK h
  obtain ⟨a, b, r, rfl, h1⟩ := sII_elim h
  obtain ⟨hw, ha, hb0, h2⟩ := w8_elim h1
  intro l ad sv D cT p e s m args below meth c C H locs la hP hS hL hV hT
  obtain ⟨hx, hb, hml, hr, hlk, hown, hts, hnw, hK0, hAD, hst⟩ := id C
  have hk2 := hK _ _ _ _ h2 l ad sv D cT p e s m args below meth c C H locs la hP hS hL hV (VOKs.cons (VOKs.tail (VOKs.tail hT)) (VOK_lt (Nat.zero_lt_succ 99)))
  rw [List.map_cons, cv_int] at hk2
  rw [List.map_cons, List.map_cons, cv_int, cv_int]
  refine va_mmin hx hb (hml.trans hL.1.symm) hown (hts _ (List.mem_cons_of_mem _ hl)) (hts _ (List.mem_cons_of_mem _ hs2)) (hts _ (List.mem_cons_of_mem _ hi2)) (hts _ (List.mem_cons_of_mem _ hc2)) (show 1 ≤ M.2.1 from hlv) (show _ ≤ 40 * M.2.1 by rw [wsum_cat]; omega) (Nat.zero_le _) (Nat.zero_le _) hd ?_
  refine W.eq ?_ hk2
  congr 3
  have hz := i32_lt hb0 ha
  split
  · rename_i q
    rw [hz] at q
    congr 1
    omega
  · rename_i q
    rw [hz] at q
    congr 1
    omega
theorem s_abs {M : MD} {pc n index : Nat} (hlv : 1 ≤ M.2.1) (hl : Cond.methodLink M.2.2.1.cls index Lib.Math.abs.name ∈ gW) (hs2 : Cond.static Lib.Math.abs.name ∈ gW) (hi2 : Cond.initialized "java/lang/Math" ∈ gW) (hc2 : Cond.code Lib.Math.abs.name Lib.Math.abs.code 1 (some .int) ∈ gW) (hd : decode M.2.2.2.1 pc = .ok (.invokestatic index, 3)) (hn : n = pc + 3) : Sound M pc (iAbs n) := by
  subst hn
  intro Q ls st μ K hK h
  obtain ⟨a, r, rfl, h1⟩ := sI_elim h
  obtain ⟨hw, ha, h2⟩ := w8_elim h1
  intro l ad sv D cT p e s m args below meth c C H locs la hP hS hL hV hT
  obtain ⟨hx, hb, hml, hr, hlk, hown, hts, hnw, hK0, hAD, hst⟩ := id C
  have hk2 := hK _ _ _ _ h2 l ad sv D cT p e s m args below meth c C H locs la hP hS hL hV (VOKs.cons (VOKs.tail hT) (VOK_lt (Nat.zero_lt_succ 99)))
  rw [List.map_cons, cv_int] at hk2
  rw [List.map_cons, cv_int]
  refine va_mabs hx hb (hml.trans hL.1.symm) hown (hts _ (List.mem_cons_of_mem _ hl)) (hts _ (List.mem_cons_of_mem _ hs2)) (hts _ (List.mem_cons_of_mem _ hi2)) (hts _ (List.mem_cons_of_mem _ hc2)) (show 1 ≤ M.2.1 from hlv) (show _ ≤ 40 * M.2.1 by rw [wsum_cat]; omega) (Nat.zero_le _) (Nat.zero_le _) hd ?_
  refine W.eq ?_ hk2
  congr 3
  have hz : (0 : Int32) ≤ Int32.ofInt a ↔ 0 ≤ a := by rw [i32_0]; exact i32_le (by omega) (by omega)
  by_cases q : 0 ≤ a
  · rw [if_pos (hz.mpr q), if_pos q]
  · rw [if_neg (fun u => q (hz.mp u)), if_neg q, i32_0, ← Int32.ofInt_sub]
    congr 1
    omega
theorem s_copy {M : MD} {pc n index : Nat} (hlv : 1 ≤ M.2.1) (hl : Cond.methodLink M.2.2.1.cls index arraycopyName ∈ gW) (hs0 : Cond.native arraycopyName ∈ gW) (hs2 : Cond.static arraycopyName ∈ gW) (hi2 : Cond.initialized "java/lang/System" ∈ gW) (hd : decode M.2.2.2.1 pc = .ok (.invokestatic index, 3)) (hn : n = pc + 3) : Sound M pc (iCpy n) := by
  subst hn
  intro Q ls st μ K hK h
  obtain ⟨ln, r, rfl, h1⟩ := sI_elim h
  obtain ⟨dp, r1, rfl, h2⟩ := sI_elim h1
  obtain ⟨⟨td, c1⟩, r2, rfl, h3⟩ := s1_elim h2
  obtain ⟨sp, r3, rfl, h4⟩ := sI_elim h3
  obtain ⟨⟨ts, c2⟩, r4, rfl, h5⟩ := s1_elim h4
  obtain ⟨hw, h6⟩ := w8_elim h5
  obtain ⟨hts1, h7⟩ := pA_elim h6
  obtain ⟨htd1, ⟨rfl, rfl, hl0, hl1, hl2⟩, h8⟩ := pA_elim h7
  intro l ad sv D cT p e s m args below meth c C H locs la hP hS hL hV hT
  obtain ⟨hx, hb, hml, hr, hlk, hown, hts, hnw, hK0, hAD, hst⟩ := id C
  dsimp only at hts1 htd1 hl0 hl1 hl2
  obtain ⟨kd, rfl, hkd, hlayd⟩ := vok (VOKs.head (VOKs.tail (VOKs.tail hT))) (by omega)
  obtain ⟨ks, rfl, hks, hlays⟩ := vok (VOKs.head (VOKs.tail (VOKs.tail (VOKs.tail (VOKs.tail hT))))) (by omega)
  have hlayd : lay M.1 kd = 1000 + (td - 1100) := by omega
  have hlays : lay M.1 ks = 1000 + (ts - 1100) := by omega
  have hled := lay_le M.1 kd
  have hles := lay_le M.1 ks
  have hgd := wsW_get (w := M.1) (ad := ad) (cT := cT) (μ := μ) hkd
  rw [cellE_arr hlayd] at hgd
  have hgs := wsW_get (w := M.1) (ad := ad) (cT := cT) (μ := μ) hks
  rw [cellE_arr hlays] at hgs
  have e0 : (Int32.ofInt 0).toNatClampNeg = 0 := by decide
  have e1 : (Int32.ofInt ln).toNatClampNeg = ln.toNat := Int32.toNatClampNeg_ofInt_of_le (by omega) (by omega)
  have hset : (wsW M.1 ad cT μ).set kd (ad kd, .inl (cT 0, td - 1100, .inl (va_cpy (fun j => Int32.ofInt (μ (ks : Int) (j : Int))) (fun j => Int32.ofInt (μ (kd : Int) (j : Int))) (Int32.ofInt 0).toNatClampNeg (Int32.ofInt 0).toNatClampNeg (Int32.ofInt ln).toNatClampNeg))) = wsW M.1 ad cT (fun a b => if a = (kd : Int) ∧ 0 ≤ b ∧ b < ln then μ (ks : Int) b else μ a b) := by
    refine wsW_set hkd ?_ (fun q hq => ?_)
    · rw [cellE_arr hlayd]
      congr 4
      funext q
      rw [e0, e1]
      unfold va_cpy
      by_cases hq : q < ln.toNat
      · rw [if_pos (by omega), if_pos (by omega)]
        simp
      · rw [if_neg (by omega), if_neg (by omega)]
    · have hne : ¬ ((q : Int) = (kd : Int)) := by omega
      unfold cellE
      simp only [hne, false_and, if_false]
  have hD := hAD.toD cT μ
  have h3f : ∀ z : Int, 0 ≤ z → z ≤ 2147483647 → ¬ Int32.ofInt z < 0 := fun z hz1 hz2 => by
    rw [i32_0, i32_lt (by omega) (by omega)]; omega
  rw [List.map_cons, List.map_cons, List.map_cons, List.map_cons, List.map_cons, cv_int, cv_int, cv_ref ad sv (by omega : 100 ≤ td), cv_ref ad sv (by omega : 100 ≤ ts)]
  exact va_copyi (D := D) (ty := .int) hx hb (hml.trans hL.1.symm) hown (hts _ (List.mem_cons_of_mem _ hl)) (hts _ (List.mem_cons_of_mem _ hs0)) (hts _ (List.mem_cons_of_mem _ hs2)) (hts _ (List.mem_cons_of_mem _ hi2)) hK0 hP hD hS ks kd 0 0 hgs hgd rfl rfl rfl (h3f 0 (by omega) (by omega)) (h3f 0 (by omega) (by omega)) (h3f ln (by omega) (by omega)) (by rw [e0, e1]; omega) (by rw [e0, e1]; omega) (fun _ _ => rfl) (show 1 ≤ M.2.1 from hlv) (show _ ≤ 40 * M.2.1 by rw [wsum_cat, show nativeFrameWords "java/lang/System" "arraycopy" 5 = 7 from by decide]; omega) hd (fun H1 locs1 hP1 _ hS1 => hK _ _ _ _ (h8 _ rfl) l ad sv D cT p e s m args below meth c C H1 locs1 la (hset ▸ hP1) hS1 hL hV (VOKs.tail (VOKs.tail (VOKs.tail (VOKs.tail (VOKs.tail hT))))))
