/-! THE WORLDS: world 0 is an EnoughServers with all its cells (616, none is made after its constructor), world 1 an EnoughServersModel (11). A cell is named by its place; int contents are Ints: mu place slot. -/
abbrev PV : Type := Nat × Int
abbrev Mem : Type := Int → Int → Int
def upm (μ : Mem) (c j v : Int) : Mem := fun a b => if a = c ∧ b = j then v else μ a b
/-- kinds: 0 House, 1 Measure, 2 Service, 3 Text, 4 EnoughServers, 5 Model; 10 House[], 11 Service[], 12 Measure[]; 1000 and n: int[n] -/
def layS (h : Nat) : Nat := match h with
  | 0 => 2 | 1 => 1009 | 2 => 12 | 3 => 1 | 4 => 1032 | 5 => 1 | 6 => 1032 | 7 => 1 | 8 => 1032 | 9 => 1008 | 10 => 1008 | _ => 1004
def layH (h : Nat) : Nat := match h with
  | 0 => 0 | 1 => 1005 | 2 => 11 | k + 3 => layS (k % 12)
def layX (k : Nat) : Nat := match k with
  | 0 => 4 | 1 => 3 | 2 => 1160 | k + 3 => if k < 102 then layH (k % 51) else if k = 102 then 10 else layH ((k - 103) % 51)
def layM (k : Nat) : Nat := match k with
  | 0 => 5 | 1 => 6200 | 10 => 1160 | _ => 1004
def lay (w k : Nat) : Nat := match w with
  | 0 => layX k | _ => layM k
def siz (w : Nat) : Nat := match w with
  | 0 => 616 | _ => 11
/-- the fields of a class: -1 an int, else how many places on the cell lies that it names -/
def flds (ci : Nat) : List Int := match ci with
  | 0 => [1, 2, -1, -1, -1]
  | 1 => [-1, -1, -1, 1]
  | 2 => [1, 2, -1, -1, -1, 9, 10, 11, -1, -1, -1, -1, -1, -1, -1, -1, -1]
  | 3 => [1, -1, -1, -1, -1, -1, -1]
  | 4 => [1, 3, 54, 105, -1, -1, -1]
  | _ => [1, -1, 2, 3, 4, 5, 6, 7, 8, 9, 10, -1, -1, -1, -1, -1, -1, -1, -1]
def rlen (t : Nat) : Nat := match t with
  | 10 => 10 | 11 => 4 | _ => 3
def rstr (t : Nat) : Nat := match t with
  | 10 => 51 | 11 => 12 | _ => 2
def objF (ad : Nat → Nat) (f : Int → Int) (k : Nat) : Nat → List Int → List Value
  | _, [] => []
  | j, o :: os => (if o < 0 then Value.int (Int32.ofInt (f (j : Int))) else Value.ref (ad (k + o.toNat))) :: objF ad f k (j + 1) os
def cellE (w : Nat) (ad : Nat → Nat) (cT : Nat → ClassId) (μ : Mem) (k : Nat) : va_E :=
  if 1000 ≤ lay w k then .inl (cT 0, lay w k - 1000, .inl (fun j => Int32.ofInt (μ (k : Int) (j : Int))))
  else if 10 ≤ lay w k then .inl (cT (lay w k - 9), rlen (lay w k), .inr (.inr (.inr (.inr (fun j => some (ad (k + 1 + rstr (lay w k) * j)))))))
  else .inr (lay w k, objF ad (μ (k : Int)) k 0 (flds (lay w k)))
def wsW (w : Nat) (ad : Nat → Nat) (cT : Nat → ClassId) (μ : Mem) : va_W := (List.range (siz w)).map (fun k => (ad k, cellE w ad cT μ k))
def tysW (cT : Nat → ClassId) : List (ClassId × FieldType) := [(cT 0, .int), (cT 1, .object RX0), (cT 2, .object RX2), (cT 3, .object RX1)]
theorem wsW_get {w : Nat} {ad : Nat → Nat} {cT : Nat → ClassId} {μ : Mem} {k : Nat} (hk : k < siz w) : (wsW w ad cT μ)[k]? = some (ad k, cellE w ad cT μ k) := by
  unfold wsW
  rw [List.getElem?_map, List.getElem?_range hk]
  rfl
theorem wsW_of {w : Nat} {ad : Nat → Nat} {cT : Nat → ClassId} {μ : Mem} {k : Nat} {q : Nat × va_E} (h : (wsW w ad cT μ)[k]? = some q) : k < siz w ∧ q = (ad k, cellE w ad cT μ k) := by
  have hk : k < siz w := by
    have h1 := (List.getElem?_eq_some_iff.mp h).1
    simpa [wsW] using h1
  rw [wsW_get hk] at h
  exact ⟨hk, (Option.some.inj h).symm⟩
theorem wsW_set {w : Nat} {ad : Nat → Nat} {cT : Nat → ClassId} {μ μ' : Mem} {k : Nat} (hk : k < siz w) {e : va_E} (h1 : cellE w ad cT μ' k = e) (h2 : ∀ j, j ≠ k → cellE w ad cT μ' j = cellE w ad cT μ j) : (wsW w ad cT μ).set k (ad k, e) = wsW w ad cT μ' := by
  apply List.ext_getElem?
  intro i
  by_cases hi : i < siz w
  · rw [wsW_get hi]
    by_cases hik : i = k
    · subst hik
      rw [List.getElem?_set_self (by simpa [wsW] using hi), h1]
    · rw [List.getElem?_set_ne (Ne.symm hik), wsW_get hi, h2 i hik]
  · rw [List.getElem?_eq_none (by simp [wsW]; omega), List.getElem?_eq_none (by simp [wsW]; omega)]
theorem objF_get (ad : Nat → Nat) (f : Int → Int) (k : Nat) : ∀ (os : List Int) (j i : Nat), (objF ad f k j os)[i]? = (os[i]?).map (fun o => if o < 0 then Value.int (Int32.ofInt (f ((j + i : Nat) : Int))) else Value.ref (ad (k + o.toNat)))
  | [], j, i => by simp [objF]
  | o :: os, j, 0 => by simp [objF]
  | o :: os, j, i + 1 => by
    simp only [objF, List.getElem?_cons_succ]
    rw [objF_get ad f k os (j + 1) i]
    rw [show j + 1 + i = j + (i + 1) by omega]
theorem objF_set (ad : Nat → Nat) (f : Int → Int) (k : Nat) (os : List Int) (i : Nat) (v : Int) (hi : os[i]? = some (-1)) : (objF ad f k 0 os).set i (.int (Int32.ofInt v)) = objF ad (fun b => if b = (i : Int) then v else f b) k 0 os := by
  apply List.ext_getElem?
  intro n
  rw [objF_get]
  by_cases hn : n = i
  · subst hn
    have hl : n < (objF ad f k 0 os).length := by
      rcases Nat.lt_or_ge n (objF ad f k 0 os).length with h | h
      · exact h
      · have h2 := List.getElem?_eq_none h
        rw [objF_get, hi] at h2
        cases h2
    rw [List.getElem?_set_self hl, hi]
    simp
  · rw [List.getElem?_set_ne (Ne.symm hn), objF_get]
    have hne : ¬ ((0 + n : Nat) : Int) = (i : Int) := by omega
    simp only [if_neg hne]
theorem objF_len (ad : Nat → Nat) (f : Int → Int) (k : Nat) : ∀ (os : List Int) (j : Nat), (objF ad f k j os).length = os.length
  | [], j => rfl
  | o :: os, j => by simp [objF, objF_len ad f k os (j + 1)]
theorem objF_ext (ad : Nat → Nat) (f g : Int → Int) (k : Nat) (os : List Int) (h : ∀ b, f b = g b) : objF ad f k 0 os = objF ad g k 0 os := by rw [show f = g from funext h]
theorem cellE_other {w : Nat} {ad : Nat → Nat} {cT : Nat → ClassId} {μ : Mem} {c : Nat} {j v : Int} {k : Nat} (hk : k ≠ c) : cellE w ad cT (upm μ (c : Int) j v) k = cellE w ad cT μ k := by
  have hne : ¬ ((k : Int) = (c : Int)) := by omega
  have e : upm μ (c : Int) j v (k : Int) = μ (k : Int) := by
    funext b
    simp [upm, hne]
  unfold cellE
  rw [e]
theorem cellE_obj {w : Nat} {ad : Nat → Nat} {cT : Nat → ClassId} {μ : Mem} {k ci : Nat} (h : lay w k = ci) (hci : ci < 10) : cellE w ad cT μ k = .inr (ci, objF ad (μ (k : Int)) k 0 (flds ci)) := by
  unfold cellE
  rw [h, if_neg (by omega), if_neg (by omega)]
theorem cellE_arr {w : Nat} {ad : Nat → Nat} {cT : Nat → ClassId} {μ : Mem} {k n : Nat} (h : lay w k = 1000 + n) : cellE w ad cT μ k = .inl (cT 0, n, .inl (fun j => Int32.ofInt (μ (k : Int) (j : Int)))) := by
  unfold cellE
  rw [h, if_pos (by omega), Nat.add_sub_cancel_left]
theorem cellE_ref {w : Nat} {ad : Nat → Nat} {cT : Nat → ClassId} {μ : Mem} {k t : Nat} (h : lay w k = t) (h1 : 10 ≤ t) (h2 : t < 1000) : cellE w ad cT μ k = .inl (cT (t - 9), rlen t, .inr (.inr (.inr (.inr (fun j => some (ad (k + 1 + rstr t * j))))))) := by
  unfold cellE
  rw [h, if_neg (by omega), if_pos h1]
/-- where the places of a world lie: apart, and of a kind -/
def AD (w : Nat) (ad : Nat → Nat) (A : Nat → Prop) : Prop := (∀ i j, i < siz w → j < siz w → ad i = ad j → i = j) ∧ ∀ k, k < siz w → A (ad k)
def AA (w : Nat) (ad : Nat → Nat) (sz : Nat) : Nat → Prop := fun q => (∃ k, k < siz w ∧ q = ad k) ∨ sz ≤ q
theorem AD.toD {w : Nat} {ad : Nat → Nat} {A : Nat → Prop} (h : AD w ad A) (cT : Nat → ClassId) (μ : Mem) : va_D A (wsW w ad cT μ) := by
  refine ⟨fun i j p q hi hj e => ?_, fun k q hk => ?_⟩
  · obtain ⟨h1, rfl⟩ := wsW_of hi
    obtain ⟨h2, rfl⟩ := wsW_of hj
    exact h.1 i j h1 h2 e
  · obtain ⟨h1, rfl⟩ := wsW_of hk
    exact h.2 k h1
theorem AD.of {w : Nat} {ad : Nat → Nat} {A : Nat → Prop} {cT : Nat → ClassId} {μ : Mem} (h : va_D A (wsW w ad cT μ)) : AD w ad A :=
  ⟨fun i j hi hj e => h.1 i j _ _ (wsW_get hi) (wsW_get hj) e, fun k hk => h.2 k _ (wsW_get hk)⟩
theorem AD.self {w : Nat} {ad : Nat → Nat} {A : Nat → Prop} (h : AD w ad A) (sz : Nat) : AD w ad (AA w ad sz) := ⟨h.1, fun k hk => Or.inl ⟨k, hk, rfl⟩⟩
theorem AA.free {w : Nat} {ad : Nat → Nat} {A : Nat → Prop} {sz : Nat} (h : AD w ad A) (hA : ∀ q, sz ≤ q → A q) : ∀ q, AA w ad sz q → A q := by
  intro q hq
  rcases hq with ⟨k, hk, rfl⟩ | hq
  · exact h.2 k hk
  · exact hA q hq
/-- values: 0 an int, 1 a long, 3 a static table, 100 and a kind: a reference to a place of that kind; 9: unset, or no value -/
def cv (ad sv : Nat → Nat) (v : PV) : Value := if v.1 = 0 then .int (Int32.ofInt v.2) else if v.1 = 1 then .long (Int64.ofInt v.2) else if v.1 = 3 then .ref (sv v.2.toNat) else if 100 ≤ v.1 then .ref (ad v.2.toNat) else .null
def VOK (w : Nat) (v : PV) : Prop := 100 ≤ v.1 → 0 ≤ v.2 ∧ v.2.toNat < siz w ∧ lay w v.2.toNat = v.1 - 100
theorem cv_int (ad sv : Nat → Nat) (z : Int) : cv ad sv (0, z) = .int (Int32.ofInt z) := rfl
theorem cv_long (ad sv : Nat → Nat) (z : Int) : cv ad sv (1, z) = .long (Int64.ofInt z) := rfl
theorem cv_tab (ad sv : Nat → Nat) (z : Int) : cv ad sv (3, z) = .ref (sv z.toNat) := rfl
theorem cv_ref (ad sv : Nat → Nat) {t : Nat} (h : 100 ≤ t) (z : Int) : cv ad sv (t, z) = .ref (ad z.toNat) := by
  unfold cv
  rw [if_neg (by dsimp only; omega), if_neg (by dsimp only; omega), if_neg (by dsimp only; omega), if_pos h]
theorem cv_cat {ad sv : Nat → Nat} {v : PV} (h : v.1 ≠ 1) : (cv ad sv v).category = 1 := by
  unfold cv
  rw [if_neg h]
  repeat' split
  all_goals rfl
theorem VOK_lt {w : Nat} {v : PV} (h : v.1 < 100) : VOK w v := fun h2 => absurd h2 (by omega)
