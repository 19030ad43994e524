/-! THE TEXT: its tokens, by position -/
abbrev isDg (x : Int) : Prop := 48 ≤ x ∧ x ≤ 57
def skN (B : Int → Int) (n : Int) : Nat → Int → Int
  | 0, p => p
  | k + 1, p => if p < n ∧ B p = 32 then skN B n k (p + 1) else p
def dgN (B : Int → Int) (n : Int) : Nat → Int → Int
  | 0, p => p
  | k + 1, p => if p < n ∧ isDg (B p) then dgN B n k (p + 1) else p
def tq (B : Int → Int) (n p : Int) : Int := skN B n 160 p
def te (B : Int → Int) (n p : Int) : Int := if n ≤ tq B n p then tq B n p else if isDg (B (tq B n p)) then dgN B n 160 (tq B n p) else tq B n p + 1
def tt (B : Int → Int) (n p : Int) : Int := if n ≤ tq B n p then -1 else if isDg (B (tq B n p)) then -2 else B (tq B n p)
def vlO (B : Int → Int) (q e : Int) : Int := if e ≤ q then 0 else if e = q + 1 then B q - 48 else 10 * (B q - 48) + (B (q + 1) - 48)
def nmO (B : Int → Int) (q e : Int) : Int := if e - q ≤ 2 then vlO B q e else 100
/-- the text in memory -/
def TX (B : Int → Int) (n : Int) : Prop := (0 ≤ n ∧ n ≤ 160) ∧ ∀ i, 0 ≤ i → i < n → 0 ≤ B i ∧ B i ≤ 255
def tkM (B : Int → Int) (n : Int) (ν : Mem) (p : Int) : Prop := ν 0 13 = te B n p ∧ ν 0 14 = tq B n p ∧ ν 0 15 = (if tt B n p = -2 then te B n p - tq B n p else 0) ∧ ν 0 16 = (if tt B n p = -2 then vlO B (tq B n p) (te B n p) else 0) ∧ ν 0 17 = (if tt B n p = -1 then -1 else if tt B n p = -2 then 0 else 256 + tt B n p)
def tkC (B : Int → Int) (n : Int) (μ : Mem) (p : Int) : Prop := μ 1 2 = te B n p ∧ μ 1 3 = tq B n p ∧ μ 1 4 = tt B n p ∧ (tt B n p = -2 → μ 1 5 = nmO B (tq B n p) (te B n p))
section T75
variable {μ ν : Mem} {B : Int → Int} {Q : PV → Mem → Prop} {n p q e x : Int}
theorem skN_bd : ∀ (k : Nat) (p : Int), p ≤ n → p ≤ skN B n k p ∧ skN B n k p ≤ n
  | 0, p, h => ⟨Int.le_refl _, h⟩
  | k + 1, p, h => by
    unfold skN
    split
    · have := skN_bd k (p + 1) (by omega)
      omega
    · omega
theorem dgN_bd : ∀ (k : Nat) (p : Int), p ≤ n → p ≤ dgN B n k p ∧ dgN B n k p ≤ n
  | 0, p, h => ⟨Int.le_refl _, h⟩
  | k + 1, p, h => by
    unfold dgN
    split
    · have := dgN_bd k (p + 1) (by omega)
      omega
    · omega
theorem dgN_all : ∀ (k : Nat) (p j : Int), p ≤ j → j < dgN B n k p → isDg (B j)
  | 0, p, j, h1, h2 => absurd h2 (by show ¬ j < p; omega)
  | k + 1, p, j, h1, h2 => by
    unfold dgN at h2
    split at h2
    · rename_i hc
      by_cases hj : j = p
      · rw [hj]; exact hc.2
      · exact dgN_all k (p + 1) j (by omega) h2
    · omega
theorem tq_bd (h : p ≤ n) : p ≤ tq B n p ∧ tq B n p ≤ n := skN_bd 160 p h
theorem te_bd (h : p ≤ n) : p ≤ te B n p ∧ te B n p ≤ n := by
  have h1 := tq_bd (B := B) h
  unfold te
  split
  · exact h1
  · split
    · have := dgN_bd (B := B) (n := n) 160 (tq B n p) (by omega)
      omega
    · omega
theorem vlO_s (h : q ≤ p) : vlO B q (p + 1) = if p - q < 2 then 10 * vlO B q p + B p - 48 else vlO B q p := by
  unfold vlO
  by_cases h0 : p = q
  · subst h0
    rw [if_neg (by omega), if_pos rfl, if_pos (by omega), if_pos (by omega)]; omega
  · by_cases h1 : p = q + 1
    · subst h1
      rw [if_neg (by omega), if_neg (by omega), if_pos (by omega), if_neg (by omega), if_pos rfl]; omega
    · rw [if_neg (by omega), if_neg (by omega), if_neg (by omega), if_neg (by omega), if_neg (by omega)]
theorem vlO_bd (hd : ∀ j, q ≤ j → j < e → isDg (B j)) : 0 ≤ vlO B q e ∧ vlO B q e ≤ 99 := by
  unfold vlO
  split
  · omega
  · split
    · have := hd q (by omega) (by omega)
      unfold isDg at this
      omega
    · have h0 := hd q (by omega) (by omega)
      have h1 := hd (q + 1) (by omega) (by omega)
      unfold isDg at h0 h1
      omega
theorem qX5_reads (hT : TX B n) (h11 : ν 0 11 = n) (hB : ∀ i, 0 ≤ i → i < n → ν 10 i = B i) (hp : 0 ≤ p ∧ p ≤ n) (h13 : ν 0 13 = p) (hq : ∀ ν', tkM B n ν' p → (∀ c i, ¬ (c = 0 ∧ 13 ≤ i ∧ i ≤ 17) → ν' c i = ν c i) → Q (9, 0) ν') : MetP mX5_reads [(105, 0)] ν Q := by
  obtain ⟨hn, hb⟩ := hT
  have b1 := tq_bd (B := B) hp.2
  -- the end
  have J188 : ∀ ν' a t, ν' 0 13 = a → ν' 0 17 = t → (0 ≤ a ∧ a ≤ n) → (-1 ≤ t ∧ t ≤ 600) → (∀ ν'', ν'' 0 13 = (if 0 < t then a + 1 else a) → (∀ c i, ¬ (c = 0 ∧ i = 13) → ν'' c i = ν' c i) → Q (9, 0) ν'') → OkE mX5_reads 188 [(105, 0)] [] ν' Q := by
    intro ν' a t ha ht hab htb hk
    have J205 : ∀ z, (if 0 < t then a + 1 else a) = a + z → OkE mX5_reads 205 [(105, 0)] [(0, z), (0, a), (105, 0)] ν' Q := by
      intro z hz
      refine OkE.go snX5_reads [] 100 ?_
      intro ν2 d2
      refine hk ν2 ?_ (fun c i hn => by rw [d2]; exact upm_ne hn)
      rw [d2, hz]; exact upm_at _ _ _ _
    refine OkE.go snX5_reads [205] 100 ?_
    intro x1 e1
    obtain rfl : x1 = a := e1.trans ha
    intro x2 e2
    obtain rfl : x2 = t := e2.trans ht
    refine ⟨by omega, fun q1 => ?_, fun q1 => ?_⟩
    · exact J205 0 (by rw [if_neg (by omega)]; omega)
    · exact J205 1 (by rw [if_pos (by omega)])
  -- figures
  have L88 : ∀ (q e : Int), 0 ≤ q ∧ q < n → isDg (B q) → (∀ ν', ν' 0 13 = e → ν' 0 14 = q → ν' 0 15 = e - q → ν' 0 16 = vlO B q e → ν' 0 17 = 0 → (∀ c i, ¬ (c = 0 ∧ 13 ≤ i ∧ i ≤ 17) → ν' c i = ν c i) → Q (9, 0) ν') → ∀ (k : Nat) (p : Int) (ν' : Mem), n ≤ p + k → q ≤ p → p ≤ n → dgN B n k p = e → (p = q → dgN B n k p ≠ q) → (∀ j, q ≤ j → j < p → isDg (B j)) → ν' 0 13 = p → ν' 0 14 = q → ν' 0 15 = p - q → ν' 0 16 = vlO B q p → ν' 0 17 = (if p = q then 256 + B q else 0) → (∀ c i, ¬ (c = 0 ∧ 13 ≤ i ∧ i ≤ 17) → ν' c i = ν c i) → OkE mX5_reads 88 [(105, 0)] [] ν' Q := by
    intro q e hqn hdq hk k
    have bq := hb q hqn.1 hqn.2
    have fin : ∀ (p : Int) (ν' : Mem), p ≠ q → q ≤ p → p ≤ n → p = e → ν' 0 13 = p → ν' 0 14 = q → ν' 0 15 = p - q → ν' 0 16 = vlO B q p → ν' 0 17 = (if p = q then 256 + B q else 0) → (∀ c i, ¬ (c = 0 ∧ 13 ≤ i ∧ i ≤ 17) → ν' c i = ν c i) → OkE mX5_reads 188 [(105, 0)] [] ν' Q := by
      intro p ν' hne hqp hpn hpe k13 k14 k15 k16 k17 kf
      rw [if_neg hne] at k17
      refine J188 ν' p 0 k13 k17 (by omega) (by omega) (fun ν2 a1 a2 => ?_)
      rw [if_neg (by omega)] at a1
      subst hpe
      exact hk ν2 a1 ((a2 0 14 (by omega)).trans k14) ((a2 0 15 (by omega)).trans k15) ((a2 0 16 (by omega)).trans k16) ((a2 0 17 (by omega)).trans k17) (fun c i hn => (a2 c i (by omega)).trans (kf c i hn))
    induction k with
    | zero =>
      intro p ν' hf hqp hpn hde hne hall k13 k14 k15 k16 k17 kf
      refine OkE.go snX5_reads [88, 188] 100 ?_
      intro x1 e1
      obtain rfl : x1 = p := e1.trans k13
      intro x2 e2
      obtain rfl : x2 = n := e2.trans ((kf 0 11 (by omega)).trans h11)
      refine ⟨by omega, by omega, fun _ => ?_, fun q1 => absurd q1 (by omega)⟩
      exact fin x1 ν' (by omega) hqp hpn hde k13 k14 k15 k16 k17 kf
    | succ k ih =>
      intro p ν' hf hqp hpn hde hne hall k13 k14 k15 k16 k17 kf
      refine OkE.go snX5_reads [88, 157, 188] 100 ?_
      intro x1 e1
      obtain rfl : x1 = p := e1.trans k13
      intro x2 e2
      obtain rfl : x2 = n := e2.trans ((kf 0 11 (by omega)).trans h11)
      have hdef : dgN B x2 (k + 1) x1 = if x1 < x2 ∧ isDg (B x1) then dgN B x2 k (x1 + 1) else x1 := rfl
      refine ⟨by omega, by omega, fun q1 => ?_, fun q1 => ?_⟩
      · rw [if_neg (by omega)] at hdef
        exact fin x1 ν' (fun h => hne h (hdef.trans h)) hqp hpn (hdef.symm.trans hde) k13 k14 k15 k16 k17 kf
      · have bp := hb x1 (by omega) (by omega)
        intro x3 e3
        obtain rfl : x3 = x1 := e3.trans k13
        refine ⟨by omega, fun x4 e4 => ?_⟩
        obtain rfl : x4 = B x3 := e4.trans ((kf 10 x3 (by omega)).trans (hB x3 (by omega) (by omega)))
        refine ⟨by omega, ?_⟩
        refine qX5_in (by omega) (by omega) (by omega) (fun hd => ?_) (fun hd => ?_)
        · refine ⟨by omega, fun q2 => absurd q2 (by omega), fun _ => ?_⟩
          rw [if_pos ⟨by omega, hd⟩] at hdef
          have vb := vlO_bd hall
          have J157 : ∀ z, z = vlO B q (x3 + 1) → OkE mX5_reads 157 [(105, 0)] [(0, z), (105, 0)] ν' Q := by
            intro z hz
            refine OkE.go snX5_reads [88] 100 ?_
            intro ν2 d2
            have n2 : ∀ a b, ¬ (a = 0 ∧ b = 16) → ν2 a b = ν' a b := fun a b hn => by rw [d2]; exact upm_ne hn
            have v2 : ν2 0 16 = z := by rw [d2]; exact upm_at _ _ _ _
            intro x5 e5
            obtain rfl : x5 = x3 - q := e5.trans ((n2 0 15 (by omega)).trans k15)
            intro ν3 d3
            have n3 : ∀ a b, ¬ (a = 0 ∧ b = 15) → ν3 a b = ν2 a b := fun a b hn => by rw [d3]; exact upm_ne hn
            have v3 : ν3 0 15 = x3 - q + 1 := by rw [d3]; exact upm_at _ _ _ _
            intro x6 e6
            obtain rfl : x6 = x3 := e6.trans ((n3 0 13 (by omega)).trans ((n2 0 13 (by omega)).trans k13))
            intro ν4 d4
            have n4 : ∀ a b, ¬ (a = 0 ∧ b = 13) → ν4 a b = ν3 a b := fun a b hn => by rw [d4]; exact upm_ne hn
            have v4 : ν4 0 13 = x6 + 1 := by rw [d4]; exact upm_at _ _ _ _
            intro ν5 d5
            have n5 : ∀ a b, ¬ (a = 0 ∧ b = 17) → ν5 a b = ν4 a b := fun a b hn => by rw [d5]; exact upm_ne hn
            have v5 : ν5 0 17 = 0 := by rw [d5]; exact upm_at _ _ _ _
            refine ih (x6 + 1) ν5 (by omega) (by omega) (by omega) (hdef.symm.trans hde) (fun h => absurd h (by omega)) (fun j p1 p2 => ?_) ?_ ?_ ?_ ?_ ?_ (fun c i hn => ?_)
            · by_cases hj : j = x6
              · rw [hj]; exact hd
              · exact hall j p1 (by omega)
            · rw [n5 _ _ (by omega)]; exact v4
            · rw [n5 _ _ (by omega), n4 _ _ (by omega), n3 _ _ (by omega), n2 _ _ (by omega)]; exact k14
            · rw [n5 _ _ (by omega), n4 _ _ (by omega), v3]; omega
            · rw [n5 _ _ (by omega), n4 _ _ (by omega), n3 _ _ (by omega), v2, hz]
            · rw [v5, if_neg (by omega)]
            · rw [n5 _ _ (by omega), n4 _ _ (by omega), n3 _ _ (by omega), n2 _ _ (by omega)]; exact kf c i hn
          have hv := vlO_s (B := B) hqp
          intro x5 e5
          obtain rfl : x5 = x3 - q := e5.trans k15
          refine ⟨by omega, by omega, fun q2 => ?_, fun q2 => ?_⟩
          · intro x6 e6
            obtain rfl : x6 = vlO B q x3 := e6.trans k16
            rw [if_neg (by omega)] at hv
            exact J157 _ hv.symm
          · intro x6 e6
            obtain rfl : x6 = vlO B q x3 := e6.trans k16
            intro x7 e7
            obtain rfl : x7 = x3 := e7.trans k13
            refine ⟨by omega, fun x8 e8 => ?_⟩
            obtain rfl : x8 = B x7 := e8.trans ((kf 10 x7 (by omega)).trans (hB x7 (by omega) (by omega)))
            rw [if_pos (by omega)] at hv
            exact J157 _ hv.symm
        · refine ⟨by omega, fun _ => ?_, fun q2 => absurd rfl q2⟩
          rw [if_neg (fun h => hd h.2)] at hdef
          exact fin x3 ν' (fun h => hne h (hdef.trans h)) hqp hpn (hdef.symm.trans hde) k13 k14 k15 k16 k17 kf
  -- behind the blanks
  have J38 : ∀ (q : Int) (ν' : Mem), q = tq B n p → ν' 0 13 = q → (∀ c i, ¬ (c = 0 ∧ 13 ≤ i ∧ i ≤ 17) → ν' c i = ν c i) → OkE mX5_reads 38 [(105, 0)] [] ν' Q := by
    intro q ν' hq0 k13 kf
    unfold tkM te tt at hq
    rw [← hq0] at hq b1
    have J85 : ∀ (t : Int) (ν2 : Mem), t = (if q = n then -1 else 256 + B q) → ν2 0 13 = q → ν2 0 14 = q → ν2 0 15 = 0 → ν2 0 16 = 0 → (∀ c i, ¬ (c = 0 ∧ 13 ≤ i ∧ i ≤ 17) → ν2 c i = ν c i) → OkE mX5_reads 85 [(105, 0)] [(0, t), (105, 0)] ν2 Q := by
      intro t ν2 ht k13 k14 k15 k16 kf
      refine OkE.go snX5_reads [88] 100 ?_
      intro ν3 d3
      have n3 : ∀ a b, ¬ (a = 0 ∧ b = 17) → ν3 a b = ν2 a b := fun a b hn => by rw [d3]; exact upm_ne hn
      have v3 : ν3 0 17 = t := by rw [d3]; exact upm_at _ _ _ _
      have r13 : ν3 0 13 = q := (n3 0 13 (by omega)).trans k13
      have r14 : ν3 0 14 = q := (n3 0 14 (by omega)).trans k14
      have r15 : ν3 0 15 = 0 := (n3 0 15 (by omega)).trans k15
      have r16 : ν3 0 16 = 0 := (n3 0 16 (by omega)).trans k16
      have rf : ∀ c i, ¬ (c = 0 ∧ 13 ≤ i ∧ i ≤ 17) → ν3 c i = ν c i := fun c i hn => (n3 c i (by omega)).trans (kf c i hn)
      by_cases hqn : q = n
      · rw [if_pos hqn] at ht
        rw [if_pos (show n ≤ q by omega), if_pos (show n ≤ q by omega)] at hq
        refine OkE.go snX5_reads [188] 100 ?_
        intro x1 e1
        obtain rfl : x1 = q := e1.trans r13
        intro x2 e2
        obtain rfl : x2 = n := e2.trans ((rf 0 11 (by omega)).trans h11)
        refine ⟨by omega, by omega, fun _ => ?_, fun q1 => absurd q1 (by omega)⟩
        refine J188 ν3 x1 (-1) r13 (v3.trans ht) (by omega) (by omega) (fun ν4 a1 a2 => ?_)
        rw [if_neg (by omega)] at a1
        refine hq ν4 ⟨a1, (a2 0 14 (by omega)).trans r14, ?_, ?_, ?_⟩ (fun c i hn => (a2 c i (by omega)).trans (rf c i hn))
        · rw [if_neg (by omega)]; exact (a2 0 15 (by omega)).trans r15
        · rw [if_neg (by omega)]; exact (a2 0 16 (by omega)).trans r16
        · rw [if_pos rfl]; exact (a2 0 17 (by omega)).trans (v3.trans ht)
      · rw [if_neg hqn] at ht
        have bq := hb q (by omega) (by omega)
        rw [if_neg (show ¬ n ≤ q by omega), if_neg (show ¬ n ≤ q by omega)] at hq
        by_cases hd : isDg (B q)
        · rw [if_pos hd, if_pos hd] at hq
          have hdef : dgN B n 160 q = if q < n ∧ isDg (B q) then dgN B n 159 (q + 1) else q := rfl
          rw [if_pos ⟨by omega, hd⟩] at hdef
          have hbd := dgN_bd (B := B) (n := n) 159 (q + 1) (by omega)
          refine L88 q (dgN B n 160 q) (by omega) hd (fun ν4 a1 a2 a3 a4 a5 a6 => ?_) 160 q ν3 (by omega) (by omega) (by omega) rfl (fun _ => by omega) (fun j p1 p2 => absurd p1 (by omega)) r13 r14 (by rw [r15]; omega) ?_ ?_ rf
          · refine hq ν4 ⟨a1, a2, ?_, ?_, ?_⟩ a6
            · rw [if_pos rfl]; exact a3
            · rw [if_pos rfl]; exact a4
            · rw [if_neg (by omega), if_pos rfl]; exact a5
          · rw [r16]; unfold vlO; rw [if_pos (by omega)]
          · rw [if_pos rfl, v3, ht]
        · rw [if_neg hd, if_neg hd] at hq
          refine OkE.go snX5_reads [188] 100 ?_
          intro x1 e1
          obtain rfl : x1 = q := e1.trans r13
          intro x2 e2
          obtain rfl : x2 = n := e2.trans ((rf 0 11 (by omega)).trans h11)
          refine ⟨by omega, by omega, fun q1 => absurd q1 (by omega), fun _ => ?_⟩
          intro x3 e3
          obtain rfl : x3 = x1 := e3.trans r13
          refine ⟨by omega, fun x4 e4 => ?_⟩
          obtain rfl : x4 = B x3 := e4.trans ((rf 10 x3 (by omega)).trans (hB x3 (by omega) (by omega)))
          refine ⟨by omega, ?_⟩
          refine qX5_in (by omega) (by omega) (by omega) (fun hd2 => absurd hd2 hd) (fun _ => ?_)
          refine ⟨by omega, fun _ => ?_, fun q2 => absurd rfl q2⟩
          refine J188 ν3 x3 (256 + B x3) r13 (v3.trans ht) (by omega) (by omega) (fun ν4 a1 a2 => ?_)
          rw [if_pos (by omega)] at a1
          refine hq ν4 ⟨a1, (a2 0 14 (by omega)).trans r14, ?_, ?_, ?_⟩ (fun c i hn => (a2 c i (by omega)).trans (rf c i hn))
          · rw [if_neg (by omega)]; exact (a2 0 15 (by omega)).trans r15
          · rw [if_neg (by omega)]; exact (a2 0 16 (by omega)).trans r16
          · rw [if_neg (by omega), if_neg (by omega)]; exact (a2 0 17 (by omega)).trans (v3.trans ht)
    refine OkE.go snX5_reads [85] 100 ?_
    intro x1 e1
    obtain rfl : x1 = q := e1.trans k13
    intro ν2 d2
    have n2 : ∀ a b, ¬ (a = 0 ∧ b = 14) → ν2 a b = ν' a b := fun a b hn => by rw [d2]; exact upm_ne hn
    have v2 : ν2 0 14 = x1 := by rw [d2]; exact upm_at _ _ _ _
    intro ν3 d3
    have n3 : ∀ a b, ¬ (a = 0 ∧ b = 15) → ν3 a b = ν2 a b := fun a b hn => by rw [d3]; exact upm_ne hn
    have v3 : ν3 0 15 = 0 := by rw [d3]; exact upm_at _ _ _ _
    intro ν4 d4
    have n4 : ∀ a b, ¬ (a = 0 ∧ b = 16) → ν4 a b = ν3 a b := fun a b hn => by rw [d4]; exact upm_ne hn
    have v4 : ν4 0 16 = 0 := by rw [d4]; exact upm_at _ _ _ _
    have N4 : ∀ a b, ¬ (a = 0 ∧ 14 ≤ b ∧ b ≤ 16) → ν4 a b = ν' a b := fun a b hn => by rw [n4 a b (by omega), n3 a b (by omega), n2 a b (by omega)]
    have r13 : ν4 0 13 = x1 := (N4 0 13 (by omega)).trans k13
    have r14 : ν4 0 14 = x1 := by rw [n4 _ _ (by omega), n3 _ _ (by omega)]; exact v2
    have r15 : ν4 0 15 = 0 := by rw [n4 _ _ (by omega)]; exact v3
    have rf : ∀ c i, ¬ (c = 0 ∧ 13 ≤ i ∧ i ≤ 17) → ν4 c i = ν c i := fun c i hn => (N4 c i (by omega)).trans (kf c i hn)
    intro x5 e5
    obtain rfl : x5 = x1 := e5.trans r13
    intro x6 e6
    obtain rfl : x6 = n := e6.trans ((rf 0 11 (by omega)).trans h11)
    refine ⟨by omega, by omega, fun q1 => ?_, fun q1 => ?_⟩
    · intro x7 e7
      obtain rfl : x7 = x5 := e7.trans r13
      refine ⟨by omega, fun x8 e8 => ?_⟩
      obtain rfl : x8 = B x7 := e8.trans ((rf 10 x7 (by omega)).trans (hB x7 (by omega) (by omega)))
      exact J85 _ ν4 (by rw [if_neg q1]) r13 r14 r15 v4 rf
    · exact J85 _ ν4 (by rw [if_pos (by omega)]) r13 r14 r15 v4 rf
  have L0 : ∀ (k : Nat) (a : Int) (ν' : Mem), n ≤ a + k → 0 ≤ a → a ≤ n → skN B n k a = tq B n p → ν' 0 13 = a → (∀ c i, ¬ (c = 0 ∧ 13 ≤ i ∧ i ≤ 17) → ν' c i = ν c i) → OkE mX5_reads 0 [(105, 0)] [] ν' Q := by
    intro k
    induction k with
    | zero =>
      intro a ν' hf h0 han hsk k13 kf
      refine OkE.go snX5_reads [0, 38] 100 ?_
      intro x1 e1
      obtain rfl : x1 = a := e1.trans k13
      intro x2 e2
      obtain rfl : x2 = n := e2.trans ((kf 0 11 (by omega)).trans h11)
      refine ⟨by omega, by omega, fun _ => ?_, fun q1 => absurd q1 (by omega)⟩
      exact J38 x1 ν' hsk k13 kf
    | succ k ih =>
      intro a ν' hf h0 han hsk k13 kf
      refine OkE.go snX5_reads [0, 38] 100 ?_
      intro x1 e1
      obtain rfl : x1 = a := e1.trans k13
      intro x2 e2
      obtain rfl : x2 = n := e2.trans ((kf 0 11 (by omega)).trans h11)
      have hdef : skN B x2 (k + 1) x1 = if x1 < x2 ∧ B x1 = 32 then skN B x2 k (x1 + 1) else x1 := rfl
      refine ⟨by omega, by omega, fun q1 => ?_, fun q1 => ?_⟩
      · rw [if_neg (by omega)] at hdef
        exact J38 x1 ν' (hdef.symm.trans hsk) k13 kf
      · intro x3 e3
        obtain rfl : x3 = x1 := e3.trans k13
        have bp := hb x3 (by omega) (by omega)
        refine ⟨by omega, fun x4 e4 => ?_⟩
        obtain rfl : x4 = B x3 := e4.trans ((kf 10 x3 (by omega)).trans (hB x3 (by omega) (by omega)))
        refine ⟨by omega, by omega, fun q2 => ?_, fun q2 => ?_⟩
        · rw [if_neg (fun h => q2 h.2)] at hdef
          exact J38 x3 ν' (hdef.symm.trans hsk) k13 kf
        · rw [if_pos (by omega)] at hdef
          intro x5 e5
          obtain rfl : x5 = x3 := e5.trans k13
          intro ν2 d2
          refine ih (x5 + 1) ν2 (by omega) (by omega) (by omega) (hdef.symm.trans hsk) (by rw [d2]; exact upm_at _ _ _ _) (fun c i hn => ?_)
          rw [d2]
          exact (upm_ne (by show ¬ (c = 0 ∧ i = 13); omega)).trans (kf c i hn)
  refine MetP.go snX5_reads [0] 0 rfl rfl rfl rfl (fun _ => ?_)
  exact L0 160 p ν (by omega) hp.1 hp.2 rfl h13 (fun _ _ _ => rfl)
end T75
