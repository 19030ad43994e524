/-- y is the least value that wants n, or NONE -/
def LV (f : Int → Int) (n y : Int) : Prop := (0 ≤ y ∧ y ≤ 9999 ∧ n ≤ f y ∧ ∀ a, 0 ≤ a → a < y → f a < n) ∨ (y = -1 ∧ ∀ a, 0 ≤ a → a ≤ 9999 → f a < n)
theorem LV_uni {f : Int → Int} {n y z : Int} (h1 : LV f n y) (h2 : LV f n z) : y = z := by
  rcases h1 with ⟨a1, a2, a3, a4⟩ | ⟨a1, a2⟩
  · rcases h2 with ⟨b1, b2, b3, b4⟩ | ⟨b1, b2⟩
    · rcases Int.lt_trichotomy y z with q | q | q
      · have := b4 y a1 q; omega
      · exact q
      · have := a4 z b1 q; omega
    · have := b2 y a1 a2; omega
  · rcases h2 with ⟨b1, b2, b3, b4⟩ | ⟨b1, b2⟩
    · have := a2 z b1 b2; omega
    · omega
section T68
variable {N : Int} {μ ν : Mem} {g u : Int → Int} {v W : Mem} {Q : PV → Mem → Prop} {w x s c R t n m : Int}
theorem upI_mono {a b k : Int} (hk : 1 ≤ k) (h : a ≤ b) : upI a k ≤ upI b k := by
  unfold upI
  exact Int.ediv_le_ediv (by omega) (by omega)
/-- within each of three parts nobody wants less by more -/
theorem want_mono (hB : BV u) (hm : 0 ≤ m ∧ m < u 9) {a b T : Int} (hT : u (36 + 21 * m) = T) (h0 : 0 ≤ a) (h1 : a ≤ b) (h2 : b ≤ 9999) (hz : b ≤ T - T / 10 - 1 ∨ (T - T / 10 ≤ a ∧ b ≤ T + T / 10) ∨ T + T / 10 + 1 ≤ a) : wantV g u m a ≤ wantV g u m b := by
  obtain ⟨kb, tb, vb, pb⟩ := BV_m hB hm
  have hc := cntV_bd hB
  rw [hT] at tb
  have td : T / 10 * 10 ≤ T ∧ T < T / 10 * 10 + 10 := by omega
  unfold wantV
  rw [if_neg (show ¬ a < 0 by omega), if_neg (show ¬ b < 0 by omega), hT]
  by_cases k1 : u (35 + 21 * m) = 1
  · rw [if_pos k1, if_pos k1]
    exact upI_mono tb.1 h1
  rw [if_neg k1, if_neg k1]
  by_cases k2 : u (35 + 21 * m) = 2
  · rw [if_pos k2, if_pos k2]
    exact upI_mono tb.1 (by omega)
  rw [if_neg k2, if_neg k2]
  by_cases k3 : u (35 + 21 * m) = 3
  · rw [if_pos k3, if_pos k3]
    have hr : 0 ≤ (if u 10 = 0 then 1 else u 10) := by split <;> omega
    generalize (if u 10 = 0 then 1 else u 10) = r at hr ⊢
    have hm1 : upI (r * a) T ≤ upI (r * b) T := upI_mono tb.1 (Int.mul_le_mul_of_nonneg_left h1 hr)
    rcases hz with hz | hz | hz
    · rw [if_neg (show ¬ 10 * (if T < a then a - T else T - a) ≤ T by rw [if_neg (by omega)]; omega), if_neg (show ¬ 10 * (if T < b then b - T else T - b) ≤ T by rw [if_neg (by omega)]; omega)]
      exact hm1
    · rw [if_pos (show 10 * (if T < a then a - T else T - a) ≤ T by split <;> omega), if_pos (show 10 * (if T < b then b - T else T - b) ≤ T by split <;> omega)]
      exact Int.le_refl _
    · rw [if_neg (show ¬ 10 * (if T < a then a - T else T - a) ≤ T by rw [if_pos (by omega)]; omega), if_neg (show ¬ 10 * (if T < b then b - T else T - b) ≤ T by rw [if_pos (by omega)]; omega)]
      exact hm1
  rw [if_neg k3, if_neg k3]
  by_cases a0 : 0 < a
  · rw [if_pos a0, if_pos (by omega)]
    have := Int.ediv_le_ediv (show 0 < T by omega) (show a - 1 ≤ b - 1 by omega)
    omega
  · rw [if_neg a0]
    have e : (if 0 < cntV u then cntV u - 1 else 0) ≤ cntV u := by split <;> omega
    by_cases b0 : 0 < b
    · rw [if_pos b0]
      have := Int.ediv_nonneg (show 0 ≤ b - 1 by omega) (show 0 ≤ T by omega)
      omega
    · rw [if_neg b0]
      exact Int.le_refl _
theorem qX1_leastUpTo {f : Int → Int} {last cnt rdy fs : Int} (hn : 0 ≤ n ∧ n ≤ 99) (hl : 0 ≤ last ∧ last ≤ 9999) (hf : ∀ x, 0 ≤ x → x ≤ 9999 → 0 ≤ f x ∧ f x ≤ 300000) (hW : ∀ x Q0, 0 ≤ x ∧ x ≤ 9999 → Q0 (0, f x) μ → MetP mX1_wantBy [(101, c), (0, x), (0, cnt), (0, rdy), (0, fs)] μ Q0) (hP : n ≤ f last) (hmo : ∀ a b, 0 ≤ a → a ≤ b → b ≤ last → n ≤ f a → n ≤ f b)
    (hq : ∀ y, LV f n y → Q (0, y) μ) : MetP mX1_leastUpTo [(101, c), (0, last), (0, n), (0, cnt), (0, rdy), (0, fs)] μ Q := by
  have L : ∀ (r : Nat) (i low high : Int) (z : PV), i = 14 - (r : Int) → r ≤ 14 → 0 ≤ low → low ≤ high → high ≤ last → high - low < ((2 ^ r : Nat) : Int) → n ≤ f high → (∀ a, 0 ≤ a → a < low → f a < n) → OkE mX1_leastUpTo 9 [(101, c), (0, last), (0, n), (0, cnt), (0, rdy), (0, fs), (0, low), (0, high), (0, i), z] [] μ Q := by
    intro r
    induction r with
    | zero =>
      intro i low high z hi hr h0 h1 h2 h3 h4 h5
      have e : low = high := by
        have : ((2 ^ 0 : Nat) : Int) = 1 := rfl
        omega
      refine OkE.go snX1_leastUpTo [9] 100 ?_
      refine ⟨by omega, by omega, fun _ => ?_, fun q => absurd q (by omega)⟩
      refine hq _ (Or.inl ⟨by omega, by omega, h4, fun a p q => h5 a p (by omega)⟩)
    | succ r ih =>
      intro i low high z hi hr h0 h1 h2 h3 h4 h5
      have e2 : ((2 ^ (r + 1) : Nat) : Int) = 2 * ((2 ^ r : Nat) : Int) := by rw [Nat.pow_succ]; push_cast; omega
      refine OkE.go snX1_leastUpTo [9] 100 ?_
      refine ⟨by omega, by omega, fun q => absurd q (by omega), fun _ => ?_⟩
      refine ⟨by omega, by omega, fun q => ?_, fun q => ?_⟩
      · exact hq _ (Or.inl ⟨by omega, by omega, h4, fun a p q => h5 a p (by omega)⟩)
      · refine ⟨by omega, ?_⟩
        have hb := hf ((low + high) / 2) (by omega) (by omega)
        refine hW ((low + high) / 2) _ (by omega) ?_
        refine ⟨by omega, by omega, fun q2 => ?_, fun q2 => ?_⟩
        · refine ih (i + 1) ((low + high) / 2 + 1) high _ (by omega) (by omega) (by omega) (by omega) h2 (by omega) h4 (fun a p q3 => ?_)
          rcases Int.lt_or_le (f a) n with h6 | h6
          · exact h6
          · have := hmo a ((low + high) / 2) p (by omega) (by omega) h6
            omega
        · exact ih (i + 1) low ((low + high) / 2) _ (by omega) (by omega) h0 (by omega) (by omega) (by omega) (by omega) h5
  refine MetP.go snX1_leastUpTo [9] 100 rfl rfl rfl rfl (fun _ => ?_)
  exact L 14 0 0 last _ (by omega) (by omega) (by omega) hl.1 (by omega) (by have : ((2 ^ 14 : Nat) : Int) = 16384 := rfl; omega) hP (fun a p q => absurd q (by omega))
theorem qX1_lv_pass {f : Int → Int} {last cnt rdy fs T prev part : Int} (hn : 0 ≤ n ∧ n ≤ 99) (hT : μ c 1 = T) (hTb : 1 ≤ T ∧ T ≤ 99) (hl : 0 ≤ last ∧ last ≤ 9999) (hf : ∀ x, 0 ≤ x → x ≤ 9999 → 0 ≤ f x ∧ f x ≤ 300000) (hW : ∀ x Q0, 0 ≤ x ∧ x ≤ 9999 → Q0 (0, f x) μ → MetP mX1_wantBy [(101, c), (0, x), (0, cnt), (0, rdy), (0, fs)] μ Q0)
    (hp : prev ≤ last) (hz : ∀ a b, prev < a → 0 ≤ a → a ≤ b → b ≤ last → f a ≤ f b) (hno : ∀ a, 0 ≤ a → a ≤ prev → f a < n) (hpart : 0 ≤ part ∧ part ≤ 2) (hq : ∀ y, LV f n y → Q (0, y) μ)
    (k : (∀ a, 0 ≤ a → a ≤ last → f a < n) → OkE mX1_leastValue 25 [(101, c), (0, n), (0, cnt), (0, rdy), (0, fs), (0, T / 10), (0, if part = 0 then T + T / 10 else 9999), (0, part + 1)] [] μ Q) : OkE mX1_leastValue 25 [(101, c), (0, n), (0, cnt), (0, rdy), (0, fs), (0, T / 10), (0, last), (0, part)] [] μ Q := by
  have hb := hf last hl.1 hl.2
  refine OkE.go snX1_leastValue [25] 100 ?_
  refine ⟨by omega, by omega, fun q => absurd q (by omega), fun _ => ?_⟩
  refine hW last _ hl ?_
  refine ⟨by omega, by omega, fun q => ?_, fun q => ?_⟩
  · have k1 := k (fun a p q2 => by
      rcases Int.lt_or_le prev a with h1 | h1
      · have := hz a last h1 p q2 (by omega)
        omega
      · exact hno a p h1)
    refine ⟨by omega, fun q3 => ?_, fun q3 => ?_⟩
    · rw [if_neg q3] at k1
      exact k1
    · rw [if_pos (by omega)] at k1
      intro x1 e1
      obtain rfl : x1 = T := e1.trans hT
      exact k1
  · refine qX1_leastUpTo hn hl hf hW (by omega) (fun a b p q2 q3 h1 => ?_) hq
    rcases Int.lt_or_le prev a with h2 | h2
    · have := hz a b h2 p q2 q3
      omega
    · have := hno a p h2
      omega
theorem qX1_leastValue {f : Int → Int} {cnt rdy fs T : Int} (hn : 0 ≤ n ∧ n ≤ 99) (hT : μ c 1 = T) (hTb : 1 ≤ T ∧ T ≤ 99) (hf : ∀ x, 0 ≤ x → x ≤ 9999 → 0 ≤ f x ∧ f x ≤ 300000) (hW : ∀ x Q0, 0 ≤ x ∧ x ≤ 9999 → Q0 (0, f x) μ → MetP mX1_wantBy [(101, c), (0, x), (0, cnt), (0, rdy), (0, fs)] μ Q0)
    (hz : ∀ a b, 0 ≤ a → a ≤ b → b ≤ 9999 → (b ≤ T - T / 10 - 1 ∨ (T - T / 10 ≤ a ∧ b ≤ T + T / 10) ∨ T + T / 10 + 1 ≤ a) → f a ≤ f b) (hq : ∀ y, LV f n y → Q (0, y) μ) : MetP mX1_leastValue [(101, c), (0, n), (0, cnt), (0, rdy), (0, fs)] μ Q := by
  have td : 0 ≤ T / 10 ∧ T / 10 ≤ 9 ∧ T / 10 < T := by omega
  refine MetP.go snX1_leastValue [25] 100 rfl rfl rfl rfl (fun _ => ?_)
  intro x1 e1
  obtain rfl : x1 = T := e1.trans hT
  refine qX4_cut (by omega) (by omega) ?_
  intro x2 e2
  obtain rfl : x2 = x1 := e2.trans hT
  refine qX1_lv_pass (prev := -1) (part := 0) hn hT hTb (by omega) hf hW (by omega) (fun a b p q q2 q3 => hz a b q q2 (by omega) (Or.inl (by omega))) (fun a p q => absurd p (by omega)) (by omega) hq (fun h0 => ?_)
  rw [if_pos rfl]
  refine qX1_lv_pass (prev := x2 - x2 / 10 - 1) (part := 0 + 1) hn hT hTb (by omega) hf hW (by omega) (fun a b p q q2 q3 => hz a b q q2 (by omega) (Or.inr (Or.inl (by omega)))) h0 (by omega) hq (fun h1 => ?_)
  rw [if_neg (by omega)]
  refine qX1_lv_pass (prev := x2 + x2 / 10) (part := 0 + 1 + 1) hn hT hTb (by omega) hf hW (by omega) (fun a b p q q2 q3 => hz a b q q2 (by omega) (Or.inr (Or.inr (by omega)))) h1 (by omega) hq (fun h2 => ?_)
  refine OkE.go snX1_leastValue [25] 100 ?_
  refine ⟨by omega, by omega, fun _ => ?_, fun q => absurd q (by omega)⟩
  exact hq _ (Or.inr ⟨rfl, h2⟩)
theorem qX5_needs (hmm : (0 ≤ s ∧ s < g 7) ∧ 0 ≤ m ∧ m < v s 9) (hn : I32 n) (bG : BG g) (hB : BV (v s)) (s4 : RwM ν 0 g v) (hO : ¬ (0 ≤ n ∧ n ≤ 99) → Q (0, -1000002) ν)
    (hq : 0 ≤ n ∧ n ≤ 99 → ∀ y, ((n ≤ bsN g (wakeV (v s)) m (v s 9).toNat ∧ y = 0) ∨ (¬ n ≤ bsN g (wakeV (v s)) m (v s 9).toNat ∧ LV (wantV g (wakeV (v s)) m) n y)) → Q (0, y) (wk ν 11 g (wakeTo v (g 7)) ν)) : MetP mX5_needs [(105, 0), (0, s), (0, m), (0, n)] ν Q := by
  have b7 := bG.2.2.2.2.2.2.2
  have b9 := BV_9 hB
  have e7 : ν 1 7 = g 7 := RwM_g s4 7 (by omega)
  have hBw := BV_wake hB
  have w9 : wakeV (v s) 9 = v s 9 := wake_ne (by omega) (by omega)
  have ew := wakeTo_s (v := v) (n := g 7) hmm.1
  unfold I32 at hn
  have r0 : RwM (wk ν 11 g (wakeTo v (g 7)) ν) 0 g v := RwM_eq s4 (fun i p q => by unfold wk; rw [if_neg (by omega), if_neg (by omega)])
  have WO : ∀ k x Q0, 0 ≤ k ∧ k < v s 9 → -1 ≤ x ∧ x ≤ 9999 → Q0 (0, wantV g (wakeV (v s)) k x) (wk ν 11 g (wakeTo v (g 7)) ν) → MetP mX5_wantOf [(105, 0), (0, 11), (0, s), (0, k), (0, x)] (wk ν 11 g (wakeTo v (g 7)) ν) Q0 := fun k x Q0 hk hx h0 =>
    qX5_wantOf (r := 11) (by omega) (by omega) bG (by rw [ew]; exact hBw) (by rw [ew, w9]; exact hk) hx (by rw [ew]; exact h0)
  have S : 0 ≤ n ∧ n ≤ 99 → ∀ (d : Nat) (x : Int) (z : PV), 0 ≤ x → x + d = 10000 → ¬ n ≤ bsN g (wakeV (v s)) m (v s 9).toNat → (∀ a, 0 ≤ a → a < x → wantV g (wakeV (v s)) m a < n) → OkE mX5_needs 113 [(105, 0), (0, s), (0, m), (0, n), (0, bsN g (wakeV (v s)) m (v s 9).toNat), (0, x), z] [] (wk ν 11 g (wakeTo v (g 7)) ν) Q := by
    intro ok d
    have hq := hq ok
    have bb := bsN_bd (g := g) (lf := m) hBw (v s 9).toNat (by rw [w9]; omega)
    generalize bsN g (wakeV (v s)) m (v s 9).toNat = O at hq bb ⊢
    induction d with
    | zero =>
      intro x z h0 hx ho ha
      refine OkE.go snX5_needs [113] 100 ?_
      refine ⟨by omega, by omega, fun _ => ?_, fun q => absurd q (by omega)⟩
      exact hq _ (Or.inr ⟨ho, Or.inr ⟨rfl, fun a p q => ha a p (by omega)⟩⟩)
    | succ d ih =>
      intro x z h0 hx ho ha
      have hb := wantV_bd (g := g) (m := m) (x := x) hBw (by rw [w9]; exact hmm.2) (by omega)
      refine OkE.go snX5_needs [113] 100 ?_
      refine ⟨by omega, by omega, fun q => absurd q (by omega), fun _ => ?_⟩
      refine WO m x _ hmm.2 (by omega) ?_
      refine ⟨by omega, by omega, fun q => ?_, fun q => ?_⟩
      · exact hq _ (Or.inr ⟨ho, Or.inl ⟨h0, by omega, q, ha⟩⟩)
      · refine ⟨by omega, by omega, fun q2 => ?_, fun q2 => absurd q2 (by omega)⟩
        refine ih (x + 1) _ (by omega) (by omega) ho (fun a p q3 => ?_)
        by_cases hax : a = x
        · subst hax; omega
        · exact ha a p (by omega)
  have L : 0 ≤ n ∧ n ≤ 99 → ∀ (d k : Nat) (i : Int) (z : PV), i = (k : Int) → (k : Int) + d = v s 9 → OkE mX5_needs 37 [(105, 0), (0, s), (0, m), (0, n), (0, bsN g (wakeV (v s)) m k), (0, i), z] [] (wk ν 11 g (wakeTo v (g 7)) ν) Q := by
    intro ok d
    induction d with
    | zero =>
      intro k i z hi hk
      have bb := bsN_bd (g := g) (lf := m) hBw k (by rw [w9]; omega)
      have ek : (v s 9).toNat = k := by omega
      refine OkE.go snX5_needs [37, 113] 100 ?_
      refine qX5_at ?_
      refine ⟨by omega, fun x1 e1 => ?_⟩
      obtain rfl : x1 = v s 9 := e1.trans (RwM_v r0 s 9 (by omega))
      refine ⟨by omega, by omega, fun _ => ?_, fun q => absurd q (by omega)⟩
      by_cases ho : n ≤ bsN g (wakeV (v s)) m k
      · refine OkE.go snX5_needs [] 100 ?_
        have hb := wantV_bd (g := g) (m := m) (x := 0) hBw (by rw [w9]; exact hmm.2) (by omega)
        refine ⟨by omega, by omega, fun q => absurd q (by omega), fun _ => ?_⟩
        refine WO m 0 _ hmm.2 (by omega) ?_
        have hq0 := hq ok 0 (Or.inl ⟨by rw [ek]; exact ho, rfl⟩)
        refine ⟨by omega, by omega, fun q => hq0, fun q => ?_⟩
        refine ⟨by omega, by omega, fun q2 => absurd q2 (by omega), fun q2 => hq0⟩
      · have := S ok 10000 0 z (by omega) (by omega) (by rw [ek]; exact ho) (fun a p q => absurd q (by omega))
        rw [ek] at this
        exact this
    | succ d ih =>
      intro k i z hi hk
      have bb := bsN_bd (g := g) (lf := m) hBw k (by rw [w9]; omega)
      have ev : wakeV (v s) (37 + 21 * (k : Int)) = v s (37 + 21 * (k : Int)) := wake_ne (by omega) (by omega)
      have en : bsN g (wakeV (v s)) m (k + 1) = if (k : Int) = m then bsN g (wakeV (v s)) m k else max (bsN g (wakeV (v s)) m k) (wantV g (wakeV (v s)) (k : Int) (v s (37 + 21 * (k : Int)))) := by
        show (if (k : Int) = m then _ else _) = _
        rw [ev]
      have J : ∀ z y : Int, (0 ≤ y ∧ y ≤ 300000) → bsN g (wakeV (v s)) m (k + 1) = max (bsN g (wakeV (v s)) m k) y → ∀ z, OkE mX5_needs 86 [(105, 0), (0, s), (0, m), (0, n), (0, bsN g (wakeV (v s)) m k), (0, i), z] [(0, y)] (wk ν 11 g (wakeTo v (g 7)) ν) Q := by
        intro _ y hy he z
        have i1 := ih (k + 1) (i + 1) (0, y) (by omega) (by omega)
        rw [he] at i1
        refine OkE.go snX5_needs [37] 100 ?_
        refine ⟨by omega, by omega, fun q => ?_, fun q => ?_⟩
        · rw [show max (bsN g (wakeV (v s)) m k) y = bsN g (wakeV (v s)) m k by omega] at i1
          exact i1
        · rw [show max (bsN g (wakeV (v s)) m k) y = y by omega] at i1
          exact i1
      refine OkE.go snX5_needs [37, 86, 113] 100 ?_
      refine qX5_at ?_
      refine ⟨by omega, fun x1 e1 => ?_⟩
      obtain rfl : x1 = v s 9 := e1.trans (RwM_v r0 s 9 (by omega))
      refine ⟨by omega, by omega, fun q => absurd q (by omega), fun _ => ?_⟩
      refine ⟨by omega, by omega, fun q => ?_, fun q => ?_⟩
      · refine qX5_atMeasure ?_
        refine ⟨by omega, fun x2 e2 => ?_⟩
        have ex : x2 = v s (37 + 21 * (k : Int)) := by
          refine e2.trans ((RwM_v r0 s (35 + 21 * i + 2) (by omega)).trans ?_)
          congr 1; omega
        obtain ⟨kb, tb, vb, pb⟩ := BV_m hB (m := (k : Int)) (by omega)
        have hb := wantV_bd (g := g) (m := (k : Int)) (x := v s (37 + 21 * (k : Int))) hBw (by rw [w9]; omega) vb
        refine WO i x2 _ (by omega) (by omega) ?_
        rw [ex]
        refine J 0 _ (by rw [hi]; exact hb) ?_ _
        rw [en, if_neg (by omega), hi]
      · refine J 0 0 (by omega) ?_ _
        rw [en, if_pos (by omega)]
        omega
  refine MetP.go snX5_needs [37] 100 rfl rfl rfl rfl (fun _ => ?_)
  have e9 : ν 1 (8 + 98 * s + 9) = v s 9 := (congrArg (ν 1) (by omega)).trans (RwM_v s4 s 9 (by omega))
  refine qX5_isMeasure (x := v s 9) (by unfold I32; omega) (by unfold I32; omega) (by omega) (fun q => ⟨e9, b9⟩) (fun _ _ => ?_) (fun q => absurd ⟨by omega, hmm.2⟩ q)
  refine ⟨by omega, fun _ => ?_, fun q => absurd q (by omega)⟩
  refine ⟨by omega, ?_⟩
  refine qX5_in (by omega) (by omega) (by omega) (fun q => ?_) (fun q => ?_)
  · refine ⟨by omega, fun _ => ?_, fun q => absurd q (by omega)⟩
    refine qX5_tries s4 b7 ?_
    exact L q (v s 9).toNat 0 0 _ (by omega) (by omega)
  · refine ⟨by omega, fun q => absurd rfl q, fun _ => ?_⟩
    exact hO q
theorem qX4_needs (hmm : (0 ≤ s ∧ s < g 7) ∧ 0 ≤ m ∧ m < v s 9) (hn : I32 n) (bG : BG g) (hB : BV (v s)) (s1 : μ 0 6 = 1) (s6 : RelH μ 3 g v) (hO : ¬ (0 ≤ n ∧ n ≤ 99) → Q (0, -1000002) μ)
    (hq : 0 ≤ n ∧ n ≤ 99 → ∀ y, ((n ≤ bsN g (wakeV (v s)) m (v s 9).toNat ∧ y = 0) ∨ (¬ n ≤ bsN g (wakeV (v s)) m (v s 9).toNat ∧ LV (wantV g (wakeV (v s)) m) n y)) → Q (0, y) μ) : MetP mX4_needs [(104, 0), (0, s), (0, m), (0, n)] μ Q := by
  have b7 := bG.2.2.2.2.2.2.2
  have b6 := bG.2.2.2.2.2.2.1
  have b1 := bG.2.1
  have b9 := BV_9 hB
  have d7 : μ 3 2 = g 7 := s6.1.2.1
  obtain ⟨⟨a1, a2, a3, a4⟩, a5⟩ := id s6
  have rs := a5 s hmm.1.1 hmm.1.2
  obtain ⟨r1, r2, r3, r4⟩ := rs.2.2.2.2.2.2.2.2.2 m hmm.2.1 hmm.2.2
  have hBw := BV_wake hB
  have w9 : wakeV (v s) 9 = v s 9 := wake_ne (by omega) (by omega)
  obtain ⟨kb, tb, vb, pb⟩ := BV_m hBw (m := m) (by rw [w9]; exact hmm.2)
  have ek : wakeV (v s) (35 + 21 * m) = v s (35 + 21 * m) := wake_ne (by omega) (by omega)
  have et : wakeV (v s) (36 + 21 * m) = v s (36 + 21 * m) := wake_ne (by omega) (by omega)
  have hc := cntV_bd hB
  have hcw := cntV_bd hBw
  have hcnt := rs.2.1.2.1
  have hf := foreV_bd (g := g) (h := g 1) pb
  have bb := bsN_bd (g := g) (lf := m) hBw (v s 9).toNat (by rw [w9]; omega)
  unfold I32 at hn
  refine MetP.go snX4_needs [] 100 rfl rfl rfl rfl (fun _ => ?_)
  have d9 : μ (6 + 12 * s) 2 = v s 9 := (congrArg (fun z => μ z 2) (show (6 + 12 * s : Int) = 3 + 2 + 1 + 12 * s by omega)).trans (s6.2 s hmm.1.1 hmm.1.2).2.1.1
  refine qX4_hasMeasure (x := v s 9) (by unfold I32; omega) (by unfold I32; omega) (Or.inr ⟨s1, by omega⟩) (fun _ q => ⟨d9, b9⟩) (fun _ _ _ => ?_) (fun q => absurd ⟨s1, by omega, hmm.2⟩ q)
  refine ⟨by omega, fun _ => ?_, fun q => absurd q (by omega)⟩
  refine ⟨by omega, fun q => ?_, fun q2 => ?_⟩
  · exact hO (by omega)
  refine ⟨by omega, by omega, fun q3 => ?_, fun q => ?_⟩
  · have hq := hq (by omega)
    refine ⟨by omega, ?_⟩
    refine ⟨by omega, ?_⟩
    refine qX0_wantBeside s6.1 bG rs hB (by omega) ?_
    refine ⟨by omega, by omega, fun q4 => ?_, fun q4 => ?_⟩
    · intro x1 e1
      obtain rfl : x1 = g 6 := e1.trans a4
      refine ⟨by omega, fun x2 e2 => ?_⟩
      obtain rfl : x2 = g 1 := e2.trans (a1 1 (by omega) (by omega))
      refine ⟨by omega, fun x3 e3 => ?_⟩
      obtain rfl : x3 = g 4 := e3.trans (a1 4 (by omega) (by omega))
      refine qX1_foresee (u := wakeV (v s)) (m := m) bG (by omega) pb (fun k p1 p2 p3 => ?_) ?_
      · rw [wake_ne (by omega) (by omega)]
        exact r4 k p1 p2 p3
      intro x4 e4
      obtain rfl : x4 = cntV (v s) := e4.trans hcnt
      intro x5 e5
      obtain rfl : x5 = g 6 := e5.trans a4
      refine qX2_readyIn b6 rs ?_
      refine qX1_leastValue (f := wantV g (wakeV (v s)) m) (T := wakeV (v s) (36 + 21 * m)) (by omega) (r2.trans et.symm) tb (fun x p q => wantV_bd hBw (by rw [w9]; exact hmm.2) (by omega)) (fun x Q0 hx h0 => ?_) (fun a b p1 p2 p3 p4 => want_mono hBw (by rw [w9]; exact hmm.2) rfl p1 p2 p3 p4) (fun y hy => hq y (Or.inr ⟨by omega, hy⟩))
      exact qX1_wantBy (g := g) (u := wakeV (v s)) (m := m) (r1.trans ek.symm) (r2.trans et.symm) kb tb (by omega) wake_10.symm (by rw [← wake_10]; omega) cnt_wake.symm (by omega) (fun _ => rfl) hf h0
    · exact hq 0 (Or.inl ⟨by omega, rfl⟩)
  · exact hO (by omega)
theorem ag_needs (hs : I32 s) (hm : I32 m) (hn0 : I32 n) (h : REL N μ ν) : MetP mX5_needs [(105, 0), (0, s), (0, m), (0, n)] ν (fun b ν' => MetP mX4_needs [(104, 0), (0, s), (0, m), (0, n)] μ (fun a μ' => a = b ∧ REL N μ' ν')) := by
  obtain ⟨hT, hn, hst⟩ := id h
  rcases hst with ⟨s1, s2⟩ | ⟨s1, t, g, v, ht, s2, s3, s4, s5, s6, s7⟩
  · refine MetP.go snX5_needs [] 100 rfl rfl rfl rfl (fun _ => ?_)
    refine qX5_isMeasure (x := 0) hs hm (by omega) (fun q => absurd q (by omega)) (fun q => absurd q (by omega)) (fun q => ?_)
    refine ⟨by omega, fun q => absurd rfl q, fun q => ?_⟩
    refine MetP.go snX4_needs [] 100 rfl rfl rfl rfl (fun _ => ?_)
    refine qX4_hasMeasure (x := 0) hs hm (Or.inl s1) (fun q => absurd q (by omega)) (fun q => absurd q (by omega)) (fun q => ?_)
    refine ⟨by omega, fun q => absurd rfl q, fun q => ?_⟩
    exact ⟨rfl, h⟩
  · obtain ⟨bG, b6, bV⟩ := id s5
    have b7 := bG.2.2.2.2.2.2.2
    have e7 : ν 1 7 = g 7 := RwM_g s4 7 (by omega)
    have d7 : μ 3 2 = g 7 := s6.1.2.1
    by_cases hmm : (0 ≤ s ∧ s < g 7) ∧ 0 ≤ m ∧ m < v s 9
    · refine qX5_needs hmm hn0 bG (bV s hmm.1.1 hmm.1.2) s4 (fun no => ?_) (fun ok y hy => ?_)
      · exact qX4_needs hmm hn0 bG (bV s hmm.1.1 hmm.1.2) s1 s6 (fun _ => ⟨rfl, h⟩) (fun ok => absurd ok no)
      · refine qX4_needs hmm hn0 bG (bV s hmm.1.1 hmm.1.2) s1 s6 (fun no => absurd ok no) (fun _ z hz => ?_)
        have e : z = y := by
          rcases hy with ⟨a1, a2⟩ | ⟨a1, a2⟩
          · rcases hz with ⟨c1, c2⟩ | ⟨c1, c2⟩
            · omega
            · exact absurd a1 c1
          · rcases hz with ⟨c1, c2⟩ | ⟨c1, c2⟩
            · exact absurd c1 a1
            · exact LV_uni c2 a2
        rw [e]
        exact ⟨rfl, h.wk11 (fun _ _ _ => rfl)⟩
    · have e9 : 0 ≤ s ∧ s < g 7 → ν 1 (8 + 98 * s + 9) = v s 9 := fun q => (congrArg (ν 1) (by omega)).trans (RwM_v s4 s 9 (by omega))
      have d9 : 0 ≤ s ∧ s < g 7 → μ (6 + 12 * s) 2 = v s 9 := fun q => (congrArg (fun z => μ z 2) (show (6 + 12 * s : Int) = 3 + 2 + 1 + 12 * s by omega)).trans (s6.2 s q.1 q.2).2.1.1
      refine MetP.go snX5_needs [] 100 rfl rfl rfl rfl (fun _ => ?_)
      refine qX5_isMeasure (x := v s 9) hs hm (by omega) (fun q => ?_) (fun q1 q2 => absurd ⟨by omega, q2⟩ hmm) (fun q => ?_)
      · rw [e7] at q; exact ⟨e9 q, BV_9 (bV s q.1 q.2)⟩
      refine ⟨by omega, fun q => absurd rfl q, fun q => ?_⟩
      refine MetP.go snX4_needs [] 100 rfl rfl rfl rfl (fun _ => ?_)
      refine qX4_hasMeasure (x := v s 9) hs hm (Or.inr ⟨s1, by omega⟩) (fun _ q => ?_) (fun _ q3 q4 => absurd ⟨by omega, q4⟩ hmm) (fun q => ?_)
      · rw [d7] at q; exact ⟨d9 q, BV_9 (bV s q.1 q.2)⟩
      refine ⟨by omega, fun q => absurd rfl q, fun q => ?_⟩
      exact ⟨rfl, h⟩
end T68
