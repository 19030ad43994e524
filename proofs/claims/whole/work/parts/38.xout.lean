/-! counting -/
def cntB (b : Int → Bool) : Nat → Int
  | 0 => 0
  | k + 1 => cntB b k + (if b (k : Int) = true then 1 else 0)
theorem cntB_congr {b b' : Int → Bool} : ∀ n : Nat, (∀ k, 0 ≤ k → k < (n : Int) → b k = b' k) → cntB b n = cntB b' n
  | 0, _ => rfl
  | n + 1, h => by
    unfold cntB
    rw [cntB_congr n (fun k p q => h k p (by omega)), h (n : Int) (by omega) (by omega)]
theorem cntB_mono {b b' : Int → Bool} : ∀ n : Nat, (∀ k, 0 ≤ k → k < (n : Int) → b k = true → b' k = true) → cntB b n ≤ cntB b' n
  | 0, _ => by show (0 : Int) ≤ 0; omega
  | n + 1, h => by
    have h1 := cntB_mono n (fun k p q => h k p (by omega))
    have h2 := h (n : Int) (by omega) (by omega)
    unfold cntB
    by_cases hb : b (n : Int) = true
    · rw [if_pos hb, if_pos (h2 hb)]; omega
    · rw [if_neg hb]; split <;> omega
theorem cntB_insert {b b' : Int → Bool} {f : Int} (hf : b f = false) (hf' : b' f = true) : ∀ n : Nat, (∀ k, 0 ≤ k → k < (n : Int) → k ≠ f → b' k = b k) → cntB b' n = cntB b n + (if 0 ≤ f ∧ f < (n : Int) then 1 else 0)
  | 0, _ => by rw [if_neg (by omega)]; rfl
  | n + 1, h => by
    have h1 := cntB_insert hf hf' n (fun k p q => h k p (by omega))
    unfold cntB
    rw [h1]
    by_cases hn : f = (n : Int)
    · rw [← hn, hf, hf', if_neg (by omega)]
      simp
      omega
    · rw [h (n : Int) (by omega) (by omega) (fun e => hn e.symm)]
      by_cases hq : 0 ≤ f ∧ f < (n : Int)
      · rw [if_pos hq, if_pos (show 0 ≤ f ∧ f < ((n + 1 : Nat) : Int) by omega)]; omega
      · rw [if_neg hq, if_neg (show ¬ (0 ≤ f ∧ f < ((n + 1 : Nat) : Int)) by omega)]; omega
theorem plN_cntB (v W : Mem) (s : Int) : ∀ n : Nat, plN v W s n = cntB (fun k => aheadN v W k s) n
  | 0 => rfl
  | n + 1 => by
    unfold plN cntB
    rw [plN_cntB v W s n]
theorem inN_none {x : GS} {t : Int} : ∀ k : Nat, (∀ s, 0 ≤ s → s < (k : Int) → x.2.2 7 s ≠ t) → inN t k x = x
  | 0, _ => rfl
  | k + 1, h => by
    have h1 := inN_none (x := x) (t := t) k (fun s p q => h s p (by omega))
    unfold inN
    rw [h1, if_neg (h (k : Int) (by omega) (by omega))]
theorem inN_single {x : GS} {t f : Int} (hf0 : 0 ≤ f) (hf : x.2.2 7 f = t) : ∀ k : Nat, f < (k : Int) → (∀ s, 0 ≤ s → s < (k : Int) → x.2.2 7 s = t → s = f) → inN t k x = gone x f
  | 0, h, _ => absurd h (by omega)
  | k + 1, h, hu => by
    by_cases he : f = (k : Int)
    · have h1 := inN_none (x := x) (t := t) k (fun s p q e => by have := hu s p (by omega) e; omega)
      unfold inN
      rw [h1, ← he, if_pos hf]
    · have h1 := inN_single hf0 hf k (by omega) (fun s p q e => hu s p (by omega) e)
      unfold inN
      rw [h1, (gone_keep x f).2.1 7 (by omega), if_neg (fun e => he (hu (k : Int) (by omega) (by omega) e).symm)]
/-- the class's own step at turn t: which service, and that it is the model's -/
theorem turn_of {v W : Mem} {n t : Int} {f : Int} (hn : 0 ≤ n) (ht : 0 ≤ t) (hd : ∀ s, 0 ≤ s → s < n → 0 ≤ W 6 s)
    (hK : cntB (fun s => decide (0 ≤ placeK v W s n.toNat ∧ placeK v W s n.toNat < t)) n.toNat = t)
    (hO : ∀ k s, 0 ≤ k → k < n → 0 ≤ s → s < n → (0 ≤ placeK v W k n.toNat ∧ placeK v W k n.toNat < t) → W 6 s < W 5 s → ¬ (placeK v W s n.toNat < t) → ahd (fun s => v s 2) (W 6) (W 5) k s)
    (hf : 0 ≤ f ∧ f < n) (hfw : W 6 f < W 5 f) (hfu : ¬ placeK v W f n.toNat < t) (hmin : ∀ s, 0 ≤ s → s < n → ¬ placeK v W s n.toNat < t → W 6 s < W 5 s → s ≠ f → ahd (fun s => v s 2) (W 6) (W 5) f s) :
    placeK v W f n.toNat = t ∧ (∀ s, 0 ≤ s → s < n → placeK v W s n.toNat = t → s = f) ∧ cntB (fun s => decide (0 ≤ placeK v W s n.toNat ∧ placeK v W s n.toNat < t + 1)) n.toNat = t + 1 ∧ (∀ k s, 0 ≤ k → k < n → 0 ≤ s → s < n → (0 ≤ placeK v W k n.toNat ∧ placeK v W k n.toNat < t + 1) → W 6 s < W 5 s → ¬ (placeK v W s n.toNat < t + 1) → ahd (fun s => v s 2) (W 6) (W 5) k s) := by
  have hneed : ∀ s, 0 ≤ placeK v W s n.toNat → W 6 s < W 5 s := by
    intro s hp
    rcases Int.lt_or_le (W 6 s) (W 5 s) with q | q
    · exact q
    · unfold placeK at hp
      rw [if_neg (by omega)] at hp
      omega
  have hpk : ∀ s, W 6 s < W 5 s → placeK v W s n.toNat = cntB (fun k => aheadN v W k s) n.toNat := by
    intro s hs
    unfold placeK
    rw [if_pos hs, plN_cntB]
  have hah : ∀ k s, W 6 k < W 5 k → k ≠ s → ahd (fun s => v s 2) (W 6) (W 5) k s → aheadN v W k s = true := by
    intro k s h1 h2 h3
    unfold aheadN
    simp only [Bool.and_eq_true, decide_eq_true_eq]
    exact ⟨h2, h1, ahdB_iff.mpr h3⟩
  have hah2 : ∀ k s, aheadN v W k s = true → k ≠ s ∧ W 6 k < W 5 k ∧ ahd (fun s => v s 2) (W 6) (W 5) k s := by
    intro k s h
    unfold aheadN at h
    simp only [Bool.and_eq_true, decide_eq_true_eq] at h
    exact ⟨h.1, h.2.1, ahdB_iff.mp h.2.2⟩
  have hP : placeK v W f n.toNat = t := by
    rw [hpk f hfw, ← hK]
    refine cntB_congr _ (fun k p q => ?_)
    by_cases hk : 0 ≤ placeK v W k n.toNat ∧ placeK v W k n.toNat < t
    · rw [decide_eq_true hk]
      refine hah k f (hneed k hk.1) ?_ (hO k f p (by omega) hf.1 hf.2 hk hfw hfu)
      rintro rfl
      exact hfu hk.2
    · rw [decide_eq_false hk]
      cases ha : aheadN v W k f with
      | false => rfl
      | true =>
        exfalso
        obtain ⟨a1, a2, a3⟩ := hah2 k f ha
        have hk0 : 0 ≤ placeK v W k n.toNat := by
          unfold placeK
          rw [if_pos a2]
          exact (plN_bd v W k _).1
        exact ahd_asym a3 (hmin k p (by omega) (by omega) a2 a1)
  have huniq : ∀ s, 0 ≤ s → s < n → placeK v W s n.toNat = t → s = f := by
    intro s p q hs
    by_cases hsf : s = f
    · exact hsf
    · exfalso
      have hsw := hneed s (by omega)
      have h1 := cntB_insert (b := fun s => decide (0 ≤ placeK v W s n.toNat ∧ placeK v W s n.toNat < t)) (b' := fun k => decide (k = f) || decide (0 ≤ placeK v W k n.toNat ∧ placeK v W k n.toNat < t)) (f := f) (by simp; omega) (by simp) n.toNat (fun k p q hne => by simp [hne])
      rw [if_pos (by omega), hK] at h1
      have h2 := cntB_mono (b := fun k => decide (k = f) || decide (0 ≤ placeK v W k n.toNat ∧ placeK v W k n.toNat < t)) (b' := fun k => aheadN v W k s) n.toNat (fun k p2 q2 hb => by
        simp only [Bool.or_eq_true, decide_eq_true_eq] at hb
        rcases hb with rfl | hb
        · exact hah _ s hfw (fun e => hsf e.symm) (hmin s p q (by omega) hsw hsf)
        · exact hah k s (hneed k hb.1) (by rintro rfl; omega) (hO k s p2 (by omega) p q hb hsw (by omega)))
      rw [← hpk s hsw] at h2
      omega
  refine ⟨hP, huniq, ?_, ?_⟩
  · have h1 := cntB_insert (b := fun s => decide (0 ≤ placeK v W s n.toNat ∧ placeK v W s n.toNat < t)) (b' := fun s => decide (0 ≤ placeK v W s n.toNat ∧ placeK v W s n.toNat < t + 1)) (f := f) (by simp; omega) (by simp; omega) n.toNat (fun k p q hne => by
      have hkt : placeK v W k n.toNat ≠ t := fun e => hne (huniq k p (by omega) e)
      by_cases hk : 0 ≤ placeK v W k n.toNat ∧ placeK v W k n.toNat < t
      · rw [decide_eq_true hk, decide_eq_true (by omega)]
      · rw [decide_eq_false hk, decide_eq_false (by omega)])
    rw [h1, hK, if_pos (by omega)]
  · intro k s p1 p2 p3 p4 hk hsw hsu
    by_cases hkt : placeK v W k n.toNat = t
    · have := huniq k p1 p2 hkt
      subst this
      exact hmin s p3 p4 (by omega) hsw (by rintro rfl; omega)
    · exact hO k s p1 p2 p3 p4 (by omega) hsw (by omega)
