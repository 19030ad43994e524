/-! READING, purely: the house -/
def hdP (B : Int → Int) (n : Int) : Nat → PS
  | 0 => pSg B n 104 (0, 0, fun _ => 0, fun _ _ => 0)
  | i + 1 => pSg B n (if i = 4 then 59 else 44) (pNx (pG B n (i : Int) (pCk B n (stV 0 (i : Int)) (stV 1 (i : Int)) (hdP B n i))))
def pX (B : Int → Int) (n s : Int) (i : Nat) (S : PS) : PS := if S.1 = 0 then (if i = 1 ∧ num B n S.2.1 < S.2.2.2 s 0 then (2, S.2) else if i = 0 ∧ S.2.2.1 0 < sumI (fun s => S.2.2.2 s 0) (S.2.2.1 7) then (4, S.2) else S) else S
def svN (B : Int → Int) (n s : Int) (S0 : PS) : Nat → PS
  | 0 => S0
  | i + 1 => pSg B n (if i = 8 then 59 else 44) (pNx (pX B n s i (pV B n s (i : Int) (pCk B n (stV 2 (i : Int)) (stV 3 (i : Int)) (svN B n s S0 i)))))
def svB (B : Int → Int) (n s : Int) (S : PS) : PS := if (pSg B n 115 S).1 = 0 then (0, (pSg B n 115 S).2.1, upg S.2.2.1 7 (s + 1), S.2.2.2) else pSg B n 115 S
def pRd (s : Int) (S : PS) : PS := if S.1 = 0 then (0, S.2.1, S.2.2.1, upm S.2.2.2 s 10 (S.2.2.2 s 0)) else S
def pM0 (B : Int → Int) (n s m : Int) (S : PS) : PS := (0, S.2.1 + 1, S.2.2.1, upm (upm (upm S.2.2.2 s 9 (m + 1)) s (35 + 21 * m + 0) (kd (tok B n S.2.1))) s (35 + 21 * m + 2) (-1))
def pMs (B : Int → Int) (n s m : Int) (S : PS) : PS := if S.1 = 0 ∧ kd (tok B n S.2.1) ≠ 0 then pSg B n 59 (pNx (pV B n s (35 + 21 * m + 1) (pCk B n 1 99 (pM0 B n s m S)))) else S
def pM3 (B : Int → Int) (n : Int) (S : PS) : PS := if S.1 = 0 ∧ kd (tok B n S.2.1) ≠ 0 then (3, S.2) else S
def pMN (B : Int → Int) (n s : Int) (S : PS) : Nat → PS
  | 0 => S
  | m + 1 => pMs B n s (m : Int) (pMN B n s S m)
def svP (B : Int → Int) (n s : Int) (S : PS) : PS := pM3 B n (pMN B n s (pRd s (svN B n s (svB B n s S) 9)) 3)
def pnx (B : Int → Int) (n s : Int) (S : PS) : PS := if S.1 = 0 ∧ tok B n S.2.1 ≠ -1 then svP B n s S else S
def pfi (B : Int → Int) (n : Int) (S : PS) : PS := if S.1 = 0 ∧ tok B n S.2.1 ≠ -1 then ((if tok B n S.2.1 = 115 then 3 else 1), S.2) else S
def P1 (B : Int → Int) (n : Int) : PS := svP B n 0 (hdP B n 5)
def P2 (B : Int → Int) (n : Int) : PS := pnx B n 1 (P1 B n)
def P3 (B : Int → Int) (n : Int) : PS := pnx B n 2 (P2 B n)
def P4 (B : Int → Int) (n : Int) : PS := pnx B n 3 (P3 B n)
def P5 (B : Int → Int) (n : Int) : PS := pfi B n (P4 B n)
section T78
variable {B : Int → Int} {n p q e x c lo hi s m w : Int} {S : PS} {i k : Nat}
-- what a good end says of the steps before
theorem iv_sg (h : (pSg B n c S).1 = 0) : S.1 = 0 ∧ tok B n S.2.1 = c ∧ pSg B n c S = (0, S.2.1 + 1, S.2.2) := by
  unfold pSg at h ⊢
  by_cases hs : S.1 = 0
  · rw [if_pos hs] at h ⊢
    by_cases ht : tok B n S.2.1 = c
    · rw [if_pos ht]; exact ⟨hs, ht, rfl⟩
    · rw [if_neg ht] at h; exact absurd h (by show ¬ (1 : Int) = 0; omega)
  · rw [if_neg hs] at h; exact absurd h hs
theorem iv_nx (h : (pNx S).1 = 0) : S.1 = 0 ∧ pNx S = (0, S.2.1 + 1, S.2.2) := by
  unfold pNx at h ⊢
  by_cases hs : S.1 = 0
  · rw [if_pos hs]; exact ⟨hs, rfl⟩
  · rw [if_neg hs] at h; exact absurd h hs
theorem iv_ck (h : (pCk B n lo hi S).1 = 0) : S.1 = 0 ∧ tok B n S.2.1 = -2 ∧ (lo ≤ num B n S.2.1 ∧ num B n S.2.1 ≤ hi) ∧ pCk B n lo hi S = S := by
  unfold pCk at h ⊢
  by_cases hs : S.1 = 0
  · rw [if_pos hs] at h ⊢
    by_cases ht : tok B n S.2.1 = -2
    · rw [if_pos ht] at h ⊢
      by_cases hn : lo ≤ num B n S.2.1 ∧ num B n S.2.1 ≤ hi
      · rw [if_pos hn]; exact ⟨hs, ht, hn, rfl⟩
      · rw [if_neg hn] at h; exact absurd h (by show ¬ (2 : Int) = 0; omega)
    · rw [if_neg ht] at h; exact absurd h (by show ¬ (1 : Int) = 0; omega)
  · rw [if_neg hs] at h; exact absurd h hs
theorem iv_G (h : (pG B n x S).1 = 0) : S.1 = 0 ∧ pG B n x S = (0, S.2.1, upg S.2.2.1 x (num B n S.2.1), S.2.2.2) := by
  unfold pG at h ⊢
  by_cases hs : S.1 = 0
  · rw [if_pos hs]; exact ⟨hs, rfl⟩
  · rw [if_neg hs] at h; exact absurd h hs
theorem iv_V (h : (pV B n s w S).1 = 0) : S.1 = 0 ∧ pV B n s w S = (0, S.2.1, S.2.2.1, upm S.2.2.2 s w (num B n S.2.1)) := by
  unfold pV at h ⊢
  by_cases hs : S.1 = 0
  · rw [if_pos hs]; exact ⟨hs, rfl⟩
  · rw [if_neg hs] at h; exact absurd h hs
theorem iv_X (h : (pX B n s i S).1 = 0) : S.1 = 0 ∧ ¬ (i = 1 ∧ num B n S.2.1 < S.2.2.2 s 0) ∧ ¬ (i = 0 ∧ S.2.2.1 0 < sumI (fun s => S.2.2.2 s 0) (S.2.2.1 7)) ∧ pX B n s i S = S := by
  unfold pX at h ⊢
  by_cases hs : S.1 = 0
  · rw [if_pos hs] at h ⊢
    by_cases h1 : i = 1 ∧ num B n S.2.1 < S.2.2.2 s 0
    · rw [if_pos h1] at h; exact absurd h (by show ¬ (2 : Int) = 0; omega)
    · rw [if_neg h1] at h ⊢
      by_cases h2 : i = 0 ∧ S.2.2.1 0 < sumI (fun s => S.2.2.2 s 0) (S.2.2.1 7)
      · rw [if_pos h2] at h; exact absurd h (by show ¬ (4 : Int) = 0; omega)
      · rw [if_neg h2]; exact ⟨hs, h1, h2, rfl⟩
  · rw [if_neg hs] at h; exact absurd h hs
-- once wrong, nothing happens
theorem bd_sg (h : S.1 ≠ 0) : pSg B n c S = S := by unfold pSg; rw [if_neg h]
theorem bd_nx (h : S.1 ≠ 0) : pNx S = S := by unfold pNx; rw [if_neg h]
theorem bd_ck (h : S.1 ≠ 0) : pCk B n lo hi S = S := by unfold pCk; rw [if_neg h]
theorem bd_G (h : S.1 ≠ 0) : pG B n x S = S := by unfold pG; rw [if_neg h]
theorem bd_V (h : S.1 ≠ 0) : pV B n s w S = S := by unfold pV; rw [if_neg h]
theorem bd_X (h : S.1 ≠ 0) : pX B n s i S = S := by unfold pX; rw [if_neg h]
theorem bd_hd (h : (hdP B n i).1 ≠ 0) : hdP B n (i + 1) = hdP B n i := by
  show pSg B n _ (pNx (pG B n _ (pCk B n _ _ (hdP B n i)))) = _
  rw [bd_ck h, bd_G h, bd_nx h, bd_sg h]
theorem bd_hdN (h : (hdP B n i).1 ≠ 0) : ∀ d : Nat, hdP B n (i + d) = hdP B n i
  | 0 => rfl
  | d + 1 => by
    have ih := bd_hdN h d
    show hdP B n (i + d + 1) = _
    rw [bd_hd (by rw [ih]; exact h), ih]
theorem bd_svN {S0 : PS} (h : (svN B n s S0 i).1 ≠ 0) : svN B n s S0 (i + 1) = svN B n s S0 i := by
  show pSg B n _ (pNx (pX B n s i (pV B n s _ (pCk B n _ _ (svN B n s S0 i))))) = _
  rw [bd_ck h, bd_V h, bd_X h, bd_nx h, bd_sg h]
theorem bd_svNN {S0 : PS} (h : (svN B n s S0 i).1 ≠ 0) : ∀ d : Nat, svN B n s S0 (i + d) = svN B n s S0 i
  | 0 => rfl
  | d + 1 => by
    have ih := bd_svNN h d
    show svN B n s S0 (i + d + 1) = _
    rw [bd_svN (by rw [ih]; exact h), ih]
theorem bd_Rd (h : S.1 ≠ 0) : pRd s S = S := by unfold pRd; rw [if_neg h]
theorem st_Ms (h : ¬ (S.1 = 0 ∧ kd (tok B n S.2.1) ≠ 0)) : pMs B n s m S = S := by unfold pMs; rw [if_neg h]
theorem st_MN (h : ¬ ((pMN B n s S i).1 = 0 ∧ kd (tok B n (pMN B n s S i).2.1) ≠ 0)) : ∀ d : Nat, pMN B n s S (i + d) = pMN B n s S i
  | 0 => rfl
  | d + 1 => by
    have ih := st_MN h d
    show pMs B n s _ (pMN B n s S (i + d)) = _
    rw [ih, st_Ms h]
theorem st_M3 (h : ¬ (S.1 = 0 ∧ kd (tok B n S.2.1) ≠ 0)) : pM3 B n S = S := by unfold pM3; rw [if_neg h]
theorem st_nx (h : ¬ (S.1 = 0 ∧ tok B n S.2.1 ≠ -1)) : pnx B n s S = S := by unfold pnx; rw [if_neg h]
theorem st_fi (h : ¬ (S.1 = 0 ∧ tok B n S.2.1 ≠ -1)) : pfi B n S = S := by unfold pfi; rw [if_neg h]
theorem bd_svP_B (h : (svB B n s S).1 ≠ 0) : svP B n s S = svB B n s S := by
  have e : svN B n s (svB B n s S) 9 = svB B n s S := bd_svNN (i := 0) h 9
  unfold svP
  rw [e, bd_Rd h]
  have h2 : ¬ ((pMN B n s (svB B n s S) 0).1 = 0 ∧ kd (tok B n (pMN B n s (svB B n s S) 0).2.1) ≠ 0) := fun q => h q.1
  have e2 : pMN B n s (svB B n s S) 3 = svB B n s S := st_MN (i := 0) h2 3
  rw [e2, st_M3 (fun q => h q.1)]
theorem bd_svP_N (h : (svN B n s (svB B n s S) 9).1 ≠ 0) : svP B n s S = svN B n s (svB B n s S) 9 := by
  unfold svP
  rw [bd_Rd h]
  have h2 : ¬ ((pMN B n s (svN B n s (svB B n s S) 9) 0).1 = 0 ∧ kd (tok B n (pMN B n s (svN B n s (svB B n s S) 9) 0).2.1) ≠ 0) := fun q => h q.1
  have e2 : pMN B n s (svN B n s (svB B n s S) 9) 3 = svN B n s (svB B n s S) 9 := st_MN (i := 0) h2 3
  rw [e2, st_M3 (fun q => h q.1)]
theorem kd_bd (c : Int) : 0 ≤ kd c ∧ kd c ≤ 4 := by
  unfold kd
  split
  · omega
  · split
    · omega
    · split
      · omega
      · split <;> omega
end T78
/-- bounds while a house is read -/
def HBd (g : Int → Int) : Prop := (1 ≤ g 0 ∧ g 0 ≤ 60) ∧ (1 ≤ g 1 ∧ g 1 ≤ 6) ∧ (0 ≤ g 2 ∧ g 2 ≤ 9) ∧ (0 ≤ g 3 ∧ g 3 ≤ 3) ∧ (2 ≤ g 4 ∧ g 4 ≤ 6) ∧ g 5 = 0 ∧ g 6 = 0
def HI (i : Int) (S : PS) : Prop := S.1 = 0 → (∀ j, 0 ≤ j → j < i → stV 0 j ≤ S.2.2.1 j ∧ S.2.2.1 j ≤ stV 1 j) ∧ (∀ j, i ≤ j → S.2.2.1 j = 0) ∧ ∀ s w, S.2.2.2 s w = 0
/-- s services are read -/
def ZI (s : Int) (S : PS) : Prop := S.1 = 0 → HBd S.2.2.1 ∧ S.2.2.1 7 = s ∧ (∀ s', 0 ≤ s' → s' < s → BV (S.2.2.2 s') ∧ FRS (S.2.2.2 s')) ∧ ∀ s' w, s ≤ s' → S.2.2.2 s' w = 0
/-- of service s, i numbers -/
def NI (s i : Int) (S : PS) : Prop := S.1 = 0 → HBd S.2.2.1 ∧ S.2.2.1 7 = s + 1 ∧ (∀ s', 0 ≤ s' → s' < s → BV (S.2.2.2 s') ∧ FRS (S.2.2.2 s')) ∧ (∀ s' w, s < s' → S.2.2.2 s' w = 0) ∧ (∀ j, 0 ≤ j → j < i → stV 2 j ≤ S.2.2.2 s j ∧ S.2.2.2 s j ≤ stV 3 j) ∧ (2 ≤ i → S.2.2.2 s 0 ≤ S.2.2.2 s 1) ∧ ∀ j, i ≤ j → S.2.2.2 s j = 0
/-- of service s, m measures -/
def MI (s m : Int) (S : PS) : Prop := S.1 = 0 → HBd S.2.2.1 ∧ S.2.2.1 7 = s + 1 ∧ (∀ s', 0 ≤ s' → s' < s → BV (S.2.2.2 s') ∧ FRS (S.2.2.2 s')) ∧ (∀ s' w, s < s' → S.2.2.2 s' w = 0) ∧ (∀ j, 0 ≤ j → j < 9 → stV 2 j ≤ S.2.2.2 s j ∧ S.2.2.2 s j ≤ stV 3 j) ∧ S.2.2.2 s 0 ≤ S.2.2.2 s 1 ∧ S.2.2.2 s 9 = m ∧ S.2.2.2 s 10 = S.2.2.2 s 0 ∧ (∀ j, 11 ≤ j → j ≤ 34 → S.2.2.2 s j = 0) ∧ (∀ m', 0 ≤ m' → m' < m → (1 ≤ S.2.2.2 s (35 + 21 * m') ∧ S.2.2.2 s (35 + 21 * m') ≤ 4) ∧ (1 ≤ S.2.2.2 s (36 + 21 * m') ∧ S.2.2.2 s (36 + 21 * m') ≤ 99) ∧ S.2.2.2 s (37 + 21 * m') = -1 ∧ ∀ k, 0 ≤ k → k < 18 → S.2.2.2 s (38 + 21 * m' + k) = 0) ∧ ∀ j, 35 + 21 * m ≤ j → S.2.2.2 s j = 0
section T78b
variable {B : Int → Int} {n p q e x c lo hi s m w : Int} {S : PS} {i k : Nat}
theorem HI_0 : HI 0 (hdP B n 0) := by
  intro h
  obtain ⟨-, -, e⟩ := iv_sg (S := (0, 0, fun _ => 0, fun _ _ => 0)) h
  have e' : hdP B n 0 = (0, 0 + 1, fun _ => 0, fun _ _ => 0) := e
  rw [e']
  exact ⟨fun j p q => absurd q (by omega), fun _ _ => rfl, fun _ _ => rfl⟩
theorem HI_s (h : HI (i : Int) (hdP B n i)) : HI ((i : Int) + 1) (hdP B n (i + 1)) := by
  intro hz
  obtain ⟨z1, z2, z3⟩ := iv_sg hz
  obtain ⟨y1, y2⟩ := iv_nx z1
  obtain ⟨x1, x2⟩ := iv_G y1
  obtain ⟨w1, w2, w3, w4⟩ := iv_ck x1
  obtain ⟨a1, a2, a3⟩ := h w1
  have e : (hdP B n (i + 1)).2.2 = (upg (hdP B n i).2.2.1 (i : Int) (num B n (hdP B n i).2.1), (hdP B n i).2.2.2) := by
    show (pSg B n _ _).2.2 = _
    rw [z3, y2, x2, w4]
  rw [e]
  refine ⟨fun j p q => ?_, fun j p => ?_, a3⟩
  · by_cases hj : j = (i : Int)
    · subst hj; dsimp only; rw [upg_at]; exact w3
    · dsimp only; rw [upg_ne hj]; exact a1 j p (by omega)
  · dsimp only; rw [upg_ne (by omega)]; exact a2 j (by omega)
theorem HI_all : ∀ i : Nat, HI (i : Int) (hdP B n i)
  | 0 => HI_0
  | i + 1 => by
    have := HI_s (HI_all i)
    rw [show ((i + 1 : Nat) : Int) = (i : Int) + 1 by omega]
    exact this
theorem ZI_hd : ZI 0 (hdP B n 5) := by
  intro hz
  obtain ⟨a1, a2, a3⟩ := HI_all (B := B) (n := n) 5 hz
  have h0 : 1 ≤ (hdP B n 5).2.2.1 0 ∧ (hdP B n 5).2.2.1 0 ≤ 60 := a1 0 (by omega) (by omega)
  have h1 : 1 ≤ (hdP B n 5).2.2.1 1 ∧ (hdP B n 5).2.2.1 1 ≤ 6 := a1 1 (by omega) (by omega)
  have h2 : 0 ≤ (hdP B n 5).2.2.1 2 ∧ (hdP B n 5).2.2.1 2 ≤ 9 := a1 2 (by omega) (by omega)
  have h3 : 0 ≤ (hdP B n 5).2.2.1 3 ∧ (hdP B n 5).2.2.1 3 ≤ 3 := a1 3 (by omega) (by omega)
  have h4 : 2 ≤ (hdP B n 5).2.2.1 4 ∧ (hdP B n 5).2.2.1 4 ≤ 6 := a1 4 (by omega) (by omega)
  exact ⟨⟨h0, h1, h2, h3, h4, a2 5 (by omega), a2 6 (by omega)⟩, a2 7 (by omega), fun s' p q => absurd q (by omega), fun s' w _ => a3 s' w⟩
theorem NI_B (hs : 0 ≤ s) (h : ZI s S) : NI s 0 (svB B n s S) := by
  intro hz
  unfold svB at hz ⊢
  by_cases h1 : (pSg B n 115 S).1 = 0
  · rw [if_pos h1]
    obtain ⟨z1, z2, z3⟩ := iv_sg h1
    obtain ⟨a1, a2, a3, a4⟩ := h z1
    obtain ⟨b0, b1, b2, b3, b4, b5, b6⟩ := a1
    refine ⟨⟨?_, ?_, ?_, ?_, ?_, ?_, ?_⟩, ?_, a3, fun s' w p => a4 s' w (by omega), fun j p q => absurd q (by omega), fun q => absurd q (by omega), fun j _ => a4 s j (by omega)⟩
    · dsimp only; rw [upg_ne (by omega)]; exact b0
    · dsimp only; rw [upg_ne (by omega)]; exact b1
    · dsimp only; rw [upg_ne (by omega)]; exact b2
    · dsimp only; rw [upg_ne (by omega)]; exact b3
    · dsimp only; rw [upg_ne (by omega)]; exact b4
    · dsimp only; rw [upg_ne (by omega)]; exact b5
    · dsimp only; rw [upg_ne (by omega)]; exact b6
    · dsimp only; rw [upg_at]
  · rw [if_neg h1] at hz
    exact absurd hz h1
theorem NI_s {S0 : PS} (h : NI s (i : Int) (svN B n s S0 i)) : NI s ((i : Int) + 1) (svN B n s S0 (i + 1)) := by
  intro hz
  obtain ⟨z1, z2, z3⟩ := iv_sg hz
  obtain ⟨y1, y2⟩ := iv_nx z1
  obtain ⟨u1, u2, u3, u4⟩ := iv_X y1
  obtain ⟨x1, x2⟩ := iv_V u1
  obtain ⟨w1, w2, w3, w4⟩ := iv_ck x1
  obtain ⟨a1, a2, a3, a4, a5, a6, a7⟩ := h w1
  have e : (svN B n s S0 (i + 1)).2.2 = ((svN B n s S0 i).2.2.1, upm (svN B n s S0 i).2.2.2 s (i : Int) (num B n (svN B n s S0 i).2.1)) := by
    show (pSg B n _ _).2.2 = _
    rw [z3, y2, u4, x2, w4]
  rw [x2, w4] at u2
  rw [e]
  refine ⟨a1, a2, fun s' p q => ?_, fun s' w p => ?_, fun j p q => ?_, fun p => ?_, fun j p => ?_⟩
  · have e1 : upm (svN B n s S0 i).2.2.2 s (i : Int) (num B n (svN B n s S0 i).2.1) s' = (svN B n s S0 i).2.2.2 s' := by funext w; exact upm_ne (by omega)
    show BV (upm (svN B n s S0 i).2.2.2 s (i : Int) (num B n (svN B n s S0 i).2.1) s') ∧ FRS (upm (svN B n s S0 i).2.2.2 s (i : Int) (num B n (svN B n s S0 i).2.1) s')
    rw [e1]; exact a3 s' p q
  · dsimp only; rw [upm_ne (by omega)]; exact a4 s' w p
  · by_cases hj : j = (i : Int)
    · subst hj; dsimp only; rw [upm_at]; exact w3
    · dsimp only; rw [upm_ne (by omega)]; exact a5 j p (by omega)
  · dsimp only
    by_cases h1 : i = 1
    · subst h1
      dsimp only at u2
      rw [upm_ne (by omega)] at u2
      rw [upm_ne (by omega), show ((1 : Nat) : Int) = 1 from rfl, upm_at]
      omega
    · rw [upm_ne (by omega), upm_ne (by omega)]; exact a6 (by omega)
  · dsimp only; rw [upm_ne (by omega)]; exact a7 j (by omega)
theorem NI_all {S0 : PS} (h : NI s 0 S0) : ∀ i : Nat, NI s (i : Int) (svN B n s S0 i)
  | 0 => h
  | i + 1 => by
    have := NI_s (NI_all h i)
    rw [show ((i + 1 : Nat) : Int) = (i : Int) + 1 by omega]
    exact this
theorem MI_0 (h : NI s 9 S) : MI s 0 (pRd s S) := by
  intro hz
  unfold pRd at hz ⊢
  by_cases hs : S.1 = 0
  · rw [if_pos hs]
    obtain ⟨a1, a2, a3, a4, a5, a6, a7⟩ := h hs
    refine ⟨a1, a2, fun s' p q => ?_, fun s' w p => ?_, fun j p q => ?_, ?_, ?_, ?_, fun j p q => ?_, fun m' p q => absurd q (by omega), fun j p => ?_⟩
    · have e1 : upm S.2.2.2 s 10 (S.2.2.2 s 0) s' = S.2.2.2 s' := by funext w; exact upm_ne (by omega)
      show BV (upm S.2.2.2 s 10 (S.2.2.2 s 0) s') ∧ FRS (upm S.2.2.2 s 10 (S.2.2.2 s 0) s')
      rw [e1]; exact a3 s' p q
    · dsimp only; rw [upm_ne (by omega)]; exact a4 s' w p
    · dsimp only; rw [upm_ne (by omega)]; exact a5 j p q
    · dsimp only; rw [upm_ne (by omega), upm_ne (by omega)]; exact a6 (by omega)
    · dsimp only; rw [upm_ne (by omega)]; exact a7 9 (by omega)
    · dsimp only; rw [upm_at, upm_ne (by omega)]
    · dsimp only; rw [upm_ne (by omega)]; exact a7 j (by omega)
    · dsimp only; rw [upm_ne (by omega)]; exact a7 j (by omega)
  · rw [if_neg hs] at hz; exact absurd hz hs
theorem MI_s (hm : 0 ≤ m ∧ m < 3) (h : MI s m S) (hk : S.1 = 0 ∧ kd (tok B n S.2.1) ≠ 0) : MI s (m + 1) (pMs B n s m S) := by
  intro hz
  have kb := kd_bd (tok B n S.2.1)
  unfold pMs at hz ⊢
  rw [if_pos hk] at hz ⊢
  obtain ⟨z1, z2, z3⟩ := iv_sg hz
  obtain ⟨y1, y2⟩ := iv_nx z1
  obtain ⟨x1, x2⟩ := iv_V y1
  obtain ⟨w1, w2, w3, w4⟩ := iv_ck x1
  obtain ⟨a1, a2, a3, a4, a5, a6, a7, a8, a9, a10, a11⟩ := h hk.1
  have e : (pSg B n 59 (pNx (pV B n s (35 + 21 * m + 1) (pCk B n 1 99 (pM0 B n s m S))))).2.2 = (S.2.2.1, upm (upm (upm (upm S.2.2.2 s 9 (m + 1)) s (35 + 21 * m + 0) (kd (tok B n S.2.1))) s (35 + 21 * m + 2) (-1)) s (35 + 21 * m + 1) (num B n (S.2.1 + 1))) := by
    rw [z3, y2, x2, w4]; rfl
  have w3' : 1 ≤ num B n (S.2.1 + 1) ∧ num B n (S.2.1 + 1) ≤ 99 := w3
  rw [e]
  generalize num B n (S.2.1 + 1) = N at w3' ⊢
  have K : ∀ s' w, ¬ (s' = s ∧ (w = 9 ∨ w = 35 + 21 * m + 0 ∨ w = 35 + 21 * m + 2 ∨ w = 35 + 21 * m + 1)) → upm (upm (upm (upm S.2.2.2 s 9 (m + 1)) s (35 + 21 * m + 0) (kd (tok B n S.2.1))) s (35 + 21 * m + 2) (-1)) s (35 + 21 * m + 1) N s' w = S.2.2.2 s' w := fun s' w hn => by
    rw [upm_ne (by omega), upm_ne (by omega), upm_ne (by omega), upm_ne (by omega)]
  refine ⟨a1, a2, fun s' p q => ?_, fun s' w p => ?_, fun j p q => ?_, ?_, ?_, ?_, fun j p q => ?_, fun m' p q => ?_, fun j p => ?_⟩
  · have e1 : upm (upm (upm (upm S.2.2.2 s 9 (m + 1)) s (35 + 21 * m + 0) (kd (tok B n S.2.1))) s (35 + 21 * m + 2) (-1)) s (35 + 21 * m + 1) N s' = S.2.2.2 s' := by funext w; exact K s' w (by omega)
    show BV (upm (upm (upm (upm S.2.2.2 s 9 (m + 1)) s (35 + 21 * m + 0) (kd (tok B n S.2.1))) s (35 + 21 * m + 2) (-1)) s (35 + 21 * m + 1) N s') ∧ FRS (upm (upm (upm (upm S.2.2.2 s 9 (m + 1)) s (35 + 21 * m + 0) (kd (tok B n S.2.1))) s (35 + 21 * m + 2) (-1)) s (35 + 21 * m + 1) N s')
    rw [e1]; exact a3 s' p q
  · dsimp only; rw [K _ _ (by omega)]; exact a4 s' w p
  · dsimp only; rw [K _ _ (by omega)]; exact a5 j p q
  · dsimp only; rw [K _ _ (by omega), K _ _ (by omega)]; exact a6
  · dsimp only; rw [upm_ne (by omega), upm_ne (by omega), upm_ne (by omega), upm_at]
  · dsimp only; rw [K _ _ (by omega), K _ _ (by omega)]; exact a8
  · dsimp only; rw [K _ _ (by omega)]; exact a9 j p q
  · dsimp only
    by_cases hmm : m' = m
    · subst hmm
      refine ⟨?_, ?_, ?_, fun k p q => ?_⟩
      · rw [upm_ne (by omega), upm_ne (by omega), show (35 : Int) + 21 * m' + 0 = 35 + 21 * m' by omega, upm_at]; omega
      · rw [show (36 : Int) + 21 * m' = 35 + 21 * m' + 1 by omega, upm_at]; exact w3'
      · rw [upm_ne (by omega), show (37 : Int) + 21 * m' = 35 + 21 * m' + 2 by omega, upm_at]
      · rw [K _ _ (by omega)]; exact a11 _ (by omega)
    · obtain ⟨c1, c2, c3, c4⟩ := a10 m' p (by omega)
      refine ⟨?_, ?_, ?_, fun k p q => ?_⟩
      · rw [K _ _ (by omega)]; exact c1
      · rw [K _ _ (by omega)]; exact c2
      · rw [K _ _ (by omega)]; exact c3
      · rw [K _ _ (by omega)]; exact c4 k p q
  · dsimp only; rw [K _ _ (by omega)]; exact a11 j (by omega)
theorem MI_end (hs : 0 ≤ s) (hm : 0 ≤ m ∧ m ≤ 3) (h : MI s m S) : ZI (s + 1) S := by
  intro hz
  obtain ⟨a1, a2, a3, a4, a5, a6, a7, a8, a9, a10, a11⟩ := h hz
  refine ⟨a1, a2, fun s' p q => ?_, fun s' w p => a4 s' w (by omega)⟩
  by_cases hss : s' = s
  · subst hss
    have h0 : 0 ≤ S.2.2.2 s' 0 ∧ S.2.2.2 s' 0 ≤ 9 := a5 0 (by omega) (by omega)
    have h1 : 1 ≤ S.2.2.2 s' 1 ∧ S.2.2.2 s' 1 ≤ 20 := a5 1 (by omega) (by omega)
    have h2 : 0 ≤ S.2.2.2 s' 2 ∧ S.2.2.2 s' 2 ≤ 9 := a5 2 (by omega) (by omega)
    have h3 : 1 ≤ S.2.2.2 s' 3 ∧ S.2.2.2 s' 3 ≤ 6 := a5 3 (by omega) (by omega)
    have h4 : 1 ≤ S.2.2.2 s' 4 ∧ S.2.2.2 s' 4 ≤ 6 := a5 4 (by omega) (by omega)
    have h5 : 0 ≤ S.2.2.2 s' 5 ∧ S.2.2.2 s' 5 ≤ 9 := a5 5 (by omega) (by omega)
    have h6 : 0 ≤ S.2.2.2 s' 6 ∧ S.2.2.2 s' 6 ≤ 99 := a5 6 (by omega) (by omega)
    have h7 : 0 ≤ S.2.2.2 s' 7 ∧ S.2.2.2 s' 7 ≤ 9 := a5 7 (by omega) (by omega)
    have h8 : 1 ≤ S.2.2.2 s' 8 ∧ S.2.2.2 s' 8 ≤ 4 := a5 8 (by omega) (by omega)
    have ec : cntV (S.2.2.2 s') = S.2.2.2 s' 0 := by
      unfold cntV
      rw [a8, a9 11 (by omega) (by omega), a9 12 (by omega) (by omega), a9 13 (by omega) (by omega), a9 14 (by omega) (by omega), a9 15 (by omega) (by omega), a9 16 (by omega) (by omega), a9 17 (by omega) (by omega)]
      omega
    refine ⟨?_, a8, a9, fun m' p q => ?_⟩
    · unfold BV
      rw [ec, a8, a9 11 (by omega) (by omega), a9 12 (by omega) (by omega), a9 13 (by omega) (by omega), a9 14 (by omega) (by omega), a9 15 (by omega) (by omega), a9 16 (by omega) (by omega), a9 17 (by omega) (by omega), a9 24 (by omega) (by omega), a9 31 (by omega) (by omega), a7]
      refine ⟨h0, h1, a6, h2, h3, h4, h5, h6, h7, h8, hm, by omega, by omega, fun k p q => ?_, by omega, fun k p q => ?_, by omega, fun m' p q => ?_⟩
      · rw [a9 k (by omega) (by omega)]; omega
      · rw [a9 k (by omega) (by omega)]; omega
      · obtain ⟨c1, c2, c3, c4⟩ := a10 m' p q
        refine ⟨c1, c2, by rw [c3]; omega, fun k p q => ?_⟩
        rw [c4 k p q]; omega
    · exact (a10 m' p (by rw [a7] at q; exact q)).2.2.1
  · exact a3 s' p (by omega)
end T78b
