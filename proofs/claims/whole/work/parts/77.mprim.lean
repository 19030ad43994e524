/-! READING, purely: a state is (fault, token, head, services) -/
abbrev PS : Type := Int × Nat × (Int → Int) × Mem
def psN (B : Int → Int) (n : Int) : Nat → Int
  | 0 => 0
  | k + 1 => te B n (psN B n k)
def tok (B : Int → Int) (n : Int) (k : Nat) : Int := tt B n (psN B n k)
def beg (B : Int → Int) (n : Int) (k : Nat) : Int := tq B n (psN B n k)
def num (B : Int → Int) (n : Int) (k : Nat) : Int := nmO B (beg B n k) (psN B n (k + 1))
def pWr (x : Int) (S : PS) : PS := if S.1 = 0 then (x, S.2) else S
def pNx (S : PS) : PS := if S.1 = 0 then (0, S.2.1 + 1, S.2.2) else S
def pSg (B : Int → Int) (n c : Int) (S : PS) : PS := if S.1 = 0 then (if tok B n S.2.1 = c then (0, S.2.1 + 1, S.2.2) else (1, S.2)) else S
def pCk (B : Int → Int) (n lo hi : Int) (S : PS) : PS := if S.1 = 0 then (if tok B n S.2.1 = -2 then (if lo ≤ num B n S.2.1 ∧ num B n S.2.1 ≤ hi then S else (2, S.2)) else (1, S.2)) else S
def pG (B : Int → Int) (n j : Int) (S : PS) : PS := if S.1 = 0 then (0, S.2.1, upg S.2.2.1 j (num B n S.2.1), S.2.2.2) else S
def pV (B : Int → Int) (n s w : Int) (S : PS) : PS := if S.1 = 0 then (0, S.2.1, S.2.2.1, upm S.2.2.2 s w (num B n S.2.1)) else S
def kd (c : Int) : Int := if c = 116 then 1 else if c = 102 then 2 else if c = 97 then 3 else if c = 113 then 4 else 0
def MR (B : Int → Int) (n : Int) (ν0 ν : Mem) (S : PS) : Prop := (ν 0 18 = S.1 ∧ 0 ≤ S.1 ∧ S.1 ≤ 4) ∧ tkM B n ν (psN B n S.2.1) ∧ (S.1 = 0 → RwM ν 12 S.2.2.1 S.2.2.2) ∧ ∀ c i, ¬ (c = 0 ∧ 13 ≤ i ∧ i ≤ 18) → ¬ (c = 1 ∧ 4800 ≤ i ∧ i < 5200) → ν c i = ν0 c i
/-- the model's text -/
def MT (B : Int → Int) (n : Int) (ν : Mem) : Prop := TX B n ∧ ν 0 11 = n ∧ ∀ i, 0 ≤ i → i < n → ν 10 i = B i
section T77
variable {μ ν ν0 : Mem} {B : Int → Int} {Q : PV → Mem → Prop} {n p q e x c lo hi : Int} {S : PS} {k : Nat}
theorem psN_bd (hT : TX B n) : ∀ k : Nat, 0 ≤ psN B n k ∧ psN B n k ≤ n
  | 0 => ⟨Int.le_refl _, hT.1.1⟩
  | k + 1 => by
    have h := psN_bd hT k
    have := te_bd (B := B) h.2
    show 0 ≤ te B n (psN B n k) ∧ te B n (psN B n k) ≤ n
    omega
theorem beg_bd (hT : TX B n) (k : Nat) : 0 ≤ beg B n k ∧ beg B n k ≤ n := by
  have h := psN_bd hT k
  have := tq_bd (B := B) h.2
  unfold beg
  omega
theorem tok_bd (hT : TX B n) (k : Nat) : tok B n k = -1 ∨ tok B n k = -2 ∨ (0 ≤ tok B n k ∧ tok B n k ≤ 255) := by
  have h := beg_bd hT k
  unfold beg at h
  unfold tok tt
  split
  · exact Or.inl rfl
  · split
    · exact Or.inr (Or.inl rfl)
    · exact Or.inr (Or.inr (hT.2 _ (by omega) (by omega)))
/-- figures -/
theorem tok_fig (hT : TX B n) (h : tok B n k = -2) : (0 ≤ vlO B (beg B n k) (psN B n (k + 1)) ∧ vlO B (beg B n k) (psN B n (k + 1)) ≤ 99) ∧ (beg B n k ≤ psN B n (k + 1) ∧ psN B n (k + 1) - beg B n k ≤ 160) := by
  have hb := beg_bd hT k
  have hp := psN_bd hT (k + 1)
  unfold tok tt at h
  have he : psN B n (k + 1) = te B n (psN B n k) := rfl
  unfold te at he
  split at h
  · omega
  · rename_i h1
    split at h
    · rename_i h2
      rw [if_neg h1, if_pos h2] at he
      have hd := dgN_bd (B := B) (n := n) 160 (tq B n (psN B n k)) (by omega)
      have ha : ∀ j, beg B n k ≤ j → j < psN B n (k + 1) → isDg (B j) := fun j p q => by rw [he] at q; exact dgN_all 160 _ j p q
      refine ⟨vlO_bd ha, ?_⟩
      unfold beg
      rw [he]
      have := hT.1
      unfold beg at hb
      omega
    · have := hT.2 (tq B n (psN B n k)) (by unfold beg at hb; omega) (by omega)
      omega
theorem num_of (hT : TX B n) (h : tok B n k = -2) (hh : hi ≤ 99) : (lo ≤ num B n k ∧ num B n k ≤ hi) ↔ (psN B n (k + 1) - beg B n k ≤ 2 ∧ lo ≤ vlO B (beg B n k) (psN B n (k + 1)) ∧ vlO B (beg B n k) (psN B n (k + 1)) ≤ hi) := by
  have hf := tok_fig hT h
  unfold num nmO
  split <;> omega
theorem num_eq (hT : TX B n) (h : tok B n k = -2) (hh : hi ≤ 99) (hn : num B n k ≤ hi) : num B n k = vlO B (beg B n k) (psN B n (k + 1)) := by
  have hf := tok_fig hT h
  unfold num nmO at hn ⊢
  split
  · rfl
  · rename_i h1
    rw [if_neg h1] at hn
    omega
theorem MR.txt (h : MR B n ν0 ν S) (h0 : MT B n ν0) : MT B n ν := by
  obtain ⟨-, -, -, f⟩ := h
  refine ⟨h0.1, (f 0 11 (by omega) (by omega)).trans h0.2.1, fun i p q => (f 10 i (by omega) (by omega)).trans (h0.2.2 i p q)⟩
/-- the token's fields, in the pure words -/
theorem MR.fld (h : MR B n ν0 ν S) : ν 0 13 = psN B n (S.2.1 + 1) ∧ ν 0 14 = beg B n S.2.1 ∧ ν 0 15 = (if tok B n S.2.1 = -2 then psN B n (S.2.1 + 1) - beg B n S.2.1 else 0) ∧ ν 0 16 = (if tok B n S.2.1 = -2 then vlO B (beg B n S.2.1) (psN B n (S.2.1 + 1)) else 0) ∧ ν 0 17 = (if tok B n S.2.1 = -1 then -1 else if tok B n S.2.1 = -2 then 0 else 256 + tok B n S.2.1) := h.2.1
theorem qM_reads (h0 : MT B n ν0) (hS : MR B n ν0 ν S) (hb : S.1 = 0) (hq : ∀ ν', MR B n ν0 ν' (pNx S) → Q (9, 0) ν') : MetP mX5_reads [(105, 0)] ν Q := by
  have ht := hS.txt h0
  obtain ⟨⟨a1, a2, a3⟩, a4, a5, a6⟩ := id hS
  refine qX5_reads ht.1 ht.2.1 ht.2.2 (psN_bd ht.1 (S.2.1 + 1)) a4.1 (fun ν' k1 k2 => hq ν' ?_)
  unfold pNx
  rw [if_pos hb]
  refine ⟨⟨(k2 0 18 (by omega)).trans (a1.trans hb), by show (0 : Int) ≤ 0; omega, by show (0 : Int) ≤ 4; omega⟩, k1, fun _ => ?_, fun c i p q => ?_⟩
  · exact RwM_eq (a5 hb) (fun i p q => k2 1 i (by omega))
  · rw [k2 c i (by omega)]; exact a6 c i p q
theorem qM_wrong (hx : 1 ≤ x ∧ x ≤ 4) (hS : MR B n ν0 ν S) (hq : ∀ ν', MR B n ν0 ν' (pWr x S) → Q (9, 0) ν') : MetP mX5_wrong [(105, 0), (0, x)] ν Q := by
  obtain ⟨⟨a1, a2, a3⟩, a4, a5, a6⟩ := id hS
  have J : ∀ z, z = (pWr x S).1 → (0 ≤ z ∧ z ≤ 4) → (S.1 ≠ 0 → z = S.1) → OkE mX5_wrong 16 [(105, 0), (0, x)] [(0, z), (105, 0)] ν Q := by
    intro z hz hzb hs
    refine OkE.go snX5_wrong [] 100 ?_
    intro ν2 d2
    have n2 : ∀ a b, ¬ (a = 0 ∧ b = 18) → ν2 a b = ν a b := fun a b hn => by rw [d2]; exact upm_ne hn
    have v2 : ν2 0 18 = z := by rw [d2]; exact upm_at _ _ _ _
    have ek : (pWr x S).2 = S.2 := by unfold pWr; split <;> rfl
    refine hq ν2 ⟨⟨v2.trans hz, by rw [← hz]; exact hzb.1, by rw [← hz]; exact hzb.2⟩, ?_, fun h => ?_, fun c i p q => ?_⟩
    · rw [ek]
      obtain ⟨t1, t2, t3, t4, t5⟩ := a4
      exact ⟨(n2 0 13 (by omega)).trans t1, (n2 0 14 (by omega)).trans t2, (n2 0 15 (by omega)).trans t3, (n2 0 16 (by omega)).trans t4, (n2 0 17 (by omega)).trans t5⟩
    · rw [ek]
      by_cases hs0 : S.1 = 0
      · unfold pWr at h
        rw [if_pos hs0] at h
        exact absurd h (by show ¬ x = 0; omega)
      · rw [← hz, hs hs0] at h
        exact absurd h hs0
    · rw [n2 c i (by omega)]; exact a6 c i p q
  refine MetP.go snX5_wrong [16] 100 rfl rfl rfl rfl (fun _ => ?_)
  intro x1 e1
  obtain rfl : x1 = S.1 := e1.trans a1
  refine ⟨by omega, fun q => ?_, fun q => ?_⟩
  · intro x2 e2
    obtain rfl : x2 = S.1 := e2.trans a1
    exact J _ (by unfold pWr; rw [if_neg q]) (by omega) (fun _ => rfl)
  · exact J _ (by unfold pWr; rw [if_pos (by omega)]) (by omega) (fun h => absurd (show S.1 = 0 by omega) h)
theorem qM_isSign (h0 : MT B n ν0) (hc : 0 ≤ c ∧ c ≤ 255) (hS : MR B n ν0 ν S) (h1 : S.1 = 0 → tok B n S.2.1 = c → Q (0, 1) ν) (hz : ¬ (S.1 = 0 ∧ tok B n S.2.1 = c) → Q (0, 0) ν) : MetP mX5_isSign [(105, 0), (0, c)] ν Q := by
  obtain ⟨⟨a1, a2, a3⟩, a4, a5, a6⟩ := id hS
  obtain ⟨t1, t2, t3, t4, t5⟩ := hS.fld
  have tb := tok_bd h0.1 S.2.1
  refine MetP.go snX5_isSign [] 100 rfl rfl rfl rfl (fun _ => ?_)
  intro x1 e1
  obtain rfl : x1 = S.1 := e1.trans a1
  refine ⟨by omega, fun q => ?_, fun q => ?_⟩
  · exact ⟨by omega, hz (fun h => q h.1)⟩
  · intro x2 e2
    have e3 := e2.trans t5
    have e4 : (x2 = -1 ∧ tok B n S.2.1 = -1) ∨ (x2 = 0 ∧ tok B n S.2.1 = -2) ∨ (x2 = 256 + tok B n S.2.1 ∧ 0 ≤ tok B n S.2.1 ∧ tok B n S.2.1 ≤ 255) := by
      rw [e3]
      split
      · omega
      · split <;> omega
    refine ⟨by omega, by omega, fun q2 => ?_, fun q2 => ?_⟩
    · exact ⟨by omega, hz (fun h => by omega)⟩
    · exact ⟨by omega, h1 (by omega) (by omega)⟩
theorem qM_sign (h0 : MT B n ν0) (hc : 0 ≤ c ∧ c ≤ 255) (hS : MR B n ν0 ν S) (hq : ∀ ν', MR B n ν0 ν' (pSg B n c S) → Q (9, 0) ν') : MetP mX5_sign [(105, 0), (0, c)] ν Q := by
  refine MetP.go snX5_sign [] 100 rfl rfl rfl rfl (fun _ => ?_)
  refine qM_isSign h0 hc hS (fun hs ht => ?_) (fun hn => ?_)
  · refine ⟨by omega, fun _ => ?_, fun q => absurd q (by omega)⟩
    obtain ⟨⟨a1, a2, a3⟩, -⟩ := id hS
    intro x1 e1
    obtain rfl : x1 = S.1 := e1.trans a1
    refine ⟨by omega, fun q => absurd hs q, fun _ => ?_⟩
    refine qM_reads h0 hS hs (fun ν' k => hq ν' ?_)
    unfold pSg
    unfold pNx at k
    rw [if_pos hs] at k ⊢
    rw [if_pos ht]
    exact k
  · refine ⟨by omega, fun q => absurd rfl q, fun _ => ?_⟩
    refine qM_wrong (by omega) hS (fun ν' k => ?_)
    obtain ⟨⟨a1, a2, a3⟩, -⟩ := id k
    have e : pWr 1 S = pSg B n c S := by
      unfold pWr pSg
      by_cases hs : S.1 = 0
      · rw [if_pos hs, if_pos hs, if_neg (fun h => hn ⟨hs, h⟩)]
      · rw [if_neg hs, if_neg hs]
    have ne : (pWr 1 S).1 ≠ 0 := by
      unfold pWr
      by_cases hs : S.1 = 0
      · rw [if_pos hs]; show (1 : Int) ≠ 0; omega
      · rw [if_neg hs]; exact hs
    intro x1 e1
    have e1' : x1 = (pWr 1 S).1 := e1.trans a1
    refine ⟨by omega, fun q => ?_, fun q => absurd q (by omega)⟩
    rw [e] at k
    exact hq ν' k
theorem qM_goesOn (h0 : MT B n ν0) (hc : 0 ≤ c ∧ c ≤ 255) (hS : MR B n ν0 ν S) (hq : ∀ ν', MR B n ν0 ν' (pSg B n c (pNx S)) → Q (9, 0) ν') : MetP mX5_goesOn [(105, 0), (0, c)] ν Q := by
  obtain ⟨⟨a1, a2, a3⟩, -⟩ := id hS
  refine MetP.go snX5_goesOn [] 100 rfl rfl rfl rfl (fun _ => ?_)
  intro x1 e1
  obtain rfl : x1 = S.1 := e1.trans a1
  refine ⟨by omega, fun q => ?_, fun q => ?_⟩
  · refine qM_sign h0 hc hS (fun ν' k => hq ν' ?_)
    unfold pNx
    rw [if_neg q]
    exact k
  · refine qM_reads h0 hS (by omega) (fun ν' k => ?_)
    exact qM_sign h0 hc k hq
theorem qM_kindOf (h0 : MT B n ν0) (hS : MR B n ν0 ν S) (hq : Q (0, if S.1 = 0 then kd (tok B n S.2.1) else 0) ν) : MetP mX5_kindOf [(105, 0)] ν Q := by
  unfold kd at hq
  refine MetP.go snX5_kindOf [] 100 rfl rfl rfl rfl (fun _ => ?_)
  refine qM_isSign h0 (by omega) hS (fun hs ht => ?_) (fun n1 => ?_)
  · refine ⟨by omega, fun q => absurd q (by omega), fun _ => ?_⟩
    rw [if_pos hs, if_pos ht] at hq
    exact hq
  refine ⟨by omega, fun _ => ?_, fun q => absurd rfl q⟩
  refine qM_isSign h0 (by omega) hS (fun hs ht => ?_) (fun n2 => ?_)
  · refine ⟨by omega, fun q => absurd q (by omega), fun _ => ?_⟩
    rw [if_pos hs, if_neg (by omega), if_pos ht] at hq
    exact hq
  refine ⟨by omega, fun _ => ?_, fun q => absurd rfl q⟩
  refine qM_isSign h0 (by omega) hS (fun hs ht => ?_) (fun n3 => ?_)
  · refine ⟨by omega, fun q => absurd q (by omega), fun _ => ?_⟩
    rw [if_pos hs, if_neg (by omega), if_neg (by omega), if_pos ht] at hq
    exact hq
  refine ⟨by omega, fun _ => ?_, fun q => absurd rfl q⟩
  refine qM_isSign h0 (by omega) hS (fun hs ht => ?_) (fun n4 => ?_)
  · refine ⟨by omega, fun q => absurd q (by omega), fun _ => ?_⟩
    rw [if_pos hs, if_neg (by omega), if_neg (by omega), if_neg (by omega), if_pos ht] at hq
    exact hq
  refine ⟨by omega, fun _ => ?_, fun q => absurd rfl q⟩
  by_cases hs : S.1 = 0
  · rw [if_pos hs, if_neg (by omega), if_neg (by omega), if_neg (by omega), if_neg (by omega)] at hq
    exact hq
  · rw [if_neg hs] at hq
    exact hq
/-- a number within bounds, laid somewhere into the spare row -/
theorem qM_number {to : Int} (h0 : MT B n ν0) (hl : 0 ≤ lo ∧ lo ≤ 99) (hh : 0 ≤ hi ∧ hi ≤ 99) (hto : 4800 ≤ to ∧ to < 5200) (hS : MR B n ν0 ν S) (hb : ∀ ν', (pCk B n lo hi S).1 ≠ 0 → MR B n ν0 ν' (pCk B n lo hi S) → Q (9, 0) ν') (hk : (pCk B n lo hi S).1 = 0 → pCk B n lo hi S = S → Q (9, 0) (upm ν 1 to (num B n S.2.1))) : MetP mX5_number [(105, 0), (0, to), (0, lo), (0, hi)] ν Q := by
  obtain ⟨⟨a1, a2, a3⟩, a4, a5, a6⟩ := id hS
  obtain ⟨t1, t2, t3, t4, t5⟩ := hS.fld
  have tb := tok_bd h0.1 S.2.1
  have B40 : ∀ ν', (pCk B n lo hi S).1 ≠ 0 → MR B n ν0 ν' (pCk B n lo hi S) → OkE mX5_number 40 [(105, 0), (0, to), (0, lo), (0, hi)] [] ν' Q := by
    intro ν' hne k
    obtain ⟨⟨c1, c2, c3⟩, -⟩ := id k
    refine OkE.go snX5_number [] 100 ?_
    intro x1 e1
    have e1' : x1 = (pCk B n lo hi S).1 := e1.trans c1
    refine ⟨by omega, fun q => ?_, fun q => absurd q (by omega)⟩
    exact hb ν' hne k
  -- once it is wrong
  have B12 : ∀ ν' S', MR B n ν0 ν' S' → S'.1 ≠ 0 → S'.2.1 = S.2.1 → pCk B n lo hi S = S' → OkE mX5_number 12 [(105, 0), (0, to), (0, lo), (0, hi)] [] ν' Q := by
    intro ν' S' k hne hk1 he
    obtain ⟨-, -, u3, u4, -⟩ := k.fld
    rw [hk1] at u3 u4
    have ew : pWr 2 S' = S' := by unfold pWr; rw [if_neg hne]
    have W : OkE mX5_number 35 [(105, 0), (0, to), (0, lo), (0, hi)] [] ν' Q := by
      refine OkE.go snX5_number [40] 100 ?_
      refine qM_wrong (by omega) k (fun ν2 k2 => ?_)
      rw [ew] at k2
      exact B40 ν2 (by rw [he]; exact hne) (by rw [he]; exact k2)
    have b15 : 0 ≤ ν' 0 15 ∧ ν' 0 15 ≤ 160 ∧ 0 ≤ ν' 0 16 ∧ ν' 0 16 ≤ 99 := by
      rw [u3, u4]
      by_cases hf : tok B n S.2.1 = -2
      · have := tok_fig h0.1 hf
        rw [if_pos hf, if_pos hf]; omega
      · rw [if_neg hf, if_neg hf]; omega
    refine OkE.go snX5_number [35, 40] 100 ?_
    intro x1 e1
    have e1' : x1 = ν' 0 15 := e1
    refine ⟨by omega, by omega, fun q => W, fun q => ?_⟩
    intro x2 e2
    have e2' : x2 = ν' 0 16 := e2
    refine ⟨by omega, ?_⟩
    refine ⟨by omega, ?_⟩
    refine ⟨by omega, ?_⟩
    refine qX5_in (by omega) (by omega) (by omega) (fun q2 => ?_) (fun q2 => ?_)
    · refine ⟨by omega, fun _ => ?_, fun q => absurd q (by omega)⟩
      exact B40 ν' (by rw [he]; exact hne) (by rw [he]; exact k)
    · refine ⟨by omega, fun q => absurd rfl q, fun _ => W⟩
  refine MetP.go snX5_number [12] 100 rfl rfl rfl rfl (fun _ => ?_)
  intro x1 e1
  have e1' := e1.trans t5
  have e4 : (x1 = -1 ∧ tok B n S.2.1 = -1) ∨ (x1 = 0 ∧ tok B n S.2.1 = -2) ∨ (x1 = 256 + tok B n S.2.1 ∧ 0 ≤ tok B n S.2.1 ∧ tok B n S.2.1 ≤ 255) := by
    rw [e1']
    split
    · omega
    · split <;> omega
  refine ⟨by omega, fun q => ?_, fun q => ?_⟩
  · have hf : tok B n S.2.1 = -2 := by omega
    have ff := tok_fig h0.1 hf
    rw [if_pos hf] at t3 t4
    by_cases hs : S.1 = 0
    · by_cases hn : lo ≤ num B n S.2.1 ∧ num B n S.2.1 ≤ hi
      · have hn2 := (num_of h0.1 hf hh.2).mp hn
        have he := num_eq h0.1 hf hh.2 hn.2
        have ep : pCk B n lo hi S = S := by unfold pCk; rw [if_pos hs, if_pos hf, if_pos hn]
        refine OkE.go snX5_number [] 100 ?_
        intro x2 e2
        obtain rfl : x2 = psN B n (S.2.1 + 1) - beg B n S.2.1 := e2.trans t3
        refine ⟨by omega, by omega, fun q => absurd q (by omega), fun _ => ?_⟩
        intro x3 e3
        obtain rfl : x3 = vlO B (beg B n S.2.1) (psN B n (S.2.1 + 1)) := e3.trans t4
        refine ⟨by omega, ?_⟩
        refine ⟨by omega, ?_⟩
        refine ⟨by omega, ?_⟩
        refine qX5_in (by omega) (by omega) (by omega) (fun q2 => ?_) (fun q2 => absurd ⟨hn2.2.1, hn2.2.2⟩ q2)
        refine ⟨by omega, fun _ => ?_, fun q => absurd q (by omega)⟩
        intro x4 e4
        obtain rfl : x4 = S.1 := e4.trans a1
        refine ⟨by omega, fun q => absurd hs q, fun _ => ?_⟩
        intro x5 e5
        have e5' : x5 = num B n S.2.1 := (e5.trans t4).trans he.symm
        refine ⟨by omega, fun ν2 d2 => ?_⟩
        have d2' : ν2 = upm ν 1 to x5 := d2
        rw [d2', e5']
        exact hk (by rw [ep]; exact hs) ep
      · have ep : pCk B n lo hi S = pWr 2 S := by unfold pCk pWr; rw [if_pos hs, if_pos hf, if_neg hn, if_pos hs]
        have hne : (pCk B n lo hi S).1 ≠ 0 := by rw [ep]; unfold pWr; rw [if_pos hs]; show (2 : Int) ≠ 0; omega
        have hn2 : ¬ (psN B n (S.2.1 + 1) - beg B n S.2.1 ≤ 2 ∧ lo ≤ vlO B (beg B n S.2.1) (psN B n (S.2.1 + 1)) ∧ vlO B (beg B n S.2.1) (psN B n (S.2.1 + 1)) ≤ hi) := fun h => hn ((num_of h0.1 hf hh.2).mpr h)
        have W : OkE mX5_number 35 [(105, 0), (0, to), (0, lo), (0, hi)] [] ν Q := by
          refine OkE.go snX5_number [40] 100 ?_
          refine qM_wrong (by omega) hS (fun ν2 k2 => ?_)
          exact B40 ν2 hne (by rw [ep]; exact k2)
        refine OkE.go snX5_number [35] 100 ?_
        intro x2 e2
        obtain rfl : x2 = psN B n (S.2.1 + 1) - beg B n S.2.1 := e2.trans t3
        refine ⟨by omega, by omega, fun q => W, fun q => ?_⟩
        intro x3 e3
        obtain rfl : x3 = vlO B (beg B n S.2.1) (psN B n (S.2.1 + 1)) := e3.trans t4
        refine ⟨by omega, ?_⟩
        refine ⟨by omega, ?_⟩
        refine ⟨by omega, ?_⟩
        refine qX5_in (by omega) (by omega) (by omega) (fun q2 => absurd ⟨by omega, q2.1, q2.2⟩ hn2) (fun q2 => ?_)
        refine ⟨by omega, fun q => absurd rfl q, fun _ => W⟩
    · exact B12 ν S hS hs rfl (by unfold pCk; rw [if_neg hs])
  · refine qM_wrong (by omega) hS (fun ν2 k2 => ?_)
    have hf : tok B n S.2.1 ≠ -2 := by omega
    refine B12 ν2 _ k2 ?_ ?_ ?_
    · unfold pWr
      by_cases hs : S.1 = 0
      · rw [if_pos hs]; show (1 : Int) ≠ 0; omega
      · rw [if_neg hs]; exact hs
    · unfold pWr; split <;> rfl
    · unfold pCk pWr
      by_cases hs : S.1 = 0
      · rw [if_pos hs, if_neg hf, if_pos hs]
      · rw [if_neg hs, if_neg hs]
end T77
