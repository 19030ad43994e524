/-! CONSTRUCTORS that make a row of objects; blocks in blocks -/
section T88
variable {p : Program} {l : Launch} {e : Env} {R : Room} {s : State} {m : MethodId} {args : Array Value} {below : List Frame} {meth : Method} {c : Code} {Q : State → Prop}
variable {cc : ByteArray} {D : va_G} {cT : Nat → ClassId} {A : Nat → Prop}
def arQ (cA : ClassId) (n : Nat) (f : Nat → Option Nat) : va_E := .inl (cA, n, .inr (.inr (.inr (.inr f))))
def bsU (ly : Nat → Nat) (sz : Nat) (cT : Nat → ClassId) (u : Nat → (Nat → Nat) × Mem) (j : Nat) : va_W := blkL ly sz (u j).1 cT (u j).2
theorem rowK {Y y : MethodName} {code : ByteArray} {maxL d ci sz mc ms N i1 i2 : Nat} {fs : List Value} {ly : Nat → Nat} {I : Mem → Prop} (hk : KC y code maxL d ci fs ly sz mc ms I) (hM : Mk D cT A p m c cc 2 s args Y) (hd : Kd Y.cls i1 i2 y code maxL ci N fs) (hsz : 0 < sz) (hly : ly 0 = ci)
    {XF : (Nat → Option Nat) → va_W} {a h0 q0 t n lx cio No k ix : Nat} {To : u_T} {tyo : Nat → FieldType} {fso : List Value} {base : va_W} (hXg : ∀ f, (XF f)[q0]? = some (a, arQ (cT t) n f)) (hXs : ∀ f g (r : va_W), (XF f ++ r).set q0 (a, arQ (cT t) n g) = XF g ++ r) (hXo : ∀ f, (XF f)[0]? = some (h0, .inr (cio, fso))) (hlx : ∀ f, (XF f).length = lx)
    (hCo : CLS cio Y.cls To No tyo) (hkN : k < No) (hfk : fso[k]? = some (.ref a)) (hlk : Cond.fieldLink Y.cls ix Y.cls (To k).2.1 (To k).2.2.1 ∈ gW) (hty : (tysW cT)[t]? = some (cT t, .object y.cls)) (hsm : ∀ x, s.fieldFound? (To k).1 (To k).2.1 (To k).2.2.1 = some x → s.fieldFound? Y.cls (To k).2.1 (To k).2.2.1 = some x)
    {hd0 b en c0 s0 : Nat} {off off2 : Int} (hn : n ≤ 1000) (hR : d + 1 ≤ R.frames ∧ 8 + (maxL + 11) + 40 * d ≤ R.locals) (hcells : c0 + n * (1 + mc) ≤ R.cells) (hslots : s0 + n * (N + ms) ≤ R.slots)
    (e0 : decode cc hd0 = .ok (.iload_n 1, 1)) (e1 : ∀ (H : Heap) (locs : List Loc) (cells slots : Nat) (ls : Array Slot) (st : List Value), W p l e R s m args below meth c H locs cells slots Q (F0 m b ls (.int (Int32.ofInt n) :: st)) → W p l e R s m args below meth c H locs cells slots Q (F0 m (hd0 + 1) ls st)) (e2 : decode cc b = .ok (.if_icmp .ge off, 3)) (e3 : (b : Int) + off = (en : Int))
    (e4 : decode cc (b + 3) = .ok (.aload_n 0, 1)) (e5 : decode cc (b + 4) = .ok (.getfield ix, 3)) (e6 : decode cc (b + 7) = .ok (.iload_n 1, 1)) (e7 : decode cc (b + 8) = .ok (.new i1, 3)) (e8 : decode cc (b + 11) = .ok (.dup, 1)) (e9 : decode cc (b + 12) = .ok (.invokespecial i2, 3)) (e10 : decode cc (b + 15) = .ok (.aastore, 1)) (e11 : decode cc (b + 16) = .ok (.iinc 1 1, 3)) (e12 : decode cc (b + 19) = .ok (.goto off2, 3)) (e13 : ((b + 19 : Nat) : Int) + off2 = (hd0 : Int))
    (kk : ∀ (f : Nat → Option Nat) (u : Nat → (Nat → Nat) × Mem) (H : Heap) (locs : List Loc) (ls : Array Slot), (∀ j, j < n → f j = some ((u j).1 0) ∧ I (u j).2) → va_P D vwCl (XF f ++ plB (bsU ly sz cT u) base n) H → va_D A (XF f ++ plB (bsU ly sz cT u) base n) → va_S A s.heap H locs → W p l e R s m args below meth c H locs (c0 + n * (1 + mc)) (s0 + n * (N + ms)) Q (F0 m en ls [])) :
    ∀ (r i : Nat) (f : Nat → Option Nat) (u : Nat → (Nat → Nat) × Mem) (H : Heap) (locs : List Loc) (ls : Array Slot), r = n - i → i ≤ n → (∀ j, j < i → f j = some ((u j).1 0) ∧ I (u j).2) → va_P D vwCl (XF f ++ plB (bsU ly sz cT u) base i) H → va_D A (XF f ++ plB (bsU ly sz cT u) base i) → va_S A s.heap H locs → lv_has ls 2 [(1, .int (Int32.ofInt (i : Int))), (0, .ref h0)] → W p l e R s m args below meth c H locs (c0 + i * (1 + mc)) (s0 + i * (N + ms)) Q (F0 m hd0 ls []) := by
  intro r
  induction r with
  | zero =>
    intro i f u H locs ls hr hi hf hP hD hS hl
    obtain ⟨hx, hb, hml, hown, hts, hW, hA⟩ := id hM
    obtain rfl : i = n := by omega
    refine lv_iload_n hx hb e0 rfl (lv_at hl 0 rfl) (e1 _ _ _ _ _ _ ?_)
    refine lv_icmp_ge hx hb e2 e3 (fun _ => kk f u H locs ls hf hP hD hS) (fun h => absurd ((i32_le (by omega) (by omega)).mpr (Int.le_refl _)) h)
  | succ r ih =>
    intro i f u H locs ls hr hi hf hP hD hS hl
    obtain ⟨hx, hb, hml, hown, hts, hW, hA⟩ := id hM
    have hg : ∀ q ∈ gW, q.before args s = true := fun q hq => hts q (List.mem_cons_of_mem _ hq)
    have hin : i < n := by omega
    refine lv_iload_n hx hb e0 rfl (lv_at hl 0 rfl) (e1 _ _ _ _ _ _ ?_)
    refine lv_icmp_ge hx hb e2 e3 (fun h => absurd ((i32_le (by omega) (by omega)).mp h) (by omega)) (fun _ => ?_)
    refine lv_aload_n hx hb e4 rfl (lv_at hl 1 rfl) ?_
    have hgo : (XF f ++ plB (bsU ly sz cT u) base i)[0]? = some (h0, .inr (cio, fso)) := by
      rw [List.getElem?_append_left (List.getElem?_eq_some_iff.mp (hXo f)).1]; exact hXo f
    refine va_get hx hb hts (fun q hq => List.mem_cons_of_mem _ (hCo.2.1 q hq)) hown hW.1 hP 0 hgo hCo.1 k hkN (hg _ hlk) hsm hfk e5 ?_


    refine lv_iload_n hx hb e6 rfl (lv_at hl 0 rfl) ?_
    have m1 : i * (1 + mc) + (1 + mc) ≤ n * (1 + mc) := by rw [← Nat.succ_mul]; exact Nat.mul_le_mul_right _ hin
    have m2 : i * (N + ms) + (N + ms) ≤ n * (N + ms) := by rw [← Nat.succ_mul]; exact Nat.mul_le_mul_right _ hin
    refine kidN hk hM hl.1 hd hP hD hS hR (by omega) (by omega) (Nat.le_of_ble_eq_true rfl) e7 e8 e9 (fun v H1 locs1 hI hP hD hS => ?_)
    have hq : (XF f ++ (blkL ly sz v.1 cT v.2 ++ plB (bsU ly sz cT u) base i))[lx]? = some (v.1 0, .inr (ci, objF v.1 (v.2 0) 0 0 (flds ci))) := by
      rw [List.getElem?_append_right (by rw [hlx]; exact Nat.le_refl _), hlx, Nat.sub_self, List.getElem?_append_left (by rw [blkL_len]; exact hsz), blkL_get hsz]
      obtain ⟨T, ty, hC, -⟩ := hd
      have := hC.2.2.2.2
      unfold cellG
      rw [hly, if_neg (by omega), if_neg (by omega)]
      rfl
    have hga : (XF f ++ (blkL ly sz v.1 cT v.2 ++ plB (bsU ly sz cT u) base i))[q0]? = some (a, arQ (cT t) n f) := by
      rw [List.getElem?_append_left (List.getElem?_eq_some_iff.mp (hXg f)).1]; exact hXg f
    obtain ⟨hv1, hv2⟩ := i32_in (a := (i : Int)) (n := n) (by omega) (by omega) (by omega)
    obtain ⟨T, ty, hC, -⟩ := id hd
    refine va_astq hx hb hW.1 hP hD hS q0 t lx ci hga hty hq hC.1 hv1 e10 (fun H2 locs2 hP hD hS => ?_)
    rw [hv2, Int.toNat_natCast, show (a, (.inl (cT t, n, .inr (.inr (.inr (.inr (va_up f i (some (v.1 0))))))) : va_E)) = (a, arQ (cT t) n (va_up f i (some (v.1 0)))) from rfl, hXs] at hP hD
    refine lv_iinc hx hb e11 hl (k := 0) rfl (v := Int32.ofInt ((i + 1 : Nat) : Int)) (by rw [← Int32.ofInt_add]; rfl) (by omega) rfl (fun ls' hl' => ?_)
    refine lv_goto hx hb e12 e13 ?_
    have hpl : blkL ly sz v.1 cT v.2 ++ plB (bsU ly sz cT u) base i = plB (bsU ly sz cT (fun j => if j = i then v else u j)) base (i + 1) := by
      have h1 : bsU ly sz cT (fun j => if j = i then v else u j) i = blkL ly sz v.1 cT v.2 := by
        unfold bsU
        simp only [if_pos]
      have h2 : plB (bsU ly sz cT (fun j => if j = i then v else u j)) base i = plB (bsU ly sz cT u) base i := plB_congr i (fun j hj => by
        unfold bsU
        simp only [if_neg (show ¬ j = i by omega)])
      rw [← h1, ← h2]
      rfl
    rw [hpl] at hP hD
    have := ih (i + 1) (va_up f i (some (v.1 0))) (fun j => if j = i then v else u j) H2 locs2 ls' (by omega) hin (fun j hj => by
      by_cases hji : j = i
      · subst hji
        rw [va_up_self, if_pos rfl]
        exact ⟨rfl, hI⟩
      · rw [va_up_ne _ _ hji, if_neg hji]
        exact hf j (by omega)) hP hD hS hl'
    rw [Nat.add_assoc c0, Nat.add_assoc s0, ← Nat.succ_mul, ← Nat.succ_mul]
    exact this
/-- a block names no cell but its own -/
def Clo (ly : Nat → Nat) (sz : Nat) : Prop := ∀ r, r < sz → (ly r < 10 → ∀ o ∈ flds (ly r), 0 ≤ o → r + o.toNat < sz) ∧ (10 ≤ ly r → ly r < 1000 → ∀ j, j < rlen (ly r) → r + 1 + rstr (ly r) * j < sz)
theorem cell_emb {cl : List vw_C} {H : Heap} {ly ly' ad ad' : Nat → Nat} {μ μ' : Mem} {sz r B : Nat} (hc : Clo ly' sz) (hr : r < sz) (h2 : ∀ r, r < sz → ly (B + r) = ly' r) (h3 : ∀ r, r < sz → ∀ j, μ ((B + r : Nat) : Int) j = μ' (r : Int) j) (h4 : ∀ r, r < sz → ad (B + r) = ad' r) (h : va_at D cl (ad (B + r), cellG ly' ad' cT μ' r) H) : va_at D cl (ad (B + r), cellG ly ad cT μ (B + r)) H := by
  refine cell_tr h (h2 r hr) (h3 r hr) (fun q o ho h0 => ?_) (fun q1 q2 j hj => ?_)
  · rw [h2 r hr] at q ho
    have := (hc r hr).1 q o ho h0
    rw [Nat.add_assoc, h4 _ this]
  · rw [h2 r hr] at q1 q2 hj ⊢
    have := (hc r hr).2 q1 q2 j hj
    rw [← h4 _ this, ← Nat.add_assoc, ← Nat.add_assoc]
theorem arr_emb {cl : List vw_C} {H : Heap} {a n : Nat} {cA : ClassId} {f g : Nat → Option Nat} (hf : ∀ j, j < n → f j = g j) (h : va_at D cl (a, arQ cA n f) H) : va_at D cl (a, arQ cA n g) H := by
  have h' : H[a]? = some (vp_cell cA (n, .inr (.inr (.inr (.inr f))))) := h
  show H[a]? = some (vp_cell cA (n, .inr (.inr (.inr (.inr g)))))
  rw [h', vp_cell_q, vp_cell_q]
  congr 1
  exact arrV_eq (fun j hj => by rw [hf j hj])
theorem clo_Ms : Clo layMs 2 := by unfold Clo; decide +kernel
theorem clo_Tx : Clo layTx 2 := by unfold Clo; decide +kernel
theorem clo_S : Clo layS 12 := by unfold Clo; decide +kernel
theorem clo_H : Clo layH 51 := by unfold Clo; decide +kernel
end T88
