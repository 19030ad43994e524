/-! THE LAW: one round of its loop, by program (wip/whole/gen92.py) -/
def argl (xs : Nat → Int32) (k : Nat) : Nat → List PV
  | 0 => []
  | n + 1 => argl xs k n ++ [(0, (xs (5 * k + (n + 1))).toInt)]
theorem argl_int (xs : Nat → Int32) (k : Nat) : ∀ n, ∀ v ∈ argl xs k n, v.1 = 0
  | 0, v, h => by cases h
  | n + 1, v, h => by
    rcases List.mem_append.mp h with h | h
    · exact argl_int xs k n v h
    · rw [List.mem_singleton.mp h]
theorem argl_len (xs : Nat → Int32) (k : Nat) : ∀ n, (argl xs k n).length = n
  | 0 => rfl
  | n + 1 => by
    show (argl xs k n ++ _).length = _
    rw [List.length_append, argl_len xs k n]
    rfl
theorem i32_i32 (x : Int32) : I32 x.toInt := by
  have h1 := Int32.le_toInt x
  have h2 := Int32.toInt_lt x
  exact ⟨by omega, by omega⟩
/-- the words of n arguments, read out of the script from pc on -/
def Dargs (pc n : Nat) : Prop := ∀ j, j < n → decode cL_law (pc + 5 * j) = .ok (.aload_n 0, 1) ∧ decode cL_law (pc + 5 * j + 1) = .ok (.iload_n 3, 1) ∧ decode cL_law (pc + 5 * j + 2) = .ok (.iconst ((j + 1 : Nat) : Int), 1) ∧ decode cL_law (pc + 5 * j + 3) = .ok (.iadd, 1) ∧ decode cL_law (pc + 5 * j + 4) = .ok (.iaload, 1)
section T92
variable {p : Program} {l : Launch} {e : Env} {s : State} {m : MethodId} {args : Array Value} {below : List Frame} {meth : Method} {c : Code} {H : Heap} {locs : List Loc} {cells slots : Nat} {Q : State → Prop}
variable {pc : Nat} {ls : Array Slot} {st : List Value} {D : va_G} {cT : Nat → ClassId} {sv ad ad0 ad1 : Nat → Nat} {μ ν : Mem} {xs : Nat → Int32} {b L k : Nat} {v1 v2 : Value}
theorem largs (hx : p.tables.exec = Jvm.exec) (hb : c.code = cL_law) (hX : va_X b L xs s s.heap) (hbl : b < s.heap.size) (hS : va_S (fun q => s.heap.size ≤ q) s.heap H locs) (hl : lv_has ls 4 [(3, .int (Int32.ofInt ((5 * k : Nat) : Int))), (2, v2), (1, v1), (0, .ref b)]) (hk : 5 * k + 5 ≤ L) (hL : L ≤ 2560) : ∀ (n : Nat), n ≤ 4 → Dargs pc n → W p l e room_1 s m args below meth c H locs cells slots Q (F0 m (pc + 5 * n) ls (((argl xs k n).map (cv ad sv)).reverse ++ st)) → W p l e room_1 s m args below meth c H locs cells slots Q (F0 m pc ls st)
  | 0, _, _, h => h
  | n + 1, hn, hd, h => by
    refine largs hx hb hX hbl hS hl hk hL n (by omega) (fun j hj => hd j (by omega)) ?_
    obtain ⟨d0, d1, d2, d3, d4⟩ := hd n (by omega)
    refine lv_aload_n hx hb d0 rfl (lv_at hl 3 rfl) ?_
    refine lv_iload_n hx hb d1 rfl (lv_at hl 0 rfl) ?_
    refine lv_iconst (v := Int32.ofInt ((n + 1 : Nat) : Int)) hx hb d2 rfl ?_
    refine lv_iadd hx hb d3 ?_
    have e1 : Int32.ofInt ((5 * k : Nat) : Int) + Int32.ofInt ((n + 1 : Nat) : Int) = Int32.ofInt ((5 * k + (n + 1) : Nat) : Int) := by
      rw [← Int32.ofInt_add, ← Int.natCast_add]
    rw [e1]
    obtain ⟨h1, h2⟩ := i32_in (a := ((5 * k + (n + 1) : Nat) : Int)) (n := L) (by omega) (by omega) (by omega)
    refine va_sld hx hb hX hbl (A := fun q => s.heap.size ≤ q) (by show ¬ s.heap.size ≤ b; omega) hS h1 d4 ?_
    rw [h2, Int.toNat_natCast]
    have e2 : ((argl xs k (n + 1)).map (cv ad sv)).reverse ++ st = .int (xs (5 * k + (n + 1))) :: (((argl xs k n).map (cv ad sv)).reverse ++ st) := by
      show ((argl xs k n ++ [(0, (xs (5 * k + (n + 1))).toInt)]).map (cv ad sv)).reverse ++ st = _
      rw [List.map_append, List.reverse_append]
      show cv ad sv (0, (xs (5 * k + (n + 1))).toInt) :: _ = _
      rw [cv_int, Int32.ofInt_toInt]
      rfl
    rw [e2] at h
    exact h
theorem lcase {M4 M5 : MD} {na i4 i5 : Nat} {N' off : Int} (C : LC D cT sv ad0 ad1 p s m args c) (hm4 : LM M4 0 4 na i4) (hm5 : LM M5 1 5 na i5) (hag : MetP M5 ((105, 0) :: argl xs k na) ν (fun z ν' => MetP M4 ((104, 0) :: argl xs k na) μ (fun a μ' => a = z ∧ REL N' μ' ν')))
    (hX : va_X b L xs s s.heap) (hbl : b < s.heap.size) (hP0 : va_P D vwCl (wsW 0 ad0 cT μ) H) (hP1 : va_P D vwCl (wsW 1 ad1 cT ν) H) (hS : va_S (fun q => s.heap.size ≤ q) s.heap H locs) (hl : lv_has ls 4 [(3, .int (Int32.ofInt ((5 * k : Nat) : Int))), (2, .ref (ad1 0)), (1, .ref (ad0 0)), (0, .ref b)]) (hk : 5 * k + 5 ≤ L) (hL : L ≤ 2560) (hna : na ≤ 4) (hcells : cells ≤ 600000) (hslots : slots ≤ 7302250)
    (d1 : decode cL_law pc = .ok (.aload_n 1, 1)) (d2 : Dargs (pc + 1) na) (d3 : decode cL_law (pc + 1 + 5 * na) = .ok (.invokevirtual i4, 3)) (d4 : decode cL_law (pc + 1 + 5 * na + 3) = .ok (.aload_n 2, 1)) (d5 : Dargs (pc + 1 + 5 * na + 3 + 1) na) (d6 : decode cL_law (pc + 1 + 5 * na + 3 + 1 + 5 * na) = .ok (.invokevirtual i5, 3)) (d7 : decode cL_law (pc + 1 + 5 * na + 3 + 1 + 5 * na + 3) = .ok (.if_icmp .eq off, 3)) (d8 : ((pc + 1 + 5 * na + 3 + 1 + 5 * na + 3 : Nat) : Int) + off = ((711 : Nat) : Int))
    (kk : ∀ (μ' ν' : Mem) (H1 : Heap) (locs1 : List Loc), REL N' μ' ν' → va_P D vwCl (wsW 0 ad0 cT μ') H1 → va_P D vwCl (wsW 1 ad1 cT ν') H1 → va_S (fun q => s.heap.size ≤ q) s.heap H1 locs1 → W p l e room_1 s m args below meth c H1 locs1 cells slots Q (F0 m 711 ls [])) : W p l e room_1 s m args below meth c H locs cells slots Q (F0 m pc ls []) := by
  obtain ⟨hx, hb, -⟩ := id C
  refine lv_aload_n hx hb d1 rfl (lv_at hl 2 rfl) ?_
  refine largs (ad := ad0) (sv := sv) hx hb hX hbl hS hl hk hL na hna d2 ?_
  refine law_class (rest := []) C hm4 hm5 hag (argl_int xs k na) (argl_len xs k na) hP0 hP1 hS hl.1 hcells hslots (by decide) d3 d6 (fun x H1 locs1 hall hP1 hS => ?_)
  refine lv_aload_n hx hb d4 rfl (lv_at hl 1 rfl) ?_
  refine largs (ad := ad1) (sv := sv) hx hb hX hbl hS hl hk hL na hna d5 ?_
  refine law_model_go (rest := [.int x]) C hm5 hag (argl_int xs k na) (argl_len xs k na) hP1 hS hl.1 hcells hslots (Nat.le_of_ble_eq_true rfl) d6 (fun z ν' H2 locs2 hp hP1 hkeep hS => ?_)
  obtain ⟨a, μ', h1, ⟨h2, h3⟩, h4⟩ := hall (0, z) ν' hp
  have haz : a = z := (Prod.mk.inj h2).2
  subst haz
  refine lv_icmp_eq hx hb d7 d8 (fun _ => kk μ' ν' H2 locs2 h3 (hkeep μ' h4) hP1 hS) (fun h => absurd h1.symm h)
theorem kw220 : Cond.methodLink RL 13 yX4_write ∈ gW := List.mem_filter.mpr ⟨List.mem_append_right _ (List.mem_of_getElem? (i := 220) (by decide +kernel)), (by decide +kernel)⟩
theorem kw221 : Cond.instanceMethod yX4_write ∈ gW := List.mem_filter.mpr ⟨List.mem_append_right _ (List.mem_of_getElem? (i := 221) (by decide +kernel)), (by decide +kernel)⟩
theorem kw222 : Cond.selects RX4 yX4_write yX4_write ∈ gW := List.mem_filter.mpr ⟨List.mem_append_right _ (List.mem_of_getElem? (i := 222) (by decide +kernel)), (by decide +kernel)⟩
theorem lm4_write : LM mX4_write 0 4 1 13 := ⟨rfl, rfl, mkX4_write, kw221, kw222, kw220, by decide, TX4, 7, tyX4, cls4⟩
theorem kw609 : Cond.methodLink RL 17 yX5_write ∈ gW := List.mem_filter.mpr ⟨List.mem_append_right _ (List.mem_of_getElem? (i := 609) (by decide +kernel)), (by decide +kernel)⟩
theorem kw610 : Cond.instanceMethod yX5_write ∈ gW := List.mem_filter.mpr ⟨List.mem_append_right _ (List.mem_of_getElem? (i := 610) (by decide +kernel)), (by decide +kernel)⟩
theorem kw611 : Cond.selects RX5 yX5_write yX5_write ∈ gW := List.mem_filter.mpr ⟨List.mem_append_right _ (List.mem_of_getElem? (i := 611) (by decide +kernel)), (by decide +kernel)⟩
theorem lm5_write : LM mX5_write 1 5 1 17 := ⟨rfl, rfl, mkX5_write, kw610, kw611, kw609, by decide, TX5, 19, tyX5, cls5⟩
theorem kw230 : Cond.methodLink RL 18 yX4_house ∈ gW := List.mem_filter.mpr ⟨List.mem_append_right _ (List.mem_of_getElem? (i := 230) (by decide +kernel)), (by decide +kernel)⟩
theorem kw231 : Cond.instanceMethod yX4_house ∈ gW := List.mem_filter.mpr ⟨List.mem_append_right _ (List.mem_of_getElem? (i := 231) (by decide +kernel)), (by decide +kernel)⟩
theorem kw232 : Cond.selects RX4 yX4_house yX4_house ∈ gW := List.mem_filter.mpr ⟨List.mem_append_right _ (List.mem_of_getElem? (i := 232) (by decide +kernel)), (by decide +kernel)⟩
theorem lm4_house : LM mX4_house 0 4 0 18 := ⟨rfl, rfl, mkX4_house, kw231, kw232, kw230, by decide, TX4, 7, tyX4, cls4⟩
theorem kw619 : Cond.methodLink RL 22 yX5_house ∈ gW := List.mem_filter.mpr ⟨List.mem_append_right _ (List.mem_of_getElem? (i := 619) (by decide +kernel)), (by decide +kernel)⟩
theorem kw620 : Cond.instanceMethod yX5_house ∈ gW := List.mem_filter.mpr ⟨List.mem_append_right _ (List.mem_of_getElem? (i := 620) (by decide +kernel)), (by decide +kernel)⟩
theorem kw621 : Cond.selects RX5 yX5_house yX5_house ∈ gW := List.mem_filter.mpr ⟨List.mem_append_right _ (List.mem_of_getElem? (i := 621) (by decide +kernel)), (by decide +kernel)⟩
theorem lm5_house : LM mX5_house 1 5 0 22 := ⟨rfl, rfl, mkX5_house, kw620, kw621, kw619, by decide, TX5, 19, tyX5, cls5⟩
theorem kw318 : Cond.methodLink RL 23 yX4_fault ∈ gW := List.mem_filter.mpr ⟨List.mem_append_right _ (List.mem_of_getElem? (i := 318) (by decide +kernel)), (by decide +kernel)⟩
theorem kw319 : Cond.instanceMethod yX4_fault ∈ gW := List.mem_filter.mpr ⟨List.mem_append_right _ (List.mem_of_getElem? (i := 319) (by decide +kernel)), (by decide +kernel)⟩
theorem kw320 : Cond.selects RX4 yX4_fault yX4_fault ∈ gW := List.mem_filter.mpr ⟨List.mem_append_right _ (List.mem_of_getElem? (i := 320) (by decide +kernel)), (by decide +kernel)⟩
theorem lm4_fault : LM mX4_fault 0 4 0 23 := ⟨rfl, rfl, mkX4_fault, kw319, kw320, kw318, by decide, TX4, 7, tyX4, cls4⟩
theorem kw693 : Cond.methodLink RL 26 yX5_fault ∈ gW := List.mem_filter.mpr ⟨List.mem_append_right _ (List.mem_of_getElem? (i := 693) (by decide +kernel)), (by decide +kernel)⟩
theorem kw694 : Cond.instanceMethod yX5_fault ∈ gW := List.mem_filter.mpr ⟨List.mem_append_right _ (List.mem_of_getElem? (i := 694) (by decide +kernel)), (by decide +kernel)⟩
theorem kw695 : Cond.selects RX5 yX5_fault yX5_fault ∈ gW := List.mem_filter.mpr ⟨List.mem_append_right _ (List.mem_of_getElem? (i := 695) (by decide +kernel)), (by decide +kernel)⟩
theorem lm5_fault : LM mX5_fault 1 5 0 26 := ⟨rfl, rfl, mkX5_fault, kw694, kw695, kw693, by decide, TX5, 19, tyX5, cls5⟩
theorem kw322 : Cond.methodLink RL 27 yX4_load ∈ gW := List.mem_filter.mpr ⟨List.mem_append_right _ (List.mem_of_getElem? (i := 322) (by decide +kernel)), (by decide +kernel)⟩
theorem kw323 : Cond.instanceMethod yX4_load ∈ gW := List.mem_filter.mpr ⟨List.mem_append_right _ (List.mem_of_getElem? (i := 323) (by decide +kernel)), (by decide +kernel)⟩
theorem kw324 : Cond.selects RX4 yX4_load yX4_load ∈ gW := List.mem_filter.mpr ⟨List.mem_append_right _ (List.mem_of_getElem? (i := 324) (by decide +kernel)), (by decide +kernel)⟩
theorem lm4_load : LM mX4_load 0 4 3 27 := ⟨rfl, rfl, mkX4_load, kw323, kw324, kw322, by decide, TX4, 7, tyX4, cls4⟩
theorem kw697 : Cond.methodLink RL 31 yX5_load ∈ gW := List.mem_filter.mpr ⟨List.mem_append_right _ (List.mem_of_getElem? (i := 697) (by decide +kernel)), (by decide +kernel)⟩
theorem kw698 : Cond.instanceMethod yX5_load ∈ gW := List.mem_filter.mpr ⟨List.mem_append_right _ (List.mem_of_getElem? (i := 698) (by decide +kernel)), (by decide +kernel)⟩
theorem kw699 : Cond.selects RX5 yX5_load yX5_load ∈ gW := List.mem_filter.mpr ⟨List.mem_append_right _ (List.mem_of_getElem? (i := 699) (by decide +kernel)), (by decide +kernel)⟩
theorem lm5_load : LM mX5_load 1 5 3 31 := ⟨rfl, rfl, mkX5_load, kw698, kw699, kw697, by decide, TX5, 19, tyX5, cls5⟩
theorem kw342 : Cond.methodLink RL 32 yX4_set ∈ gW := List.mem_filter.mpr ⟨List.mem_append_right _ (List.mem_of_getElem? (i := 342) (by decide +kernel)), (by decide +kernel)⟩
theorem kw343 : Cond.instanceMethod yX4_set ∈ gW := List.mem_filter.mpr ⟨List.mem_append_right _ (List.mem_of_getElem? (i := 343) (by decide +kernel)), (by decide +kernel)⟩
theorem kw344 : Cond.selects RX4 yX4_set yX4_set ∈ gW := List.mem_filter.mpr ⟨List.mem_append_right _ (List.mem_of_getElem? (i := 344) (by decide +kernel)), (by decide +kernel)⟩
theorem lm4_set : LM mX4_set 0 4 3 32 := ⟨rfl, rfl, mkX4_set, kw343, kw344, kw342, by decide, TX4, 7, tyX4, cls4⟩
theorem kw716 : Cond.methodLink RL 35 yX5_set ∈ gW := List.mem_filter.mpr ⟨List.mem_append_right _ (List.mem_of_getElem? (i := 716) (by decide +kernel)), (by decide +kernel)⟩
theorem kw717 : Cond.instanceMethod yX5_set ∈ gW := List.mem_filter.mpr ⟨List.mem_append_right _ (List.mem_of_getElem? (i := 717) (by decide +kernel)), (by decide +kernel)⟩
theorem kw718 : Cond.selects RX5 yX5_set yX5_set ∈ gW := List.mem_filter.mpr ⟨List.mem_append_right _ (List.mem_of_getElem? (i := 718) (by decide +kernel)), (by decide +kernel)⟩
theorem lm5_set : LM mX5_set 1 5 3 35 := ⟨rfl, rfl, mkX5_set, kw717, kw718, kw716, by decide, TX5, 19, tyX5, cls5⟩
theorem kw350 : Cond.methodLink RL 36 yX4_round ∈ gW := List.mem_filter.mpr ⟨List.mem_append_right _ (List.mem_of_getElem? (i := 350) (by decide +kernel)), (by decide +kernel)⟩
theorem kw351 : Cond.instanceMethod yX4_round ∈ gW := List.mem_filter.mpr ⟨List.mem_append_right _ (List.mem_of_getElem? (i := 351) (by decide +kernel)), (by decide +kernel)⟩
theorem kw352 : Cond.selects RX4 yX4_round yX4_round ∈ gW := List.mem_filter.mpr ⟨List.mem_append_right _ (List.mem_of_getElem? (i := 352) (by decide +kernel)), (by decide +kernel)⟩
theorem lm4_round : LM mX4_round 0 4 0 36 := ⟨rfl, rfl, mkX4_round, kw351, kw352, kw350, by decide, TX4, 7, tyX4, cls4⟩
theorem kw722 : Cond.methodLink RL 39 yX5_round ∈ gW := List.mem_filter.mpr ⟨List.mem_append_right _ (List.mem_of_getElem? (i := 722) (by decide +kernel)), (by decide +kernel)⟩
theorem kw723 : Cond.instanceMethod yX5_round ∈ gW := List.mem_filter.mpr ⟨List.mem_append_right _ (List.mem_of_getElem? (i := 723) (by decide +kernel)), (by decide +kernel)⟩
theorem kw724 : Cond.selects RX5 yX5_round yX5_round ∈ gW := List.mem_filter.mpr ⟨List.mem_append_right _ (List.mem_of_getElem? (i := 724) (by decide +kernel)), (by decide +kernel)⟩
theorem lm5_round : LM mX5_round 1 5 0 39 := ⟨rfl, rfl, mkX5_round, kw723, kw724, kw722, by decide, TX5, 19, tyX5, cls5⟩
theorem kw438 : Cond.methodLink RL 40 yX4_undo ∈ gW := List.mem_filter.mpr ⟨List.mem_append_right _ (List.mem_of_getElem? (i := 438) (by decide +kernel)), (by decide +kernel)⟩
theorem kw439 : Cond.instanceMethod yX4_undo ∈ gW := List.mem_filter.mpr ⟨List.mem_append_right _ (List.mem_of_getElem? (i := 439) (by decide +kernel)), (by decide +kernel)⟩
theorem kw440 : Cond.selects RX4 yX4_undo yX4_undo ∈ gW := List.mem_filter.mpr ⟨List.mem_append_right _ (List.mem_of_getElem? (i := 440) (by decide +kernel)), (by decide +kernel)⟩
theorem lm4_undo : LM mX4_undo 0 4 0 40 := ⟨rfl, rfl, mkX4_undo, kw439, kw440, kw438, by decide, TX4, 7, tyX4, cls4⟩
theorem kw801 : Cond.methodLink RL 43 yX5_undo ∈ gW := List.mem_filter.mpr ⟨List.mem_append_right _ (List.mem_of_getElem? (i := 801) (by decide +kernel)), (by decide +kernel)⟩
theorem kw802 : Cond.instanceMethod yX5_undo ∈ gW := List.mem_filter.mpr ⟨List.mem_append_right _ (List.mem_of_getElem? (i := 802) (by decide +kernel)), (by decide +kernel)⟩
theorem kw803 : Cond.selects RX5 yX5_undo yX5_undo ∈ gW := List.mem_filter.mpr ⟨List.mem_append_right _ (List.mem_of_getElem? (i := 803) (by decide +kernel)), (by decide +kernel)⟩
theorem lm5_undo : LM mX5_undo 1 5 0 43 := ⟨rfl, rfl, mkX5_undo, kw802, kw803, kw801, by decide, TX5, 19, tyX5, cls5⟩
theorem kw442 : Cond.methodLink RL 44 yX4_service ∈ gW := List.mem_filter.mpr ⟨List.mem_append_right _ (List.mem_of_getElem? (i := 442) (by decide +kernel)), (by decide +kernel)⟩
theorem kw443 : Cond.instanceMethod yX4_service ∈ gW := List.mem_filter.mpr ⟨List.mem_append_right _ (List.mem_of_getElem? (i := 443) (by decide +kernel)), (by decide +kernel)⟩
theorem kw444 : Cond.selects RX4 yX4_service yX4_service ∈ gW := List.mem_filter.mpr ⟨List.mem_append_right _ (List.mem_of_getElem? (i := 444) (by decide +kernel)), (by decide +kernel)⟩
theorem lm4_service : LM mX4_service 0 4 2 44 := ⟨rfl, rfl, mkX4_service, kw443, kw444, kw442, by decide, TX4, 7, tyX4, cls4⟩
theorem kw805 : Cond.methodLink RL 48 yX5_service ∈ gW := List.mem_filter.mpr ⟨List.mem_append_right _ (List.mem_of_getElem? (i := 805) (by decide +kernel)), (by decide +kernel)⟩
theorem kw806 : Cond.instanceMethod yX5_service ∈ gW := List.mem_filter.mpr ⟨List.mem_append_right _ (List.mem_of_getElem? (i := 806) (by decide +kernel)), (by decide +kernel)⟩
theorem kw807 : Cond.selects RX5 yX5_service yX5_service ∈ gW := List.mem_filter.mpr ⟨List.mem_append_right _ (List.mem_of_getElem? (i := 807) (by decide +kernel)), (by decide +kernel)⟩
theorem lm5_service : LM mX5_service 1 5 2 48 := ⟨rfl, rfl, mkX5_service, kw806, kw807, kw805, by decide, TX5, 19, tyX5, cls5⟩
theorem kw450 : Cond.methodLink RL 49 yX4_measure ∈ gW := List.mem_filter.mpr ⟨List.mem_append_right _ (List.mem_of_getElem? (i := 450) (by decide +kernel)), (by decide +kernel)⟩
theorem kw451 : Cond.instanceMethod yX4_measure ∈ gW := List.mem_filter.mpr ⟨List.mem_append_right _ (List.mem_of_getElem? (i := 451) (by decide +kernel)), (by decide +kernel)⟩
theorem kw452 : Cond.selects RX4 yX4_measure yX4_measure ∈ gW := List.mem_filter.mpr ⟨List.mem_append_right _ (List.mem_of_getElem? (i := 452) (by decide +kernel)), (by decide +kernel)⟩
theorem lm4_measure : LM mX4_measure 0 4 3 49 := ⟨rfl, rfl, mkX4_measure, kw451, kw452, kw450, by decide, TX4, 7, tyX4, cls4⟩
theorem kw813 : Cond.methodLink RL 52 yX5_measure ∈ gW := List.mem_filter.mpr ⟨List.mem_append_right _ (List.mem_of_getElem? (i := 813) (by decide +kernel)), (by decide +kernel)⟩
theorem kw814 : Cond.instanceMethod yX5_measure ∈ gW := List.mem_filter.mpr ⟨List.mem_append_right _ (List.mem_of_getElem? (i := 814) (by decide +kernel)), (by decide +kernel)⟩
theorem kw815 : Cond.selects RX5 yX5_measure yX5_measure ∈ gW := List.mem_filter.mpr ⟨List.mem_append_right _ (List.mem_of_getElem? (i := 815) (by decide +kernel)), (by decide +kernel)⟩
theorem lm5_measure : LM mX5_measure 1 5 3 52 := ⟨rfl, rfl, mkX5_measure, kw814, kw815, kw813, by decide, TX5, 19, tyX5, cls5⟩
theorem kw459 : Cond.methodLink RL 53 yX4_starting ∈ gW := List.mem_filter.mpr ⟨List.mem_append_right _ (List.mem_of_getElem? (i := 459) (by decide +kernel)), (by decide +kernel)⟩
theorem kw460 : Cond.instanceMethod yX4_starting ∈ gW := List.mem_filter.mpr ⟨List.mem_append_right _ (List.mem_of_getElem? (i := 460) (by decide +kernel)), (by decide +kernel)⟩
theorem kw461 : Cond.selects RX4 yX4_starting yX4_starting ∈ gW := List.mem_filter.mpr ⟨List.mem_append_right _ (List.mem_of_getElem? (i := 461) (by decide +kernel)), (by decide +kernel)⟩
theorem lm4_starting : LM mX4_starting 0 4 2 53 := ⟨rfl, rfl, mkX4_starting, kw460, kw461, kw459, by decide, TX4, 7, tyX4, cls4⟩
theorem kw823 : Cond.methodLink RL 56 yX5_starting ∈ gW := List.mem_filter.mpr ⟨List.mem_append_right _ (List.mem_of_getElem? (i := 823) (by decide +kernel)), (by decide +kernel)⟩
theorem kw824 : Cond.instanceMethod yX5_starting ∈ gW := List.mem_filter.mpr ⟨List.mem_append_right _ (List.mem_of_getElem? (i := 824) (by decide +kernel)), (by decide +kernel)⟩
theorem kw825 : Cond.selects RX5 yX5_starting yX5_starting ∈ gW := List.mem_filter.mpr ⟨List.mem_append_right _ (List.mem_of_getElem? (i := 825) (by decide +kernel)), (by decide +kernel)⟩
theorem lm5_starting : LM mX5_starting 1 5 2 56 := ⟨rfl, rfl, mkX5_starting, kw824, kw825, kw823, by decide, TX5, 19, tyX5, cls5⟩
theorem kw463 : Cond.methodLink RL 57 yX4_count ∈ gW := List.mem_filter.mpr ⟨List.mem_append_right _ (List.mem_of_getElem? (i := 463) (by decide +kernel)), (by decide +kernel)⟩
theorem kw464 : Cond.instanceMethod yX4_count ∈ gW := List.mem_filter.mpr ⟨List.mem_append_right _ (List.mem_of_getElem? (i := 464) (by decide +kernel)), (by decide +kernel)⟩
theorem kw465 : Cond.selects RX4 yX4_count yX4_count ∈ gW := List.mem_filter.mpr ⟨List.mem_append_right _ (List.mem_of_getElem? (i := 465) (by decide +kernel)), (by decide +kernel)⟩
theorem lm4_count : LM mX4_count 0 4 1 57 := ⟨rfl, rfl, mkX4_count, kw464, kw465, kw463, by decide, TX4, 7, tyX4, cls4⟩
theorem kw828 : Cond.methodLink RL 60 yX5_count ∈ gW := List.mem_filter.mpr ⟨List.mem_append_right _ (List.mem_of_getElem? (i := 828) (by decide +kernel)), (by decide +kernel)⟩
theorem kw829 : Cond.instanceMethod yX5_count ∈ gW := List.mem_filter.mpr ⟨List.mem_append_right _ (List.mem_of_getElem? (i := 829) (by decide +kernel)), (by decide +kernel)⟩
theorem kw830 : Cond.selects RX5 yX5_count yX5_count ∈ gW := List.mem_filter.mpr ⟨List.mem_append_right _ (List.mem_of_getElem? (i := 830) (by decide +kernel)), (by decide +kernel)⟩
theorem lm5_count : LM mX5_count 1 5 1 60 := ⟨rfl, rfl, mkX5_count, kw829, kw830, kw828, by decide, TX5, 19, tyX5, cls5⟩
theorem kw467 : Cond.methodLink RL 61 yX4_would ∈ gW := List.mem_filter.mpr ⟨List.mem_append_right _ (List.mem_of_getElem? (i := 467) (by decide +kernel)), (by decide +kernel)⟩
theorem kw468 : Cond.instanceMethod yX4_would ∈ gW := List.mem_filter.mpr ⟨List.mem_append_right _ (List.mem_of_getElem? (i := 468) (by decide +kernel)), (by decide +kernel)⟩
theorem kw469 : Cond.selects RX4 yX4_would yX4_would ∈ gW := List.mem_filter.mpr ⟨List.mem_append_right _ (List.mem_of_getElem? (i := 469) (by decide +kernel)), (by decide +kernel)⟩
theorem lm4_would : LM mX4_would 0 4 2 61 := ⟨rfl, rfl, mkX4_would, kw468, kw469, kw467, by decide, TX4, 7, tyX4, cls4⟩
theorem kw833 : Cond.methodLink RL 64 yX5_would ∈ gW := List.mem_filter.mpr ⟨List.mem_append_right _ (List.mem_of_getElem? (i := 833) (by decide +kernel)), (by decide +kernel)⟩
theorem kw834 : Cond.instanceMethod yX5_would ∈ gW := List.mem_filter.mpr ⟨List.mem_append_right _ (List.mem_of_getElem? (i := 834) (by decide +kernel)), (by decide +kernel)⟩
theorem kw835 : Cond.selects RX5 yX5_would yX5_would ∈ gW := List.mem_filter.mpr ⟨List.mem_append_right _ (List.mem_of_getElem? (i := 835) (by decide +kernel)), (by decide +kernel)⟩
theorem lm5_would : LM mX5_would 1 5 2 64 := ⟨rfl, rfl, mkX5_would, kw834, kw835, kw833, by decide, TX5, 19, tyX5, cls5⟩
theorem kw475 : Cond.methodLink RL 65 yX4_why ∈ gW := List.mem_filter.mpr ⟨List.mem_append_right _ (List.mem_of_getElem? (i := 475) (by decide +kernel)), (by decide +kernel)⟩
theorem kw476 : Cond.instanceMethod yX4_why ∈ gW := List.mem_filter.mpr ⟨List.mem_append_right _ (List.mem_of_getElem? (i := 476) (by decide +kernel)), (by decide +kernel)⟩
theorem kw477 : Cond.selects RX4 yX4_why yX4_why ∈ gW := List.mem_filter.mpr ⟨List.mem_append_right _ (List.mem_of_getElem? (i := 477) (by decide +kernel)), (by decide +kernel)⟩
theorem lm4_why : LM mX4_why 0 4 2 65 := ⟨rfl, rfl, mkX4_why, kw476, kw477, kw475, by decide, TX4, 7, tyX4, cls4⟩
theorem kw842 : Cond.methodLink RL 68 yX5_why ∈ gW := List.mem_filter.mpr ⟨List.mem_append_right _ (List.mem_of_getElem? (i := 842) (by decide +kernel)), (by decide +kernel)⟩
theorem kw843 : Cond.instanceMethod yX5_why ∈ gW := List.mem_filter.mpr ⟨List.mem_append_right _ (List.mem_of_getElem? (i := 843) (by decide +kernel)), (by decide +kernel)⟩
theorem kw844 : Cond.selects RX5 yX5_why yX5_why ∈ gW := List.mem_filter.mpr ⟨List.mem_append_right _ (List.mem_of_getElem? (i := 844) (by decide +kernel)), (by decide +kernel)⟩
theorem lm5_why : LM mX5_why 1 5 2 68 := ⟨rfl, rfl, mkX5_why, kw843, kw844, kw842, by decide, TX5, 19, tyX5, cls5⟩
theorem kw483 : Cond.methodLink RL 69 yX4_forecast ∈ gW := List.mem_filter.mpr ⟨List.mem_append_right _ (List.mem_of_getElem? (i := 483) (by decide +kernel)), (by decide +kernel)⟩
theorem kw484 : Cond.instanceMethod yX4_forecast ∈ gW := List.mem_filter.mpr ⟨List.mem_append_right _ (List.mem_of_getElem? (i := 484) (by decide +kernel)), (by decide +kernel)⟩
theorem kw485 : Cond.selects RX4 yX4_forecast yX4_forecast ∈ gW := List.mem_filter.mpr ⟨List.mem_append_right _ (List.mem_of_getElem? (i := 485) (by decide +kernel)), (by decide +kernel)⟩
theorem lm4_forecast : LM mX4_forecast 0 4 3 69 := ⟨rfl, rfl, mkX4_forecast, kw484, kw485, kw483, by decide, TX4, 7, tyX4, cls4⟩
theorem kw846 : Cond.methodLink RL 72 yX5_forecast ∈ gW := List.mem_filter.mpr ⟨List.mem_append_right _ (List.mem_of_getElem? (i := 846) (by decide +kernel)), (by decide +kernel)⟩
theorem kw847 : Cond.instanceMethod yX5_forecast ∈ gW := List.mem_filter.mpr ⟨List.mem_append_right _ (List.mem_of_getElem? (i := 847) (by decide +kernel)), (by decide +kernel)⟩
theorem kw848 : Cond.selects RX5 yX5_forecast yX5_forecast ∈ gW := List.mem_filter.mpr ⟨List.mem_append_right _ (List.mem_of_getElem? (i := 848) (by decide +kernel)), (by decide +kernel)⟩
theorem lm5_forecast : LM mX5_forecast 1 5 3 72 := ⟨rfl, rfl, mkX5_forecast, kw847, kw848, kw846, by decide, TX5, 19, tyX5, cls5⟩
theorem kw488 : Cond.methodLink RL 73 yX4_ahead ∈ gW := List.mem_filter.mpr ⟨List.mem_append_right _ (List.mem_of_getElem? (i := 488) (by decide +kernel)), (by decide +kernel)⟩
theorem kw489 : Cond.instanceMethod yX4_ahead ∈ gW := List.mem_filter.mpr ⟨List.mem_append_right _ (List.mem_of_getElem? (i := 489) (by decide +kernel)), (by decide +kernel)⟩
theorem kw490 : Cond.selects RX4 yX4_ahead yX4_ahead ∈ gW := List.mem_filter.mpr ⟨List.mem_append_right _ (List.mem_of_getElem? (i := 490) (by decide +kernel)), (by decide +kernel)⟩
theorem lm4_ahead : LM mX4_ahead 0 4 2 73 := ⟨rfl, rfl, mkX4_ahead, kw489, kw490, kw488, by decide, TX4, 7, tyX4, cls4⟩
theorem kw851 : Cond.methodLink RL 76 yX5_ahead ∈ gW := List.mem_filter.mpr ⟨List.mem_append_right _ (List.mem_of_getElem? (i := 851) (by decide +kernel)), (by decide +kernel)⟩
theorem kw852 : Cond.instanceMethod yX5_ahead ∈ gW := List.mem_filter.mpr ⟨List.mem_append_right _ (List.mem_of_getElem? (i := 852) (by decide +kernel)), (by decide +kernel)⟩
theorem kw853 : Cond.selects RX5 yX5_ahead yX5_ahead ∈ gW := List.mem_filter.mpr ⟨List.mem_append_right _ (List.mem_of_getElem? (i := 853) (by decide +kernel)), (by decide +kernel)⟩
theorem lm5_ahead : LM mX5_ahead 1 5 2 76 := ⟨rfl, rfl, mkX5_ahead, kw852, kw853, kw851, by decide, TX5, 19, tyX5, cls5⟩
theorem kw500 : Cond.methodLink RL 77 yX4_until ∈ gW := List.mem_filter.mpr ⟨List.mem_append_right _ (List.mem_of_getElem? (i := 500) (by decide +kernel)), (by decide +kernel)⟩
theorem kw501 : Cond.instanceMethod yX4_until ∈ gW := List.mem_filter.mpr ⟨List.mem_append_right _ (List.mem_of_getElem? (i := 501) (by decide +kernel)), (by decide +kernel)⟩
theorem kw502 : Cond.selects RX4 yX4_until yX4_until ∈ gW := List.mem_filter.mpr ⟨List.mem_append_right _ (List.mem_of_getElem? (i := 502) (by decide +kernel)), (by decide +kernel)⟩
theorem lm4_until : LM mX4_until 0 4 2 77 := ⟨rfl, rfl, mkX4_until, kw501, kw502, kw500, by decide, TX4, 7, tyX4, cls4⟩
theorem kw861 : Cond.methodLink RL 80 yX5_until ∈ gW := List.mem_filter.mpr ⟨List.mem_append_right _ (List.mem_of_getElem? (i := 861) (by decide +kernel)), (by decide +kernel)⟩
theorem kw862 : Cond.instanceMethod yX5_until ∈ gW := List.mem_filter.mpr ⟨List.mem_append_right _ (List.mem_of_getElem? (i := 862) (by decide +kernel)), (by decide +kernel)⟩
theorem kw863 : Cond.selects RX5 yX5_until yX5_until ∈ gW := List.mem_filter.mpr ⟨List.mem_append_right _ (List.mem_of_getElem? (i := 863) (by decide +kernel)), (by decide +kernel)⟩
theorem lm5_until : LM mX5_until 1 5 2 80 := ⟨rfl, rfl, mkX5_until, kw862, kw863, kw861, by decide, TX5, 19, tyX5, cls5⟩
theorem kw505 : Cond.methodLink RL 81 yX4_needs ∈ gW := List.mem_filter.mpr ⟨List.mem_append_right _ (List.mem_of_getElem? (i := 505) (by decide +kernel)), (by decide +kernel)⟩
theorem kw506 : Cond.instanceMethod yX4_needs ∈ gW := List.mem_filter.mpr ⟨List.mem_append_right _ (List.mem_of_getElem? (i := 506) (by decide +kernel)), (by decide +kernel)⟩
theorem kw507 : Cond.selects RX4 yX4_needs yX4_needs ∈ gW := List.mem_filter.mpr ⟨List.mem_append_right _ (List.mem_of_getElem? (i := 507) (by decide +kernel)), (by decide +kernel)⟩
theorem lm4_needs : LM mX4_needs 0 4 3 81 := ⟨rfl, rfl, mkX4_needs, kw506, kw507, kw505, by decide, TX4, 7, tyX4, cls4⟩
theorem kw866 : Cond.methodLink RL 84 yX5_needs ∈ gW := List.mem_filter.mpr ⟨List.mem_append_right _ (List.mem_of_getElem? (i := 866) (by decide +kernel)), (by decide +kernel)⟩
theorem kw867 : Cond.instanceMethod yX5_needs ∈ gW := List.mem_filter.mpr ⟨List.mem_append_right _ (List.mem_of_getElem? (i := 867) (by decide +kernel)), (by decide +kernel)⟩
theorem kw868 : Cond.selects RX5 yX5_needs yX5_needs ∈ gW := List.mem_filter.mpr ⟨List.mem_append_right _ (List.mem_of_getElem? (i := 868) (by decide +kernel)), (by decide +kernel)⟩
theorem lm5_needs : LM mX5_needs 1 5 3 84 := ⟨rfl, rfl, mkX5_needs, kw867, kw868, kw866, by decide, TX5, 19, tyX5, cls5⟩
theorem kw519 : Cond.methodLink RL 85 yX4_replay ∈ gW := List.mem_filter.mpr ⟨List.mem_append_right _ (List.mem_of_getElem? (i := 519) (by decide +kernel)), (by decide +kernel)⟩
theorem kw520 : Cond.instanceMethod yX4_replay ∈ gW := List.mem_filter.mpr ⟨List.mem_append_right _ (List.mem_of_getElem? (i := 520) (by decide +kernel)), (by decide +kernel)⟩
theorem kw521 : Cond.selects RX4 yX4_replay yX4_replay ∈ gW := List.mem_filter.mpr ⟨List.mem_append_right _ (List.mem_of_getElem? (i := 521) (by decide +kernel)), (by decide +kernel)⟩
theorem lm4_replay : LM mX4_replay 0 4 4 85 := ⟨rfl, rfl, mkX4_replay, kw520, kw521, kw519, by decide, TX4, 7, tyX4, cls4⟩
theorem kw871 : Cond.methodLink RL 89 yX5_replay ∈ gW := List.mem_filter.mpr ⟨List.mem_append_right _ (List.mem_of_getElem? (i := 871) (by decide +kernel)), (by decide +kernel)⟩
theorem kw872 : Cond.instanceMethod yX5_replay ∈ gW := List.mem_filter.mpr ⟨List.mem_append_right _ (List.mem_of_getElem? (i := 872) (by decide +kernel)), (by decide +kernel)⟩
theorem kw873 : Cond.selects RX5 yX5_replay yX5_replay ∈ gW := List.mem_filter.mpr ⟨List.mem_append_right _ (List.mem_of_getElem? (i := 873) (by decide +kernel)), (by decide +kernel)⟩
theorem lm5_replay : LM mX5_replay 1 5 4 89 := ⟨rfl, rfl, mkX5_replay, kw872, kw873, kw871, by decide, TX5, 19, tyX5, cls5⟩
theorem kw537 : Cond.methodLink RL 90 yX4_best ∈ gW := List.mem_filter.mpr ⟨List.mem_append_right _ (List.mem_of_getElem? (i := 537) (by decide +kernel)), (by decide +kernel)⟩
theorem kw538 : Cond.instanceMethod yX4_best ∈ gW := List.mem_filter.mpr ⟨List.mem_append_right _ (List.mem_of_getElem? (i := 538) (by decide +kernel)), (by decide +kernel)⟩
theorem kw539 : Cond.selects RX4 yX4_best yX4_best ∈ gW := List.mem_filter.mpr ⟨List.mem_append_right _ (List.mem_of_getElem? (i := 539) (by decide +kernel)), (by decide +kernel)⟩
theorem lm4_best : LM mX4_best 0 4 1 90 := ⟨rfl, rfl, mkX4_best, kw538, kw539, kw537, by decide, TX4, 7, tyX4, cls4⟩
theorem kw879 : Cond.methodLink RL 93 yX5_best ∈ gW := List.mem_filter.mpr ⟨List.mem_append_right _ (List.mem_of_getElem? (i := 879) (by decide +kernel)), (by decide +kernel)⟩
theorem kw880 : Cond.instanceMethod yX5_best ∈ gW := List.mem_filter.mpr ⟨List.mem_append_right _ (List.mem_of_getElem? (i := 880) (by decide +kernel)), (by decide +kernel)⟩
theorem kw881 : Cond.selects RX5 yX5_best yX5_best ∈ gW := List.mem_filter.mpr ⟨List.mem_append_right _ (List.mem_of_getElem? (i := 881) (by decide +kernel)), (by decide +kernel)⟩
theorem lm5_best : LM mX5_best 1 5 1 93 := ⟨rfl, rfl, mkX5_best, kw880, kw881, kw879, by decide, TX5, 19, tyX5, cls5⟩
theorem da_125 : Dargs 125 1 := by unfold Dargs; decide +kernel
theorem da_134 : Dargs 134 1 := by unfold Dargs; decide +kernel
theorem da_148 : Dargs 148 0 := by unfold Dargs; decide +kernel
theorem da_152 : Dargs 152 0 := by unfold Dargs; decide +kernel
theorem da_161 : Dargs 161 0 := by unfold Dargs; decide +kernel
theorem da_165 : Dargs 165 0 := by unfold Dargs; decide +kernel
theorem da_174 : Dargs 174 3 := by unfold Dargs; decide +kernel
theorem da_193 : Dargs 193 3 := by unfold Dargs; decide +kernel
theorem da_217 : Dargs 217 3 := by unfold Dargs; decide +kernel
theorem da_236 : Dargs 236 3 := by unfold Dargs; decide +kernel
theorem da_260 : Dargs 260 0 := by unfold Dargs; decide +kernel
theorem da_264 : Dargs 264 0 := by unfold Dargs; decide +kernel
theorem da_273 : Dargs 273 0 := by unfold Dargs; decide +kernel
theorem da_277 : Dargs 277 0 := by unfold Dargs; decide +kernel
theorem da_286 : Dargs 286 2 := by unfold Dargs; decide +kernel
theorem da_300 : Dargs 300 2 := by unfold Dargs; decide +kernel
theorem da_319 : Dargs 319 3 := by unfold Dargs; decide +kernel
theorem da_338 : Dargs 338 3 := by unfold Dargs; decide +kernel
theorem da_362 : Dargs 362 2 := by unfold Dargs; decide +kernel
theorem da_376 : Dargs 376 2 := by unfold Dargs; decide +kernel
theorem da_395 : Dargs 395 1 := by unfold Dargs; decide +kernel
theorem da_404 : Dargs 404 1 := by unfold Dargs; decide +kernel
theorem da_418 : Dargs 418 2 := by unfold Dargs; decide +kernel
theorem da_432 : Dargs 432 2 := by unfold Dargs; decide +kernel
theorem da_451 : Dargs 451 2 := by unfold Dargs; decide +kernel
theorem da_465 : Dargs 465 2 := by unfold Dargs; decide +kernel
theorem da_484 : Dargs 484 3 := by unfold Dargs; decide +kernel
theorem da_503 : Dargs 503 3 := by unfold Dargs; decide +kernel
theorem da_527 : Dargs 527 2 := by unfold Dargs; decide +kernel
theorem da_541 : Dargs 541 2 := by unfold Dargs; decide +kernel
theorem da_560 : Dargs 560 2 := by unfold Dargs; decide +kernel
theorem da_574 : Dargs 574 2 := by unfold Dargs; decide +kernel
theorem da_593 : Dargs 593 3 := by unfold Dargs; decide +kernel
theorem da_612 : Dargs 612 3 := by unfold Dargs; decide +kernel
theorem da_636 : Dargs 636 4 := by unfold Dargs; decide +kernel
theorem da_660 : Dargs 660 4 := by unfold Dargs; decide +kernel
theorem da_689 : Dargs 689 1 := by unfold Dargs; decide +kernel
theorem da_698 : Dargs 698 1 := by unfold Dargs; decide +kernel
theorem lsub5 {L : Nat} : Int32.ofNat L - Int32.ofInt 5 = Int32.ofInt ((L : Int) - 5) := by
  rw [show Int32.ofNat L = Int32.ofInt (L : Int) from rfl, ← Int32.ofInt_sub]
set_option maxHeartbeats 4000000 in
theorem lloop (C : LC D cT sv ad0 ad1 p s m args c) (hX : va_X b L xs s s.heap) (hbl : b < s.heap.size) (hL : L ≤ 2560) (hcells : cells ≤ 600000) (hslots : slots ≤ 7302250)
    (kk : ∀ (H1 : Heap) (locs1 : List Loc) (ls1 : Array Slot), va_S (fun q => s.heap.size ≤ q) s.heap H1 locs1 → W p l e room_1 s m args below meth c H1 locs1 cells slots Q (F0 m 717 ls1 [])) :
    ∀ (r k : Nat) (μ ν : Mem) (H : Heap) (locs : List Loc) (ls : Array Slot), L < 5 * (k + r) + 5 → REL (k : Int) μ ν → va_P D vwCl (wsW 0 ad0 cT μ) H → va_P D vwCl (wsW 1 ad1 cT ν) H → va_S (fun q => s.heap.size ≤ q) s.heap H locs → k ≤ 513 → lv_has ls 4 [(3, .int (Int32.ofInt ((5 * k : Nat) : Int))), (2, .ref (ad1 0)), (1, .ref (ad0 0)), (0, .ref b)] → W p l e room_1 s m args below meth c H locs cells slots Q (F0 m 18 ls []) := by
  intro r
  induction r with
  | zero =>
    intro k μ ν H locs ls hr hrel hP0 hP1 hS hk5 hl
    obtain ⟨hx, hb, -⟩ := id C
    refine lv_iload_n hx hb dL_law_18 rfl (lv_at hl 0 rfl) ?_
    refine lv_aload_n hx hb dL_law_19 rfl (lv_at hl 3 rfl) ?_
    refine va_slen hx hb hX hbl (A := fun q => s.heap.size ≤ q) (by show ¬ s.heap.size ≤ b; omega) hS dL_law_20 ?_
    refine lv_iconst (v := Int32.ofInt 5) hx hb dL_law_21 rfl ?_
    refine lv_isub hx hb dL_law_22 ?_
    rw [lsub5]
    exact lv_icmp_gt hx hb dL_law_23 rfl (fun _ => kk H locs ls hS) (fun h => absurd ((i32_lt (by omega) (by omega)).mpr (by omega)) h)
  | succ r ih =>
    intro k μ ν H locs ls hr hrel hP0 hP1 hS hk5 hl
    obtain ⟨hx, hb, -⟩ := id C
    refine lv_iload_n hx hb dL_law_18 rfl (lv_at hl 0 rfl) ?_
    refine lv_aload_n hx hb dL_law_19 rfl (lv_at hl 3 rfl) ?_
    refine va_slen hx hb hX hbl (A := fun q => s.heap.size ≤ q) (by show ¬ s.heap.size ≤ b; omega) hS dL_law_20 ?_
    refine lv_iconst (v := Int32.ofInt 5) hx hb dL_law_21 rfl ?_
    refine lv_isub hx hb dL_law_22 ?_
    rw [lsub5]
    refine lv_icmp_gt hx hb dL_law_23 rfl (fun _ => kk H locs ls hS) (fun hlt => ?_)
    have hkL : 5 * k + 5 ≤ L := by
      have h9 : ¬ ((L : Int) - 5 < ((5 * k : Nat) : Int)) := fun h => hlt ((i32_lt (by omega) (by omega)).mpr h)
      omega
    have go : ∀ (μ' ν' : Mem) (H1 : Heap) (locs1 : List Loc), REL ((k : Int) + 1) μ' ν' → va_P D vwCl (wsW 0 ad0 cT μ') H1 → va_P D vwCl (wsW 1 ad1 cT ν') H1 → va_S (fun q => s.heap.size ≤ q) s.heap H1 locs1 → W p l e room_1 s m args below meth c H1 locs1 cells slots Q (F0 m 711 ls []) := by
      intro μ' ν' H1 locs1 h1 h2 h3 h4
      refine lv_iinc hx hb dL_law_711 hl (k := 0) rfl (v := Int32.ofInt ((5 * (k + 1) : Nat) : Int)) (by rw [← Int32.ofInt_add]; congr 1) (by omega) rfl (fun ls' hl' => ?_)
      refine lv_goto hx hb dL_law_714 rfl ?_
      exact ih (k + 1) μ' ν' H1 locs1 ls' (by omega) (by rw [Int.natCast_add]; exact h1) h2 h3 h4 (by omega) hl'
    have hN0 : (0 : Int) ≤ (k : Int) := by omega
    have hN : (0 : Int) ≤ (k : Int) ∧ (k : Int) < 100000 := by omega
    have hN50 : (0 : Int) ≤ (k : Int) ∧ (k : Int) + 50 < 100000 := by omega
    refine lv_aload_n hx hb dL_law_26 rfl (lv_at hl 3 rfl) ?_
    refine lv_iload_n hx hb dL_law_27 rfl (lv_at hl 0 rfl) ?_
    obtain ⟨h1, h2⟩ := i32_in (a := ((5 * k : Nat) : Int)) (n := L) (by omega) (by omega) (by omega)
    refine va_sld hx hb hX hbl (A := fun q => s.heap.size ≤ q) (by show ¬ s.heap.size ≤ b; omega) hS h1 dL_law_28 ?_
    refine lv_bipush (v := Int32.ofInt 31) hx hb dL_law_29 (by decide) ?_
    refine lv_iand hx hb dL_law_31 ?_
    generalize (xs (Int32.ofInt ((5 * k : Nat) : Int)).toNatClampNeg &&& Int32.ofInt 31) = z
    by_cases hzo : z.toInt < 0 ∨ 18 < z.toInt
    · exact lv_tableOut (tgt := 711) hx hb dL_law_32 hzo rfl (go μ ν H locs (hrel.le (by omega)) hP0 hP1 hS)
    · rcases (by omega : z.toInt = 0 ∨ z.toInt = 1 ∨ z.toInt = 2 ∨ z.toInt = 3 ∨ z.toInt = 4 ∨ z.toInt = 5 ∨ z.toInt = 6 ∨ z.toInt = 7 ∨ z.toInt = 8 ∨ z.toInt = 9 ∨ z.toInt = 10 ∨ z.toInt = 11 ∨ z.toInt = 12 ∨ z.toInt = 13 ∨ z.toInt = 14 ∨ z.toInt = 15 ∨ z.toInt = 16 ∨ z.toInt = 17 ∨ z.toInt = 18) with hz | hz | hz | hz | hz | hz | hz | hz | hz | hz | hz | hz | hz | hz | hz | hz | hz | hz | hz
      · refine lv_tableIn (off := 92) (tgt := 124) hx hb dL_law_32 (by omega) (by omega) (by rw [hz]; rfl) rfl ?_
        exact lcase C lm4_write lm5_write (ag_write (i32_i32 _) hrel) hX hbl hP0 hP1 hS hl hkL hL (by decide) hcells hslots dL_law_124 da_125 dL_law_130 dL_law_133 da_134 dL_law_139 dL_law_142 rfl (fun μ' ν' H1 locs1 hr => go μ' ν' H1 locs1 (hr.le (by omega)))
      · refine lv_tableIn (off := 115) (tgt := 147) hx hb dL_law_32 (by omega) (by omega) (by rw [hz]; rfl) rfl ?_
        exact lcase C lm4_house lm5_house (ag_house hN0 hrel) hX hbl hP0 hP1 hS hl hkL hL (by decide) hcells hslots dL_law_147 da_148 dL_law_148 dL_law_151 da_152 dL_law_152 dL_law_155 rfl (fun μ' ν' H1 locs1 hr => go μ' ν' H1 locs1 (hr.le (by omega)))
      · refine lv_tableIn (off := 128) (tgt := 160) hx hb dL_law_32 (by omega) (by omega) (by rw [hz]; rfl) rfl ?_
        exact lcase C lm4_fault lm5_fault (ag_fault hrel) hX hbl hP0 hP1 hS hl hkL hL (by decide) hcells hslots dL_law_160 da_161 dL_law_161 dL_law_164 da_165 dL_law_165 dL_law_168 rfl (fun μ' ν' H1 locs1 hr => go μ' ν' H1 locs1 (hr.le (by omega)))
      · refine lv_tableIn (off := 141) (tgt := 173) hx hb dL_law_32 (by omega) (by omega) (by rw [hz]; rfl) rfl ?_
        exact lcase C lm4_load lm5_load (ag_load (i32_i32 _) (i32_i32 _) (i32_i32 _) hrel) hX hbl hP0 hP1 hS hl hkL hL (by decide) hcells hslots dL_law_173 da_174 dL_law_189 dL_law_192 da_193 dL_law_208 dL_law_211 rfl (fun μ' ν' H1 locs1 hr => go μ' ν' H1 locs1 (hr.le (by omega)))
      · refine lv_tableIn (off := 184) (tgt := 216) hx hb dL_law_32 (by omega) (by omega) (by rw [hz]; rfl) rfl ?_
        exact lcase C lm4_set lm5_set (ag_set (i32_i32 _) (i32_i32 _) (i32_i32 _) hrel) hX hbl hP0 hP1 hS hl hkL hL (by decide) hcells hslots dL_law_216 da_217 dL_law_232 dL_law_235 da_236 dL_law_251 dL_law_254 rfl (fun μ' ν' H1 locs1 hr => go μ' ν' H1 locs1 (hr.le (by omega)))
      · refine lv_tableIn (off := 227) (tgt := 259) hx hb dL_law_32 (by omega) (by omega) (by rw [hz]; rfl) rfl ?_
        exact lcase C lm4_round lm5_round (ag_round hN hrel) hX hbl hP0 hP1 hS hl hkL hL (by decide) hcells hslots dL_law_259 da_260 dL_law_260 dL_law_263 da_264 dL_law_264 dL_law_267 rfl (fun μ' ν' H1 locs1 hr => go μ' ν' H1 locs1 hr)
      · refine lv_tableIn (off := 240) (tgt := 272) hx hb dL_law_32 (by omega) (by omega) (by rw [hz]; rfl) rfl ?_
        exact lcase C lm4_undo lm5_undo (ag_undo hrel) hX hbl hP0 hP1 hS hl hkL hL (by decide) hcells hslots dL_law_272 da_273 dL_law_273 dL_law_276 da_277 dL_law_277 dL_law_280 rfl (fun μ' ν' H1 locs1 hr => go μ' ν' H1 locs1 (hr.le (by omega)))
      · refine lv_tableIn (off := 253) (tgt := 285) hx hb dL_law_32 (by omega) (by omega) (by rw [hz]; rfl) rfl ?_
        exact lcase C lm4_service lm5_service (ag_service (i32_i32 _) (i32_i32 _) hrel) hX hbl hP0 hP1 hS hl hkL hL (by decide) hcells hslots dL_law_285 da_286 dL_law_296 dL_law_299 da_300 dL_law_310 dL_law_313 rfl (fun μ' ν' H1 locs1 hr => go μ' ν' H1 locs1 (hr.le (by omega)))
      · refine lv_tableIn (off := 286) (tgt := 318) hx hb dL_law_32 (by omega) (by omega) (by rw [hz]; rfl) rfl ?_
        exact lcase C lm4_measure lm5_measure (ag_measure (i32_i32 _) (i32_i32 _) (i32_i32 _) hrel) hX hbl hP0 hP1 hS hl hkL hL (by decide) hcells hslots dL_law_318 da_319 dL_law_334 dL_law_337 da_338 dL_law_353 dL_law_356 rfl (fun μ' ν' H1 locs1 hr => go μ' ν' H1 locs1 (hr.le (by omega)))
      · refine lv_tableIn (off := 329) (tgt := 361) hx hb dL_law_32 (by omega) (by omega) (by rw [hz]; rfl) rfl ?_
        exact lcase C lm4_starting lm5_starting (ag_starting (i32_i32 _) (i32_i32 _) hrel) hX hbl hP0 hP1 hS hl hkL hL (by decide) hcells hslots dL_law_361 da_362 dL_law_372 dL_law_375 da_376 dL_law_386 dL_law_389 rfl (fun μ' ν' H1 locs1 hr => go μ' ν' H1 locs1 (hr.le (by omega)))
      · refine lv_tableIn (off := 362) (tgt := 394) hx hb dL_law_32 (by omega) (by omega) (by rw [hz]; rfl) rfl ?_
        exact lcase C lm4_count lm5_count (ag_count (i32_i32 _) hrel) hX hbl hP0 hP1 hS hl hkL hL (by decide) hcells hslots dL_law_394 da_395 dL_law_400 dL_law_403 da_404 dL_law_409 dL_law_412 rfl (fun μ' ν' H1 locs1 hr => go μ' ν' H1 locs1 (hr.le (by omega)))
      · refine lv_tableIn (off := 385) (tgt := 417) hx hb dL_law_32 (by omega) (by omega) (by rw [hz]; rfl) rfl ?_
        exact lcase C lm4_would lm5_would (ag_would hN (i32_i32 _) (i32_i32 _) hrel) hX hbl hP0 hP1 hS hl hkL hL (by decide) hcells hslots dL_law_417 da_418 dL_law_428 dL_law_431 da_432 dL_law_442 dL_law_445 rfl (fun μ' ν' H1 locs1 hr => go μ' ν' H1 locs1 (hr.le (by omega)))
      · refine lv_tableIn (off := 418) (tgt := 450) hx hb dL_law_32 (by omega) (by omega) (by rw [hz]; rfl) rfl ?_
        exact lcase C lm4_why lm5_why (ag_why hN (i32_i32 _) (i32_i32 _) hrel) hX hbl hP0 hP1 hS hl hkL hL (by decide) hcells hslots dL_law_450 da_451 dL_law_461 dL_law_464 da_465 dL_law_475 dL_law_478 rfl (fun μ' ν' H1 locs1 hr => go μ' ν' H1 locs1 (hr.le (by omega)))
      · refine lv_tableIn (off := 451) (tgt := 483) hx hb dL_law_32 (by omega) (by omega) (by rw [hz]; rfl) rfl ?_
        exact lcase C lm4_forecast lm5_forecast (ag_forecast (i32_i32 _) (i32_i32 _) (i32_i32 _) hrel) hX hbl hP0 hP1 hS hl hkL hL (by decide) hcells hslots dL_law_483 da_484 dL_law_499 dL_law_502 da_503 dL_law_518 dL_law_521 rfl (fun μ' ν' H1 locs1 hr => go μ' ν' H1 locs1 (hr.le (by omega)))
      · refine lv_tableIn (off := 494) (tgt := 526) hx hb dL_law_32 (by omega) (by omega) (by rw [hz]; rfl) rfl ?_
        exact lcase C lm4_ahead lm5_ahead (ag_ahead hN50 (i32_i32 _) (i32_i32 _) hrel) hX hbl hP0 hP1 hS hl hkL hL (by decide) hcells hslots dL_law_526 da_527 dL_law_537 dL_law_540 da_541 dL_law_551 dL_law_554 rfl (fun μ' ν' H1 locs1 hr => go μ' ν' H1 locs1 (hr.le (by omega)))
      · refine lv_tableIn (off := 527) (tgt := 559) hx hb dL_law_32 (by omega) (by omega) (by rw [hz]; rfl) rfl ?_
        exact lcase C lm4_until lm5_until (ag_until hN50 (i32_i32 _) (i32_i32 _) hrel) hX hbl hP0 hP1 hS hl hkL hL (by decide) hcells hslots dL_law_559 da_560 dL_law_570 dL_law_573 da_574 dL_law_584 dL_law_587 rfl (fun μ' ν' H1 locs1 hr => go μ' ν' H1 locs1 (hr.le (by omega)))
      · refine lv_tableIn (off := 560) (tgt := 592) hx hb dL_law_32 (by omega) (by omega) (by rw [hz]; rfl) rfl ?_
        exact lcase C lm4_needs lm5_needs (ag_needs (i32_i32 _) (i32_i32 _) (i32_i32 _) hrel) hX hbl hP0 hP1 hS hl hkL hL (by decide) hcells hslots dL_law_592 da_593 dL_law_608 dL_law_611 da_612 dL_law_627 dL_law_630 rfl (fun μ' ν' H1 locs1 hr => go μ' ν' H1 locs1 (hr.le (by omega)))
      · refine lv_tableIn (off := 603) (tgt := 635) hx hb dL_law_32 (by omega) (by omega) (by rw [hz]; rfl) rfl ?_
        exact lcase C lm4_replay lm5_replay (ag_replay (i32_i32 _) (i32_i32 _) (i32_i32 _) (i32_i32 _) hrel) hX hbl hP0 hP1 hS hl hkL hL (by decide) hcells hslots dL_law_635 da_636 dL_law_656 dL_law_659 da_660 dL_law_680 dL_law_683 rfl (fun μ' ν' H1 locs1 hr => go μ' ν' H1 locs1 (hr.le (by omega)))
      · refine lv_tableIn (off := 656) (tgt := 688) hx hb dL_law_32 (by omega) (by omega) (by rw [hz]; rfl) rfl ?_
        exact lcase C lm4_best lm5_best (ag_best (i32_i32 _) hrel) hX hbl hP0 hP1 hS hl hkL hL (by decide) hcells hslots dL_law_688 da_689 dL_law_694 dL_law_697 da_698 dL_law_703 dL_law_706 rfl (fun μ' ν' H1 locs1 hr => go μ' ν' H1 locs1 (hr.le (by omega)))
end T92
