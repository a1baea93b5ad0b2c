/-! the law's entry -/
theorem hx_tbl {w : Cond} (h : w ∈ hx_B) : w ∈ lw_tbl := (List.mem_filter.mp h).1
theorem hx_NWb : ∀ w ∈ hx_NW, w ∈ lw_tbl := by decide +kernel
theorem hx_arr {s : State} {args : Array Value} {ty : FieldType} (h : (Cond.arrayClass ty).before args s = true) : ∃ k : ClassId, ArrOfT s k ty ∧ s.vm.findClass ("[" ++ ty.toString) = some k := by
  obtain ⟨cA, kA, comp, h1, h2, h3⟩ := Cond.arrayClass_spec h
  exact ⟨cA, fun n z => ⟨fun k h => (by cases h), kA, h2, comp, h3⟩, h1⟩
set_option maxRecDepth 100000 in
set_option maxHeartbeats 4000000 in
theorem whole_start {p : Program} {e : Env} {s : State} {m : MethodId} {below : List Frame} {meth : Method} {c : Code} (l : Launch) {b L : Nat} {xs : Nat → Int32} (hL : L ≤ 2048) (C0 : lw_At p s m meth c b L xs) : W p l e room_1 s m #[Value.ref b] below meth c s.heap [] 0 0 (lw_Z below #[Value.ref b] s) (entryFrame m ([Value.ref b] : List Value).toArray 4) := by
  obtain ⟨hx, hb, hr, hml, hown, hts, hX, hbl, hlk, hgv⟩ := C0
  have hB : ∀ w ∈ hx_B, w.before #[Value.ref b] s = true := fun w hw => hts w (hx_tbl hw)
  have hg := flat_of_before _ hgv
  obtain ⟨c0, i0, k0⟩ := u_known hB hx_in_Loom (hts (Cond.instantiable "HexLoom" (8 : Nat)) (by decide +kernel))
  obtain ⟨c1, i1, k1⟩ := u_known hB hx_in_Colon (hts (Cond.instantiable "HexLoom$ColonReader" (2 : Nat)) (by decide +kernel))
  obtain ⟨c2, i2, k2⟩ := u_known hB hx_in_Draft (hts (Cond.instantiable "HexLoom$Draft" (4 : Nat)) (by decide +kernel))
  obtain ⟨c3, i3, k3⟩ := u_known hB hx_in_Image (hts (Cond.instantiable "HexLoom$Image" (5 : Nat)) (by decide +kernel))
  obtain ⟨c4, i4, k4⟩ := u_known hB hx_in_SRead (hts (Cond.instantiable "HexLoom$SReader" (1 : Nat)) (by decide +kernel))
  obtain ⟨c5, i5, k5⟩ := u_known hB hx_in_Teller (hts (Cond.instantiable "HexLoom$Teller" (6 : Nat)) (by decide +kernel))
  obtain ⟨c6, i6, k6⟩ := u_known hB hx_in_Typed (hts (Cond.instantiable "HexLoom$TypedText" (5 : Nat)) (by decide +kernel))
  obtain ⟨c7, i7, k7⟩ := u_known hB hx_in_Model (hts (Cond.instantiable "HexLoomModel" (28 : Nat)) (by decide +kernel))
  obtain ⟨kJ, aJ, rJ⟩ := hx_arr (hts (Cond.arrayClass .long) (by decide +kernel))
  obtain ⟨kI, aI, rI⟩ := hx_arr (hts (Cond.arrayClass .int) (by decide +kernel))
  obtain ⟨kB, aB, rB⟩ := hx_arr (hts (Cond.arrayClass .byte) (by decide +kernel))
  have hAs : ∀ a : Nat, a < s.heap.size → ¬ (fun q => s.heap.size ≤ q) a := fun a h => Nat.not_le.mpr h
  obtain ⟨tC, vC, TC⟩ := va_Tof (tm := .static "HexLoom$ColonReader" "DATA_BYTES" "[I") (ty := .int) (N := 6) (f := fun j => .int (hx_iC j)) (by decide) (hg _ (by decide +kernel)) (va_eqt (hg _ (by decide +kernel))) (fun j hj => by
    match j, hj with
    | 0, _ => exact va_eqt (hg _ (by decide +kernel))
    | 1, _ => exact va_eqt (hg _ (by decide +kernel))
    | 2, _ => exact va_eqt (hg _ (by decide +kernel))
    | 3, _ => exact va_eqt (hg _ (by decide +kernel))
    | 4, _ => exact va_eqt (hg _ (by decide +kernel))
    | 5, _ => exact va_eqt (hg _ (by decide +kernel))
    | j + 6, hj => exact absurd hj (by omega)) hAs
  obtain ⟨tS, vS, TS⟩ := va_Tof (tm := .static "HexLoom$SReader" "ADDRESS_BYTES" "[I") (ty := .int) (N := 10) (f := fun j => .int (hx_iS j)) (by decide) (hg _ (by decide +kernel)) (va_eqt (hg _ (by decide +kernel))) (fun j hj => by
    match j, hj with
    | 0, _ => exact va_eqt (hg _ (by decide +kernel))
    | 1, _ => exact va_eqt (hg _ (by decide +kernel))
    | 2, _ => exact va_eqt (hg _ (by decide +kernel))
    | 3, _ => exact va_eqt (hg _ (by decide +kernel))
    | 4, _ => exact va_eqt (hg _ (by decide +kernel))
    | 5, _ => exact va_eqt (hg _ (by decide +kernel))
    | 6, _ => exact va_eqt (hg _ (by decide +kernel))
    | 7, _ => exact va_eqt (hg _ (by decide +kernel))
    | 8, _ => exact va_eqt (hg _ (by decide +kernel))
    | 9, _ => exact va_eqt (hg _ (by decide +kernel))
    | j + 10, hj => exact absurd hj (by omega)) hAs
  have ZC := va_Zref (hts (Cond.laysStatic "HexLoom$ColonReader" "DATA_BYTES" "[I") (by decide +kernel)) (hts (Cond.initialized "HexLoom$ColonReader") (by decide +kernel)) vC hAs
  have ZS := va_Zref (hts (Cond.laysStatic "HexLoom$SReader" "ADDRESS_BYTES" "[I") (by decide +kernel)) (hts (Cond.initialized "HexLoom$SReader") (by decide +kernel)) vS hAs
  have hZ : hx_ST tC tS (fun q => s.heap.size ≤ q) s s.heap := ⟨⟨ZC, TC⟩, ⟨ZS, TS⟩, fun w hw => va_Nw.of (hx_NWt w hw) (hts w (hx_NWb w hw))⟩
  have hK : va_K ((fun i => match i with | 0 => c0 | 1 => c1 | 2 => c2 | 3 => c3 | 4 => c4 | 5 => c5 | 6 => c6 | _ => c7), (fun i => match i with | 0 => i0 | 1 => i1 | 2 => i2 | 3 => i3 | 4 => i4 | 5 => i5 | 6 => i6 | _ => i7)) vwCl (hx_K3 kJ kI kB) s := by
    refine ⟨fun i q h => ?_, fun i q h => ?_⟩
    · match i, h with
      | 0, h => cases h; exact k0
      | 1, h => cases h; exact k1
      | 2, h => cases h; exact k2
      | 3, h => cases h; exact k3
      | 4, h => cases h; exact k4
      | 5, h => cases h; exact k5
      | 6, h => cases h; exact k6
      | 7, h => cases h; exact k7
      | i + 8, h => cases h
    · match i, h with
      | 0, h => cases h; exact ⟨aJ, rJ⟩
      | 1, h => cases h; exact ⟨aI, rI⟩
      | 2, h => cases h; exact ⟨aB, rB⟩
      | i + 3, h => cases h
  rw [lg_entry_eq]
  exact hx_law l ⟨hx, hb, hml, hown, hB⟩ hr hlk hK hZ (fun q h => h) (fun q h => h) hX hbl (Nat.not_le.mpr hbl) (lv_entry [Value.ref b] (Nat.le_of_ble_eq_true rfl)) ⟨fun k q h => by simp at h, ⟨fun i j p q h => by simp at h, fun k q h => by simp at h⟩, va_S.rf⟩ (hp_whole hL xs)
