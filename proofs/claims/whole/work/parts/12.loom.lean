def hx_v_Typed_numberAt (a1 : Int32) (a2 : Int32) (f0_characters : Nat → Int32) (f0_first : Int32) (f0_behind : Int32) (f0_digitsFrom : Int32) (Q : Int64 → Prop) : Prop :=
  ∀ P5 : Int64 → Int32 → Prop, 
  (∀ (x3 : Int64) (x5 : Int32), ((a2 ≤ x5 → (Q x3)) ∧ ((¬ a2 ≤ x5) → (hx_v_Typed_byteAt (a1 + x5) f0_characters f0_first f0_behind f0_digitsFrom (fun c20 => ∀ z25 : Int64, z25 = (x3 <<< ((8 : Int32).toInt64 &&& 63)) ||| c20.toInt64 → P5 z25 (x5 + 1))))) → P5 x3 x5) →
  (P5 (0 : Int64) (0 : Int32))
set_option maxHeartbeats 4000000 in
set_option maxRecDepth 100000 in
theorem hx_q_Typed_numberAt (l : Launch) (D : va_G) (kJ kI kB : ClassId) (tC tS : Nat) (sz : Nat) (r0 r0_characters : Nat) (a1 : Int32) (a2 : Int32) (f0_characters : Nat → Int32) (f0_length : Int32) (f0_first : Int32) (f0_behind : Int32) (f0_digitsFrom : Int32) {Q : Int64 → Prop} (h : hx_v_Typed_numberAt a1 a2 f0_characters f0_first f0_behind f0_digitsFrom Q) :
    Met l hx_y_Typed_numberAt (.code hx_y_Typed_numberAt hx_c_Typed_numberAt 6 (some .long) :: hx_B) (hx_rm 2 45) (va_Pc [.ref r0, .int a1, .int a2] (hx_I D kJ kI kB tC tS [(r0, .inr (6, [.ref r0_characters, .int f0_length, .int f0_first, .int f0_behind, .int f0_digitsFrom])), (r0_characters, .inl (kB, 8000, .inl f0_characters))] sz))
      (va_Ql (S := Unit) (fun r _ => Q r) (fun u t => va_P D vwCl ((fun _ => [(r0, .inr (6, [.ref r0_characters, .int f0_length, .int f0_first, .int f0_behind, .int f0_digitsFrom])), (r0_characters, .inl (kB, 8000, .inl f0_characters))]) u) t.heap ∧ va_D (va_A [(r0, .inr (6, [.ref r0_characters, .int f0_length, .int f0_first, .int f0_behind, .int f0_digitsFrom])), (r0_characters, .inl (kB, 8000, .inl f0_characters))] sz) ((fun _ => [(r0, .inr (6, [.ref r0_characters, .int f0_length, .int f0_first, .int f0_behind, .int f0_digitsFrom])), (r0_characters, .inl (kB, 8000, .inl f0_characters))]) u)) (va_A [(r0, .inr (6, [.ref r0_characters, .int f0_length, .int f0_first, .int f0_behind, .int f0_digitsFrom])), (r0_characters, .inl (kB, 8000, .inl f0_characters))] sz)) 0 0 (va_A [(r0, .inr (6, [.ref r0_characters, .int f0_length, .int f0_first, .int f0_behind, .int f0_digitsFrom])), (r0_characters, .inl (kB, 8000, .inl f0_characters))] sz) := by
  refine hx_ofWl (S := Unit) (post := fun r _ => Q r) (B := fun _ => [(r0, .inr (6, [.ref r0_characters, .int f0_length, .int f0_first, .int f0_behind, .int f0_digitsFrom])), (r0_characters, .inl (kB, 8000, .inl f0_characters))]) (by decide) (Nat.le_of_ble_eq_true rfl) ?_
  intro p e s m below meth c ls A Qf H locs F hK hZ hA hret hl V
  have hx := F.1
  have hb := F.2.1
  have hl : lv_has ls 6 [(0, .ref r0), (1, .int a1), (2, .int a2)] := hl
  unfold hx_v_Typed_numberAt at h
  have h := h (fun (x3 : Int64) (x5 : Int32) => ∀ (ls : Array Slot) (H : Heap) (locs : List Loc), lv_has ls 6 [(0, .ref r0), (1, .int a1), (2, .int a2), (3, .long x3), (5, .int x5)] → hx_V D A s.heap H locs [(r0, .inr (6, [.ref r0_characters, .int f0_length, .int f0_first, .int f0_behind, .int f0_digitsFrom])), (r0_characters, .inl (kB, 8000, .inl f0_characters))] → W p l e (hx_rm 2 45) s m ([.ref r0, .int a1, .int a2] : List Value).toArray below meth c H locs 0 0 Qf (F0 m 5 ls []))
  have h := h (by
    intro x3 x5 h ls H locs hl V
    refine lv_iload hx hb hx_d_Typed_numberAt_5 (lv_at hl 4 rfl) ?_
    refine lv_iload_n hx hb hx_d_Typed_numberAt_7 rfl (lv_at hl 2 rfl) ?_
    refine lv_icmp_ge (tgt := 32) hx hb hx_d_Typed_numberAt_8 rfl (fun b => ?_) (fun b => ?_)
    · have h := h.1 b
      refine lv_lload_n hx hb hx_d_Typed_numberAt_32 rfl (lv_at hl 3 rfl) ?_
      exact hret x3 () H locs _ ls hx_d_Typed_numberAt_33 h V
    · have h := h.2 b
      refine lv_lload_n hx hb hx_d_Typed_numberAt_11 rfl (lv_at hl 3 rfl) ?_
      refine lv_bipush (v := 8) hx hb hx_d_Typed_numberAt_12 (by decide) ?_
      refine lv_lshl hx hb hx_d_Typed_numberAt_14 rfl ?_
      refine lv_aload_n hx hb hx_d_Typed_numberAt_15 rfl (lv_at hl 0 rfl) ?_
      refine lv_iload_n hx hb hx_d_Typed_numberAt_16 rfl (lv_at hl 1 rfl) ?_
      refine lv_iload hx hb hx_d_Typed_numberAt_17 (lv_at hl 4 rfl) ?_
      refine lv_iadd hx hb hx_d_Typed_numberAt_19 ?_
      have K : hx_Cut [(r0, .inr (6, [.ref r0_characters, .int f0_length, .int f0_first, .int f0_behind, .int f0_digitsFrom])), (r0_characters, .inl (kB, 8000, .inl f0_characters))] [(r0, .inr (6, [.ref r0_characters, .int f0_length, .int f0_first, .int f0_behind, .int f0_digitsFrom])), (r0_characters, .inl (kB, 8000, .inl f0_characters))] [] [0, 1] [] := ⟨rfl, rfl, rfl, rfl, by decide⟩
      refine hx_ci hA V K (hx_rV (As := [.int (a1 + x5)]) (rest := [.long (x3 <<< ((8 : Int32).toInt64 &&& 63))]) F hK hZ hA V K hx_jV_Typed_43 (hx_q_Typed_byteAt l D kJ kI kB tC tS H.size r0 r0_characters (a1 + x5) f0_characters f0_length f0_first f0_behind f0_digitsFrom h) rfl rfl ⟨Nat.le_of_ble_eq_true rfl, Nat.le_of_ble_eq_true rfl⟩ (q0 := 0) rfl rfl rfl rfl hl.1 rfl (Nat.le_of_ble_eq_true rfl) hx_d_Typed_numberAt_20 ⟨Nat.le_of_ble_eq_true rfl, Nat.le_of_ble_eq_true rfl⟩) (fun c20 u H locs h V => ?_)
      have V : hx_V D A s.heap H locs [(r0, .inr (6, [.ref r0_characters, .int f0_length, .int f0_first, .int f0_behind, .int f0_digitsFrom])), (r0_characters, .inl (kB, 8000, .inl f0_characters))] := V
      refine lv_i2l hx hb hx_d_Typed_numberAt_23 rfl ?_
      refine lv_lor hx hb hx_d_Typed_numberAt_24 ?_
      refine lv_topl (fun z25 e => ?_)
      have h := h z25 e
      refine lv_lstore_n (lv' := [(3, .long z25), (0, .ref r0), (1, .int a1), (2, .int a2), (5, .int x5)]) hx hb hx_d_Typed_numberAt_25 rfl hl (Nat.le_of_ble_eq_true rfl) rfl (fun ls hl => ?_)
      refine lv_iinc (v := x5 + 1) (lv' := [(5, .int (x5 + 1)), (3, .long z25), (0, .ref r0), (1, .int a1), (2, .int a2)]) hx hb hx_d_Typed_numberAt_26 hl (k := 4) rfl rfl (Nat.le_of_ble_eq_true rfl) rfl (fun ls hl => ?_)
      refine lv_goto (tgt := 5) hx hb hx_d_Typed_numberAt_29 rfl ?_
      exact h ls H locs (lv_sub hl [2, 3, 4, 1, 0] rfl) V)
  refine lv_lconst (v := 0) hx hb hx_d_Typed_numberAt_0 (by decide) ?_
  refine lv_lstore_n (lv' := [(3, .long 0), (0, .ref r0), (1, .int a1), (2, .int a2)]) hx hb hx_d_Typed_numberAt_1 rfl hl (Nat.le_of_ble_eq_true rfl) rfl (fun ls hl => ?_)
  refine lv_iconst (v := 0) hx hb hx_d_Typed_numberAt_2 (by decide) ?_
  refine lv_istore (lv' := [(5, .int 0), (3, .long 0), (0, .ref r0), (1, .int a1), (2, .int a2)]) hx hb hx_d_Typed_numberAt_3 hl (Nat.le_of_ble_eq_true rfl) rfl (fun ls hl => ?_)
  exact h ls H locs (lv_sub hl [2, 3, 4, 1, 0] rfl) V

def hx_v_Image_size (f0_size : Int32) (Q : Int32 → Prop) : Prop :=
  
  Q f0_size
set_option maxHeartbeats 4000000 in
set_option maxRecDepth 100000 in
theorem hx_q_Image_size (l : Launch) (D : va_G) (kJ kI kB : ClassId) (tC tS : Nat) (sz : Nat) (r0 r0_addresses r0_values r0_heldAddresses r0_heldValues : Nat) (f0_addresses : Nat → Int64) (f0_values : Nat → Int32) (f0_heldAddresses : Nat → Int64) (f0_heldValues : Nat → Int32) (f0_size : Int32) {Q : Int32 → Prop} (h : hx_v_Image_size f0_size Q) :
    Met l hx_y_Image_size (.code hx_y_Image_size hx_c_Image_size 1 (some .int) :: hx_B) (hx_rm 0 0) (va_Pc [.ref r0] (hx_I D kJ kI kB tC tS [(r0, .inr (3, [.ref r0_addresses, .ref r0_values, .ref r0_heldAddresses, .ref r0_heldValues, .int f0_size])), (r0_addresses, .inl (kJ, 3000, .inr (.inl f0_addresses))), (r0_values, .inl (kI, 3000, .inl f0_values)), (r0_heldAddresses, .inl (kJ, 256, .inr (.inl f0_heldAddresses))), (r0_heldValues, .inl (kI, 256, .inl f0_heldValues))] sz))
      (va_Qi (S := Unit) (fun r _ => Q r) (fun u t => va_P D vwCl ((fun _ => [(r0, .inr (3, [.ref r0_addresses, .ref r0_values, .ref r0_heldAddresses, .ref r0_heldValues, .int f0_size])), (r0_addresses, .inl (kJ, 3000, .inr (.inl f0_addresses))), (r0_values, .inl (kI, 3000, .inl f0_values)), (r0_heldAddresses, .inl (kJ, 256, .inr (.inl f0_heldAddresses))), (r0_heldValues, .inl (kI, 256, .inl f0_heldValues))]) u) t.heap ∧ va_D (va_A [(r0, .inr (3, [.ref r0_addresses, .ref r0_values, .ref r0_heldAddresses, .ref r0_heldValues, .int f0_size])), (r0_addresses, .inl (kJ, 3000, .inr (.inl f0_addresses))), (r0_values, .inl (kI, 3000, .inl f0_values)), (r0_heldAddresses, .inl (kJ, 256, .inr (.inl f0_heldAddresses))), (r0_heldValues, .inl (kI, 256, .inl f0_heldValues))] sz) ((fun _ => [(r0, .inr (3, [.ref r0_addresses, .ref r0_values, .ref r0_heldAddresses, .ref r0_heldValues, .int f0_size])), (r0_addresses, .inl (kJ, 3000, .inr (.inl f0_addresses))), (r0_values, .inl (kI, 3000, .inl f0_values)), (r0_heldAddresses, .inl (kJ, 256, .inr (.inl f0_heldAddresses))), (r0_heldValues, .inl (kI, 256, .inl f0_heldValues))]) u)) (va_A [(r0, .inr (3, [.ref r0_addresses, .ref r0_values, .ref r0_heldAddresses, .ref r0_heldValues, .int f0_size])), (r0_addresses, .inl (kJ, 3000, .inr (.inl f0_addresses))), (r0_values, .inl (kI, 3000, .inl f0_values)), (r0_heldAddresses, .inl (kJ, 256, .inr (.inl f0_heldAddresses))), (r0_heldValues, .inl (kI, 256, .inl f0_heldValues))] sz)) 0 0 (va_A [(r0, .inr (3, [.ref r0_addresses, .ref r0_values, .ref r0_heldAddresses, .ref r0_heldValues, .int f0_size])), (r0_addresses, .inl (kJ, 3000, .inr (.inl f0_addresses))), (r0_values, .inl (kI, 3000, .inl f0_values)), (r0_heldAddresses, .inl (kJ, 256, .inr (.inl f0_heldAddresses))), (r0_heldValues, .inl (kI, 256, .inl f0_heldValues))] sz) := by
  refine hx_ofWi (S := Unit) (post := fun r _ => Q r) (B := fun _ => [(r0, .inr (3, [.ref r0_addresses, .ref r0_values, .ref r0_heldAddresses, .ref r0_heldValues, .int f0_size])), (r0_addresses, .inl (kJ, 3000, .inr (.inl f0_addresses))), (r0_values, .inl (kI, 3000, .inl f0_values)), (r0_heldAddresses, .inl (kJ, 256, .inr (.inl f0_heldAddresses))), (r0_heldValues, .inl (kI, 256, .inl f0_heldValues))]) (by decide) (Nat.le_of_ble_eq_true rfl) ?_
  intro p e s m below meth c ls A Qf H locs F hK hZ hA hret hl V
  have hx := F.1
  have hb := F.2.1
  have hl : lv_has ls 1 [(0, .ref r0)] := hl
  unfold hx_v_Image_size at h
  refine lv_aload_n hx hb hx_d_Image_size_0 rfl (lv_at hl 0 rfl) ?_
  refine hx_get (v := .int f0_size) F hK V hx_f_Image_25 0 rfl rfl hx_d_Image_size_1 ?_
  exact hret f0_size () H locs _ ls hx_d_Image_size_4 h V

def hx_v_SRead_addressOfData (a1 : Int64) (a2 : Int32) (Q : Int64 → Prop) : Prop :=
  
  ((4294967295 : Int64) < (a1 + a2.toInt64) → (Q (-1 : Int64))) ∧ ((¬ (4294967295 : Int64) < (a1 + a2.toInt64)) → (Q (a1 + a2.toInt64)))
set_option maxHeartbeats 4000000 in
set_option maxRecDepth 100000 in
theorem hx_q_SRead_addressOfData (l : Launch) (D : va_G) (kJ kI kB : ClassId) (tC tS : Nat) (sz : Nat) (r0 : Nat) (a1 : Int64) (a2 : Int32) (f0_dataRecords : Int32) {Q : Int64 → Prop} (h : hx_v_SRead_addressOfData a1 a2 Q) :
    Met l hx_y_SRead_addressOfData (.code hx_y_SRead_addressOfData hx_c_SRead_addressOfData 4 (some .long) :: hx_B) (hx_rm 0 0) (va_Pc [.ref r0, .long a1, .int a2] (hx_I D kJ kI kB tC tS [(r0, .inr (4, [.int f0_dataRecords]))] sz))
      (va_Ql (S := Unit) (fun r _ => Q r) (fun u t => va_P D vwCl ((fun _ => [(r0, .inr (4, [.int f0_dataRecords]))]) u) t.heap ∧ va_D (va_A [(r0, .inr (4, [.int f0_dataRecords]))] sz) ((fun _ => [(r0, .inr (4, [.int f0_dataRecords]))]) u)) (va_A [(r0, .inr (4, [.int f0_dataRecords]))] sz)) 0 0 (va_A [(r0, .inr (4, [.int f0_dataRecords]))] sz) := by
  refine hx_ofWl (S := Unit) (post := fun r _ => Q r) (B := fun _ => [(r0, .inr (4, [.int f0_dataRecords]))]) (by decide) (Nat.le_of_ble_eq_true rfl) ?_
  intro p e s m below meth c ls A Qf H locs F hK hZ hA hret hl V
  have hx := F.1
  have hb := F.2.1
  have hl : lv_has ls 4 [(0, .ref r0), (1, .long a1), (3, .int a2)] := hl
  unfold hx_v_SRead_addressOfData at h
  refine lv_lload_n hx hb hx_d_SRead_addressOfData_0 rfl (lv_at hl 1 rfl) ?_
  refine lv_iload_n hx hb hx_d_SRead_addressOfData_1 rfl (lv_at hl 2 rfl) ?_
  refine lv_i2l hx hb hx_d_SRead_addressOfData_2 rfl ?_
  refine lv_ladd hx hb hx_d_SRead_addressOfData_3 ?_
  refine lv_ldc2 (v := 4294967295) hx hb F.2.2.2.1 (F.2.2.2.2 _ hx_m_291) hx_d_SRead_addressOfData_4 ?_
  refine W.lcmp hx hb hx_d_SRead_addressOfData_7 ?_
  refine lv_if_gt (tgt := 18) hx hb hx_d_SRead_addressOfData_8 rfl (fun b => ?_) (fun b => ?_)
  · have h := h.1 ((lg_cmp_gt _ _).mp b)
    refine lv_ldc2 (v := (-1)) hx hb F.2.2.2.1 (F.2.2.2.2 _ hx_m_292) hx_d_SRead_addressOfData_18 ?_
    exact hret (-1 : Int64) () H locs _ ls hx_d_SRead_addressOfData_21 h V
  · have h := h.2 (fun q => b ((lg_cmp_gt _ _).mpr q))
    refine lv_lload_n hx hb hx_d_SRead_addressOfData_11 rfl (lv_at hl 1 rfl) ?_
    refine lv_iload_n hx hb hx_d_SRead_addressOfData_12 rfl (lv_at hl 2 rfl) ?_
    refine lv_i2l hx hb hx_d_SRead_addressOfData_13 rfl ?_
    refine lv_ladd hx hb hx_d_SRead_addressOfData_14 ?_
    refine lv_goto (tgt := 21) hx hb hx_d_SRead_addressOfData_15 rfl ?_
    exact hret (a1 + a2.toInt64) () H locs _ ls hx_d_SRead_addressOfData_21 h V

def hx_v_Image_indexFrom (a1 : Int64) (f0_addresses : Nat → Int64) (f0_size : Int32) (Q : Int32 → Prop) : Prop :=
  ∀ P8 : Int32 → Int32 → Prop, ∀ P46 : Int32 → Int32 → Prop, 
  (∀ (x3 : Int32) (x4 : Int32), ((x4 ≤ x3 → (Q x3)) ∧ ((¬ x4 ≤ x3) → (∀ z20 : Int32, z20 = (x3 + x4) / (2 : Int32) → vp_in z20 3000 ∧ (a1 ≤ (f0_addresses z20.toNatClampNeg) → (P46 x3 z20)) ∧ ((¬ a1 ≤ (f0_addresses z20.toNatClampNeg)) → (∀ z38 : Int32, z38 = z20 + (1 : Int32) → P46 z38 x4))))) → P8 x3 x4) →
  (∀ (x3 : Int32) (x4 : Int32), (P8 x3 x4) → P46 x3 x4) →
  (P8 (0 : Int32) f0_size)
set_option maxHeartbeats 4000000 in
set_option maxRecDepth 100000 in
theorem hx_q_Image_indexFrom (l : Launch) (D : va_G) (kJ kI kB : ClassId) (tC tS : Nat) (sz : Nat) (r0 r0_addresses r0_values r0_heldAddresses r0_heldValues : Nat) (a1 : Int64) (f0_addresses : Nat → Int64) (f0_values : Nat → Int32) (f0_heldAddresses : Nat → Int64) (f0_heldValues : Nat → Int32) (f0_size : Int32) {Q : Int32 → Prop} (h : hx_v_Image_indexFrom a1 f0_addresses f0_size Q) :
    Met l hx_y_Image_indexFrom (.code hx_y_Image_indexFrom hx_c_Image_indexFrom 6 (some .int) :: hx_B) (hx_rm 0 0) (va_Pc [.ref r0, .long a1] (hx_I D kJ kI kB tC tS [(r0, .inr (3, [.ref r0_addresses, .ref r0_values, .ref r0_heldAddresses, .ref r0_heldValues, .int f0_size])), (r0_addresses, .inl (kJ, 3000, .inr (.inl f0_addresses))), (r0_values, .inl (kI, 3000, .inl f0_values)), (r0_heldAddresses, .inl (kJ, 256, .inr (.inl f0_heldAddresses))), (r0_heldValues, .inl (kI, 256, .inl f0_heldValues))] sz))
      (va_Qi (S := Unit) (fun r _ => Q r) (fun u t => va_P D vwCl ((fun _ => [(r0, .inr (3, [.ref r0_addresses, .ref r0_values, .ref r0_heldAddresses, .ref r0_heldValues, .int f0_size])), (r0_addresses, .inl (kJ, 3000, .inr (.inl f0_addresses))), (r0_values, .inl (kI, 3000, .inl f0_values)), (r0_heldAddresses, .inl (kJ, 256, .inr (.inl f0_heldAddresses))), (r0_heldValues, .inl (kI, 256, .inl f0_heldValues))]) u) t.heap ∧ va_D (va_A [(r0, .inr (3, [.ref r0_addresses, .ref r0_values, .ref r0_heldAddresses, .ref r0_heldValues, .int f0_size])), (r0_addresses, .inl (kJ, 3000, .inr (.inl f0_addresses))), (r0_values, .inl (kI, 3000, .inl f0_values)), (r0_heldAddresses, .inl (kJ, 256, .inr (.inl f0_heldAddresses))), (r0_heldValues, .inl (kI, 256, .inl f0_heldValues))] sz) ((fun _ => [(r0, .inr (3, [.ref r0_addresses, .ref r0_values, .ref r0_heldAddresses, .ref r0_heldValues, .int f0_size])), (r0_addresses, .inl (kJ, 3000, .inr (.inl f0_addresses))), (r0_values, .inl (kI, 3000, .inl f0_values)), (r0_heldAddresses, .inl (kJ, 256, .inr (.inl f0_heldAddresses))), (r0_heldValues, .inl (kI, 256, .inl f0_heldValues))]) u)) (va_A [(r0, .inr (3, [.ref r0_addresses, .ref r0_values, .ref r0_heldAddresses, .ref r0_heldValues, .int f0_size])), (r0_addresses, .inl (kJ, 3000, .inr (.inl f0_addresses))), (r0_values, .inl (kI, 3000, .inl f0_values)), (r0_heldAddresses, .inl (kJ, 256, .inr (.inl f0_heldAddresses))), (r0_heldValues, .inl (kI, 256, .inl f0_heldValues))] sz)) 0 0 (va_A [(r0, .inr (3, [.ref r0_addresses, .ref r0_values, .ref r0_heldAddresses, .ref r0_heldValues, .int f0_size])), (r0_addresses, .inl (kJ, 3000, .inr (.inl f0_addresses))), (r0_values, .inl (kI, 3000, .inl f0_values)), (r0_heldAddresses, .inl (kJ, 256, .inr (.inl f0_heldAddresses))), (r0_heldValues, .inl (kI, 256, .inl f0_heldValues))] sz) := by
  refine hx_ofWi (S := Unit) (post := fun r _ => Q r) (B := fun _ => [(r0, .inr (3, [.ref r0_addresses, .ref r0_values, .ref r0_heldAddresses, .ref r0_heldValues, .int f0_size])), (r0_addresses, .inl (kJ, 3000, .inr (.inl f0_addresses))), (r0_values, .inl (kI, 3000, .inl f0_values)), (r0_heldAddresses, .inl (kJ, 256, .inr (.inl f0_heldAddresses))), (r0_heldValues, .inl (kI, 256, .inl f0_heldValues))]) (by decide) (Nat.le_of_ble_eq_true rfl) ?_
  intro p e s m below meth c ls A Qf H locs F hK hZ hA hret hl V
  have hx := F.1
  have hb := F.2.1
  have hl : lv_has ls 6 [(0, .ref r0), (1, .long a1)] := hl
  unfold hx_v_Image_indexFrom at h
  have h := h (fun (x3 : Int32) (x4 : Int32) => ∀ (ls : Array Slot) (H : Heap) (locs : List Loc), lv_has ls 6 [(0, .ref r0), (1, .long a1), (3, .int x3), (4, .int x4)] → hx_V D A s.heap H locs [(r0, .inr (3, [.ref r0_addresses, .ref r0_values, .ref r0_heldAddresses, .ref r0_heldValues, .int f0_size])), (r0_addresses, .inl (kJ, 3000, .inr (.inl f0_addresses))), (r0_values, .inl (kI, 3000, .inl f0_values)), (r0_heldAddresses, .inl (kJ, 256, .inr (.inl f0_heldAddresses))), (r0_heldValues, .inl (kI, 256, .inl f0_heldValues))] → W p l e (hx_rm 0 0) s m ([.ref r0, .long a1] : List Value).toArray below meth c H locs 0 0 Qf (F0 m 8 ls []))
  have h := h (fun (x3 : Int32) (x4 : Int32) => ∀ (ls : Array Slot) (H : Heap) (locs : List Loc), lv_has ls 6 [(0, .ref r0), (1, .long a1), (3, .int x3), (4, .int x4)] → hx_V D A s.heap H locs [(r0, .inr (3, [.ref r0_addresses, .ref r0_values, .ref r0_heldAddresses, .ref r0_heldValues, .int f0_size])), (r0_addresses, .inl (kJ, 3000, .inr (.inl f0_addresses))), (r0_values, .inl (kI, 3000, .inl f0_values)), (r0_heldAddresses, .inl (kJ, 256, .inr (.inl f0_heldAddresses))), (r0_heldValues, .inl (kI, 256, .inl f0_heldValues))] → W p l e (hx_rm 0 0) s m ([.ref r0, .long a1] : List Value).toArray below meth c H locs 0 0 Qf (F0 m 46 ls []))
  have h := h (by
    intro x3 x4 h ls H locs hl V
    refine lv_iload_n hx hb hx_d_Image_indexFrom_8 rfl (lv_at hl 2 rfl) ?_
    refine lv_iload hx hb hx_d_Image_indexFrom_9 (lv_at hl 3 rfl) ?_
    refine lv_icmp_ge (tgt := 49) hx hb hx_d_Image_indexFrom_11 rfl (fun b => ?_) (fun b => ?_)
    · have h := h.1 b
      refine lv_iload_n hx hb hx_d_Image_indexFrom_49 rfl (lv_at hl 2 rfl) ?_
      exact hret x3 () H locs _ ls hx_d_Image_indexFrom_50 h V
    · have h := h.2 b
      refine lv_iload_n hx hb hx_d_Image_indexFrom_14 rfl (lv_at hl 2 rfl) ?_
      refine lv_iload hx hb hx_d_Image_indexFrom_15 (lv_at hl 3 rfl) ?_
      refine lv_iadd hx hb hx_d_Image_indexFrom_17 ?_
      refine lv_iconst (v := 2) hx hb hx_d_Image_indexFrom_18 (by decide) ?_
      refine lv_idiv hx hb hx_d_Image_indexFrom_19 (by decide) ?_
      refine lv_topi (fun z20 e => ?_)
      have h := h z20 e
      refine lv_istore (lv' := [(5, .int z20), (0, .ref r0), (1, .long a1), (3, .int x3), (4, .int x4)]) hx hb hx_d_Image_indexFrom_20 hl (Nat.le_of_ble_eq_true rfl) rfl (fun ls hl => ?_)
      refine lv_aload_n hx hb hx_d_Image_indexFrom_22 rfl (lv_at hl 1 rfl) ?_
      refine hx_get (v := .ref r0_addresses) F hK V hx_f_Image_9 0 rfl rfl hx_d_Image_indexFrom_23 ?_
      refine lv_iload hx hb hx_d_Image_indexFrom_26 (lv_at hl 0 rfl) ?_
      refine hx_lald F hK V 1 rfl h.1 hx_d_Image_indexFrom_28 ?_
      have h := h.2
      refine lv_lload_n hx hb hx_d_Image_indexFrom_29 rfl (lv_at hl 2 rfl) ?_
      refine W.lcmp hx hb hx_d_Image_indexFrom_30 ?_
      refine lv_if_ge (tgt := 42) hx hb hx_d_Image_indexFrom_31 rfl (fun b => ?_) (fun b => ?_)
      · have h := h.1 ((lg_cmp_ge _ _).mp b)
        refine lv_iload hx hb hx_d_Image_indexFrom_42 (lv_at hl 0 rfl) ?_
        refine lv_istore (lv' := [(4, .int z20), (5, .int z20), (0, .ref r0), (1, .long a1), (3, .int x3)]) hx hb hx_d_Image_indexFrom_44 hl (Nat.le_of_ble_eq_true rfl) rfl (fun ls hl => ?_)
        exact h ls H locs (lv_sub hl [2, 3, 4, 0] rfl) V
      · have h := h.2 (fun q => b ((lg_cmp_ge _ _).mpr q))
        refine lv_iload hx hb hx_d_Image_indexFrom_34 (lv_at hl 0 rfl) ?_
        refine lv_iconst (v := 1) hx hb hx_d_Image_indexFrom_36 (by decide) ?_
        refine lv_iadd hx hb hx_d_Image_indexFrom_37 ?_
        refine lv_topi (fun z38 e => ?_)
        have h := h z38 e
        refine lv_istore_n (lv' := [(3, .int z38), (5, .int z20), (0, .ref r0), (1, .long a1), (4, .int x4)]) hx hb hx_d_Image_indexFrom_38 rfl hl (Nat.le_of_ble_eq_true rfl) rfl (fun ls hl => ?_)
        refine lv_goto (tgt := 46) hx hb hx_d_Image_indexFrom_39 rfl ?_
        exact h ls H locs (lv_sub hl [2, 3, 0, 4] rfl) V)
  have h := h (by
    intro x3 x4 h ls H locs hl V
    refine lv_goto (tgt := 8) hx hb hx_d_Image_indexFrom_46 rfl ?_
    exact h ls H locs (lv_sub hl [0, 1, 2, 3] rfl) V)
  refine lv_iconst (v := 0) hx hb hx_d_Image_indexFrom_0 (by decide) ?_
  refine lv_istore_n (lv' := [(3, .int 0), (0, .ref r0), (1, .long a1)]) hx hb hx_d_Image_indexFrom_1 rfl hl (Nat.le_of_ble_eq_true rfl) rfl (fun ls hl => ?_)
  refine lv_aload_n hx hb hx_d_Image_indexFrom_2 rfl (lv_at hl 1 rfl) ?_
  refine hx_get (v := .int f0_size) F hK V hx_f_Image_25 0 rfl rfl hx_d_Image_indexFrom_3 ?_
  refine lv_istore (lv' := [(4, .int f0_size), (3, .int 0), (0, .ref r0), (1, .long a1)]) hx hb hx_d_Image_indexFrom_6 hl (Nat.le_of_ble_eq_true rfl) rfl (fun ls hl => ?_)
  exact h ls H locs (lv_sub hl [2, 3, 1, 0] rfl) V

def hx_v_Image_addressOf (a1 : Int32) (f0_addresses : Nat → Int64) (f0_size : Int32) (Q : Int64 → Prop) : Prop :=
  
  (a1 < (0 : Int32) → (Q (-1 : Int64))) ∧ ((¬ a1 < (0 : Int32)) → ((f0_size ≤ a1 → (Q (-1 : Int64))) ∧ ((¬ f0_size ≤ a1) → (vp_in a1 3000 ∧ Q (f0_addresses a1.toNatClampNeg)))))
set_option maxHeartbeats 4000000 in
set_option maxRecDepth 100000 in
theorem hx_q_Image_addressOf (l : Launch) (D : va_G) (kJ kI kB : ClassId) (tC tS : Nat) (sz : Nat) (r0 r0_addresses r0_values r0_heldAddresses r0_heldValues : Nat) (a1 : Int32) (f0_addresses : Nat → Int64) (f0_values : Nat → Int32) (f0_heldAddresses : Nat → Int64) (f0_heldValues : Nat → Int32) (f0_size : Int32) {Q : Int64 → Prop} (h : hx_v_Image_addressOf a1 f0_addresses f0_size Q) :
    Met l hx_y_Image_addressOf (.code hx_y_Image_addressOf hx_c_Image_addressOf 2 (some .long) :: hx_B) (hx_rm 0 0) (va_Pc [.ref r0, .int a1] (hx_I D kJ kI kB tC tS [(r0, .inr (3, [.ref r0_addresses, .ref r0_values, .ref r0_heldAddresses, .ref r0_heldValues, .int f0_size])), (r0_addresses, .inl (kJ, 3000, .inr (.inl f0_addresses))), (r0_values, .inl (kI, 3000, .inl f0_values)), (r0_heldAddresses, .inl (kJ, 256, .inr (.inl f0_heldAddresses))), (r0_heldValues, .inl (kI, 256, .inl f0_heldValues))] sz))
      (va_Ql (S := Unit) (fun r _ => Q r) (fun u t => va_P D vwCl ((fun _ => [(r0, .inr (3, [.ref r0_addresses, .ref r0_values, .ref r0_heldAddresses, .ref r0_heldValues, .int f0_size])), (r0_addresses, .inl (kJ, 3000, .inr (.inl f0_addresses))), (r0_values, .inl (kI, 3000, .inl f0_values)), (r0_heldAddresses, .inl (kJ, 256, .inr (.inl f0_heldAddresses))), (r0_heldValues, .inl (kI, 256, .inl f0_heldValues))]) u) t.heap ∧ va_D (va_A [(r0, .inr (3, [.ref r0_addresses, .ref r0_values, .ref r0_heldAddresses, .ref r0_heldValues, .int f0_size])), (r0_addresses, .inl (kJ, 3000, .inr (.inl f0_addresses))), (r0_values, .inl (kI, 3000, .inl f0_values)), (r0_heldAddresses, .inl (kJ, 256, .inr (.inl f0_heldAddresses))), (r0_heldValues, .inl (kI, 256, .inl f0_heldValues))] sz) ((fun _ => [(r0, .inr (3, [.ref r0_addresses, .ref r0_values, .ref r0_heldAddresses, .ref r0_heldValues, .int f0_size])), (r0_addresses, .inl (kJ, 3000, .inr (.inl f0_addresses))), (r0_values, .inl (kI, 3000, .inl f0_values)), (r0_heldAddresses, .inl (kJ, 256, .inr (.inl f0_heldAddresses))), (r0_heldValues, .inl (kI, 256, .inl f0_heldValues))]) u)) (va_A [(r0, .inr (3, [.ref r0_addresses, .ref r0_values, .ref r0_heldAddresses, .ref r0_heldValues, .int f0_size])), (r0_addresses, .inl (kJ, 3000, .inr (.inl f0_addresses))), (r0_values, .inl (kI, 3000, .inl f0_values)), (r0_heldAddresses, .inl (kJ, 256, .inr (.inl f0_heldAddresses))), (r0_heldValues, .inl (kI, 256, .inl f0_heldValues))] sz)) 0 0 (va_A [(r0, .inr (3, [.ref r0_addresses, .ref r0_values, .ref r0_heldAddresses, .ref r0_heldValues, .int f0_size])), (r0_addresses, .inl (kJ, 3000, .inr (.inl f0_addresses))), (r0_values, .inl (kI, 3000, .inl f0_values)), (r0_heldAddresses, .inl (kJ, 256, .inr (.inl f0_heldAddresses))), (r0_heldValues, .inl (kI, 256, .inl f0_heldValues))] sz) := by
  refine hx_ofWl (S := Unit) (post := fun r _ => Q r) (B := fun _ => [(r0, .inr (3, [.ref r0_addresses, .ref r0_values, .ref r0_heldAddresses, .ref r0_heldValues, .int f0_size])), (r0_addresses, .inl (kJ, 3000, .inr (.inl f0_addresses))), (r0_values, .inl (kI, 3000, .inl f0_values)), (r0_heldAddresses, .inl (kJ, 256, .inr (.inl f0_heldAddresses))), (r0_heldValues, .inl (kI, 256, .inl f0_heldValues))]) (by decide) (Nat.le_of_ble_eq_true rfl) ?_
  intro p e s m below meth c ls A Qf H locs F hK hZ hA hret hl V
  have hx := F.1
  have hb := F.2.1
  have hl : lv_has ls 2 [(0, .ref r0), (1, .int a1)] := hl
  unfold hx_v_Image_addressOf at h
  refine lv_iload_n hx hb hx_d_Image_addressOf_0 rfl (lv_at hl 1 rfl) ?_
  refine lv_if_lt (tgt := 21) hx hb hx_d_Image_addressOf_1 rfl (fun b => ?_) (fun b => ?_)
  · have h := h.1 b
    refine lv_ldc2 (v := (-1)) hx hb F.2.2.2.1 (F.2.2.2.2 _ hx_m_306) hx_d_Image_addressOf_21 ?_
    exact hret (-1 : Int64) () H locs _ ls hx_d_Image_addressOf_24 h V
  · have h := h.2 b
    refine lv_iload_n hx hb hx_d_Image_addressOf_4 rfl (lv_at hl 1 rfl) ?_
    refine lv_aload_n hx hb hx_d_Image_addressOf_5 rfl (lv_at hl 0 rfl) ?_
    refine hx_get (v := .int f0_size) F hK V hx_f_Image_25 0 rfl rfl hx_d_Image_addressOf_6 ?_
    refine lv_icmp_ge (tgt := 21) hx hb hx_d_Image_addressOf_9 rfl (fun b => ?_) (fun b => ?_)
    · have h := h.1 b
      refine lv_ldc2 (v := (-1)) hx hb F.2.2.2.1 (F.2.2.2.2 _ hx_m_306) hx_d_Image_addressOf_21 ?_
      exact hret (-1 : Int64) () H locs _ ls hx_d_Image_addressOf_24 h V
    · have h := h.2 b
      refine lv_aload_n hx hb hx_d_Image_addressOf_12 rfl (lv_at hl 0 rfl) ?_
      refine hx_get (v := .ref r0_addresses) F hK V hx_f_Image_9 0 rfl rfl hx_d_Image_addressOf_13 ?_
      refine lv_iload_n hx hb hx_d_Image_addressOf_16 rfl (lv_at hl 1 rfl) ?_
      refine hx_lald F hK V 1 rfl h.1 hx_d_Image_addressOf_17 ?_
      have h := h.2
      refine lv_goto (tgt := 24) hx hb hx_d_Image_addressOf_18 rfl ?_
      exact hret (f0_addresses a1.toNatClampNeg) () H locs _ ls hx_d_Image_addressOf_24 h V

def hx_v_Image_holds (a1 : Int64) (f0_addresses : Nat → Int64) (f0_size : Int32) (Q : Int32 → Prop) : Prop :=
  
  hx_v_Image_indexFrom a1 f0_addresses f0_size (fun c3 => hx_v_Image_addressOf c3 f0_addresses f0_size (fun c6 => ((¬ c6 = a1) → (Q (0 : Int32))) ∧ (c6 = a1 → (Q (1 : Int32)))))
set_option maxHeartbeats 4000000 in
set_option maxRecDepth 100000 in
theorem hx_q_Image_holds (l : Launch) (D : va_G) (kJ kI kB : ClassId) (tC tS : Nat) (sz : Nat) (r0 r0_addresses r0_values r0_heldAddresses r0_heldValues : Nat) (a1 : Int64) (f0_addresses : Nat → Int64) (f0_values : Nat → Int32) (f0_heldAddresses : Nat → Int64) (f0_heldValues : Nat → Int32) (f0_size : Int32) {Q : Int32 → Prop} (h : hx_v_Image_holds a1 f0_addresses f0_size Q) :
    Met l hx_y_Image_holds (.code hx_y_Image_holds hx_c_Image_holds 3 (some .boolean) :: hx_B) (hx_rm 1 25) (va_Pc [.ref r0, .long a1] (hx_I D kJ kI kB tC tS [(r0, .inr (3, [.ref r0_addresses, .ref r0_values, .ref r0_heldAddresses, .ref r0_heldValues, .int f0_size])), (r0_addresses, .inl (kJ, 3000, .inr (.inl f0_addresses))), (r0_values, .inl (kI, 3000, .inl f0_values)), (r0_heldAddresses, .inl (kJ, 256, .inr (.inl f0_heldAddresses))), (r0_heldValues, .inl (kI, 256, .inl f0_heldValues))] sz))
      (va_Qi (S := Unit) (fun r _ => Q r) (fun u t => va_P D vwCl ((fun _ => [(r0, .inr (3, [.ref r0_addresses, .ref r0_values, .ref r0_heldAddresses, .ref r0_heldValues, .int f0_size])), (r0_addresses, .inl (kJ, 3000, .inr (.inl f0_addresses))), (r0_values, .inl (kI, 3000, .inl f0_values)), (r0_heldAddresses, .inl (kJ, 256, .inr (.inl f0_heldAddresses))), (r0_heldValues, .inl (kI, 256, .inl f0_heldValues))]) u) t.heap ∧ va_D (va_A [(r0, .inr (3, [.ref r0_addresses, .ref r0_values, .ref r0_heldAddresses, .ref r0_heldValues, .int f0_size])), (r0_addresses, .inl (kJ, 3000, .inr (.inl f0_addresses))), (r0_values, .inl (kI, 3000, .inl f0_values)), (r0_heldAddresses, .inl (kJ, 256, .inr (.inl f0_heldAddresses))), (r0_heldValues, .inl (kI, 256, .inl f0_heldValues))] sz) ((fun _ => [(r0, .inr (3, [.ref r0_addresses, .ref r0_values, .ref r0_heldAddresses, .ref r0_heldValues, .int f0_size])), (r0_addresses, .inl (kJ, 3000, .inr (.inl f0_addresses))), (r0_values, .inl (kI, 3000, .inl f0_values)), (r0_heldAddresses, .inl (kJ, 256, .inr (.inl f0_heldAddresses))), (r0_heldValues, .inl (kI, 256, .inl f0_heldValues))]) u)) (va_A [(r0, .inr (3, [.ref r0_addresses, .ref r0_values, .ref r0_heldAddresses, .ref r0_heldValues, .int f0_size])), (r0_addresses, .inl (kJ, 3000, .inr (.inl f0_addresses))), (r0_values, .inl (kI, 3000, .inl f0_values)), (r0_heldAddresses, .inl (kJ, 256, .inr (.inl f0_heldAddresses))), (r0_heldValues, .inl (kI, 256, .inl f0_heldValues))] sz)) 0 0 (va_A [(r0, .inr (3, [.ref r0_addresses, .ref r0_values, .ref r0_heldAddresses, .ref r0_heldValues, .int f0_size])), (r0_addresses, .inl (kJ, 3000, .inr (.inl f0_addresses))), (r0_values, .inl (kI, 3000, .inl f0_values)), (r0_heldAddresses, .inl (kJ, 256, .inr (.inl f0_heldAddresses))), (r0_heldValues, .inl (kI, 256, .inl f0_heldValues))] sz) := by
  refine hx_ofWz (S := Unit) (post := fun r _ => Q r) (B := fun _ => [(r0, .inr (3, [.ref r0_addresses, .ref r0_values, .ref r0_heldAddresses, .ref r0_heldValues, .int f0_size])), (r0_addresses, .inl (kJ, 3000, .inr (.inl f0_addresses))), (r0_values, .inl (kI, 3000, .inl f0_values)), (r0_heldAddresses, .inl (kJ, 256, .inr (.inl f0_heldAddresses))), (r0_heldValues, .inl (kI, 256, .inl f0_heldValues))]) (by decide) (Nat.le_of_ble_eq_true rfl) ?_
  intro p e s m below meth c ls A Qf H locs F hK hZ hA hret hl V
  have hx := F.1
  have hb := F.2.1
  have hl : lv_has ls 3 [(0, .ref r0), (1, .long a1)] := hl
  unfold hx_v_Image_holds at h
  refine lv_aload_n hx hb hx_d_Image_holds_0 rfl (lv_at hl 0 rfl) ?_
  refine lv_aload_n hx hb hx_d_Image_holds_1 rfl (lv_at hl 0 rfl) ?_
  refine lv_lload_n hx hb hx_d_Image_holds_2 rfl (lv_at hl 1 rfl) ?_
  have K : hx_Cut [(r0, .inr (3, [.ref r0_addresses, .ref r0_values, .ref r0_heldAddresses, .ref r0_heldValues, .int f0_size])), (r0_addresses, .inl (kJ, 3000, .inr (.inl f0_addresses))), (r0_values, .inl (kI, 3000, .inl f0_values)), (r0_heldAddresses, .inl (kJ, 256, .inr (.inl f0_heldAddresses))), (r0_heldValues, .inl (kI, 256, .inl f0_heldValues))] [(r0, .inr (3, [.ref r0_addresses, .ref r0_values, .ref r0_heldAddresses, .ref r0_heldValues, .int f0_size])), (r0_addresses, .inl (kJ, 3000, .inr (.inl f0_addresses))), (r0_values, .inl (kI, 3000, .inl f0_values)), (r0_heldAddresses, .inl (kJ, 256, .inr (.inl f0_heldAddresses))), (r0_heldValues, .inl (kI, 256, .inl f0_heldValues))] [] [0, 1, 2, 3, 4] [] := ⟨rfl, rfl, rfl, rfl, by decide⟩
  refine hx_ci hA V K (hx_rV (As := [.long a1]) (rest := [.ref r0]) F hK hZ hA V K hx_jV_Image_31 (hx_q_Image_indexFrom l D kJ kI kB tC tS H.size r0 r0_addresses r0_values r0_heldAddresses r0_heldValues a1 f0_addresses f0_values f0_heldAddresses f0_heldValues f0_size h) rfl rfl ⟨Nat.le_of_ble_eq_true rfl, Nat.le_of_ble_eq_true rfl⟩ (q0 := 0) rfl rfl rfl rfl hl.1 rfl (Nat.le_of_ble_eq_true rfl) hx_d_Image_holds_3 ⟨Nat.le_of_ble_eq_true rfl, Nat.le_of_ble_eq_true rfl⟩) (fun c3 u H locs h V => ?_)
  have V : hx_V D A s.heap H locs [(r0, .inr (3, [.ref r0_addresses, .ref r0_values, .ref r0_heldAddresses, .ref r0_heldValues, .int f0_size])), (r0_addresses, .inl (kJ, 3000, .inr (.inl f0_addresses))), (r0_values, .inl (kI, 3000, .inl f0_values)), (r0_heldAddresses, .inl (kJ, 256, .inr (.inl f0_heldAddresses))), (r0_heldValues, .inl (kI, 256, .inl f0_heldValues))] := V
  have K : hx_Cut [(r0, .inr (3, [.ref r0_addresses, .ref r0_values, .ref r0_heldAddresses, .ref r0_heldValues, .int f0_size])), (r0_addresses, .inl (kJ, 3000, .inr (.inl f0_addresses))), (r0_values, .inl (kI, 3000, .inl f0_values)), (r0_heldAddresses, .inl (kJ, 256, .inr (.inl f0_heldAddresses))), (r0_heldValues, .inl (kI, 256, .inl f0_heldValues))] [(r0, .inr (3, [.ref r0_addresses, .ref r0_values, .ref r0_heldAddresses, .ref r0_heldValues, .int f0_size])), (r0_addresses, .inl (kJ, 3000, .inr (.inl f0_addresses))), (r0_values, .inl (kI, 3000, .inl f0_values)), (r0_heldAddresses, .inl (kJ, 256, .inr (.inl f0_heldAddresses))), (r0_heldValues, .inl (kI, 256, .inl f0_heldValues))] [] [0, 1, 2, 3, 4] [] := ⟨rfl, rfl, rfl, rfl, by decide⟩
  refine hx_cl hA V K (hx_rV (As := [.int c3]) (rest := []) F hK hZ hA V K hx_jV_Image_35 (hx_q_Image_addressOf l D kJ kI kB tC tS H.size r0 r0_addresses r0_values r0_heldAddresses r0_heldValues c3 f0_addresses f0_values f0_heldAddresses f0_heldValues f0_size h) rfl rfl ⟨Nat.le_of_ble_eq_true rfl, Nat.le_of_ble_eq_true rfl⟩ (q0 := 0) rfl rfl rfl rfl hl.1 rfl (Nat.le_of_ble_eq_true rfl) hx_d_Image_holds_6 ⟨Nat.le_of_ble_eq_true rfl, Nat.le_of_ble_eq_true rfl⟩) (fun c6 u H locs h V => ?_)
  have V : hx_V D A s.heap H locs [(r0, .inr (3, [.ref r0_addresses, .ref r0_values, .ref r0_heldAddresses, .ref r0_heldValues, .int f0_size])), (r0_addresses, .inl (kJ, 3000, .inr (.inl f0_addresses))), (r0_values, .inl (kI, 3000, .inl f0_values)), (r0_heldAddresses, .inl (kJ, 256, .inr (.inl f0_heldAddresses))), (r0_heldValues, .inl (kI, 256, .inl f0_heldValues))] := V
  refine lv_lload_n hx hb hx_d_Image_holds_9 rfl (lv_at hl 1 rfl) ?_
  refine W.lcmp hx hb hx_d_Image_holds_10 ?_
  refine lv_if_ne (tgt := 18) hx hb hx_d_Image_holds_11 rfl (fun b => ?_) (fun b => ?_)
  · have h := h.1 (fun q => b ((lg_cmp_eq _ _).mpr q))
    refine lv_iconst (v := 0) hx hb hx_d_Image_holds_18 (by decide) ?_
    exact hret (0 : Int32) () H locs _ ls rfl hx_d_Image_holds_19 h V
  · have h := h.2 ((lg_cmp_eq _ _).mp b)
    refine lv_iconst (v := 1) hx hb hx_d_Image_holds_14 (by decide) ?_
    refine lv_goto (tgt := 19) hx hb hx_d_Image_holds_15 rfl ?_
    exact hret (1 : Int32) () H locs _ ls rfl hx_d_Image_holds_19 h V

def hx_v_Image_openBlock (a1 : Int64) (a2 : Int32) (a3 : Int32) (f0_addresses : Nat → Int64) (f0_values : Nat → Int32) (f0_size : Int32) (Q : Int32 → (Nat → Int64) → (Nat → Int32) → Int32 → Prop) : Prop :=
  
  hx_v_Image_indexFrom a1 f0_addresses f0_size (fun c2 => hx_v_Image_indexFrom (a1 + a2.toInt64) f0_addresses f0_size (fun c12 => ∀ z30 : Int32, z30 = (f0_size - (c12 - c2)) + a3 → (z30 ≤ (3000 : Int32) → (hx_cpo c12 (c2 + a3) (f0_size - c12) 3000 3000 ∧ hx_cpo c12 (c2 + a3) (f0_size - c12) 3000 3000 ∧ Q c2 (va_cpy f0_addresses f0_addresses c12.toNatClampNeg (c2 + a3).toNatClampNeg (f0_size - c12).toNatClampNeg) (va_cpy f0_values f0_values c12.toNatClampNeg (c2 + a3).toNatClampNeg (f0_size - c12).toNatClampNeg) z30)) ∧ ((¬ z30 ≤ (3000 : Int32)) → (Q (-1 : Int32) f0_addresses f0_values f0_size))))
set_option maxHeartbeats 4000000 in
set_option maxRecDepth 100000 in
theorem hx_q_Image_openBlock (l : Launch) (D : va_G) (kJ kI kB : ClassId) (tC tS : Nat) (sz : Nat) (r0 r0_addresses r0_values r0_heldAddresses r0_heldValues : Nat) (a1 : Int64) (a2 : Int32) (a3 : Int32) (f0_addresses : Nat → Int64) (f0_values : Nat → Int32) (f0_heldAddresses : Nat → Int64) (f0_heldValues : Nat → Int32) (f0_size : Int32) {Q : Int32 → (Nat → Int64) → (Nat → Int32) → Int32 → Prop} (h : hx_v_Image_openBlock a1 a2 a3 f0_addresses f0_values f0_size Q) :
    Met l hx_y_Image_openBlock (.code hx_y_Image_openBlock hx_c_Image_openBlock 8 (some .int) :: hx_B) (hx_rm 1 26) (va_Pc [.ref r0, .long a1, .int a2, .int a3] (hx_I D kJ kI kB tC tS [(r0, .inr (3, [.ref r0_addresses, .ref r0_values, .ref r0_heldAddresses, .ref r0_heldValues, .int f0_size])), (r0_addresses, .inl (kJ, 3000, .inr (.inl f0_addresses))), (r0_values, .inl (kI, 3000, .inl f0_values)), (r0_heldAddresses, .inl (kJ, 256, .inr (.inl f0_heldAddresses))), (r0_heldValues, .inl (kI, 256, .inl f0_heldValues))] sz))
      (va_Qi (S := (Nat → Int64) × (Nat → Int32) × Int32) (fun r (u : (Nat → Int64) × (Nat → Int32) × Int32) => match u with | (f0_addresses, f0_values, f0_size) => Q r f0_addresses f0_values f0_size) (fun u t => va_P D vwCl ((fun u => match u with | (f0_addresses, f0_values, f0_size) => [(r0, .inr (3, [.ref r0_addresses, .ref r0_values, .ref r0_heldAddresses, .ref r0_heldValues, .int f0_size])), (r0_addresses, .inl (kJ, 3000, .inr (.inl f0_addresses))), (r0_values, .inl (kI, 3000, .inl f0_values)), (r0_heldAddresses, .inl (kJ, 256, .inr (.inl f0_heldAddresses))), (r0_heldValues, .inl (kI, 256, .inl f0_heldValues))]) u) t.heap ∧ va_D (va_A [(r0, .inr (3, [.ref r0_addresses, .ref r0_values, .ref r0_heldAddresses, .ref r0_heldValues, .int f0_size])), (r0_addresses, .inl (kJ, 3000, .inr (.inl f0_addresses))), (r0_values, .inl (kI, 3000, .inl f0_values)), (r0_heldAddresses, .inl (kJ, 256, .inr (.inl f0_heldAddresses))), (r0_heldValues, .inl (kI, 256, .inl f0_heldValues))] sz) ((fun u => match u with | (f0_addresses, f0_values, f0_size) => [(r0, .inr (3, [.ref r0_addresses, .ref r0_values, .ref r0_heldAddresses, .ref r0_heldValues, .int f0_size])), (r0_addresses, .inl (kJ, 3000, .inr (.inl f0_addresses))), (r0_values, .inl (kI, 3000, .inl f0_values)), (r0_heldAddresses, .inl (kJ, 256, .inr (.inl f0_heldAddresses))), (r0_heldValues, .inl (kI, 256, .inl f0_heldValues))]) u)) (va_A [(r0, .inr (3, [.ref r0_addresses, .ref r0_values, .ref r0_heldAddresses, .ref r0_heldValues, .int f0_size])), (r0_addresses, .inl (kJ, 3000, .inr (.inl f0_addresses))), (r0_values, .inl (kI, 3000, .inl f0_values)), (r0_heldAddresses, .inl (kJ, 256, .inr (.inl f0_heldAddresses))), (r0_heldValues, .inl (kI, 256, .inl f0_heldValues))] sz)) 0 0 (va_A [(r0, .inr (3, [.ref r0_addresses, .ref r0_values, .ref r0_heldAddresses, .ref r0_heldValues, .int f0_size])), (r0_addresses, .inl (kJ, 3000, .inr (.inl f0_addresses))), (r0_values, .inl (kI, 3000, .inl f0_values)), (r0_heldAddresses, .inl (kJ, 256, .inr (.inl f0_heldAddresses))), (r0_heldValues, .inl (kI, 256, .inl f0_heldValues))] sz) := by
  refine hx_ofWi (S := (Nat → Int64) × (Nat → Int32) × Int32) (post := fun r (u : (Nat → Int64) × (Nat → Int32) × Int32) => match u with | (f0_addresses, f0_values, f0_size) => Q r f0_addresses f0_values f0_size) (B := fun u => match u with | (f0_addresses, f0_values, f0_size) => [(r0, .inr (3, [.ref r0_addresses, .ref r0_values, .ref r0_heldAddresses, .ref r0_heldValues, .int f0_size])), (r0_addresses, .inl (kJ, 3000, .inr (.inl f0_addresses))), (r0_values, .inl (kI, 3000, .inl f0_values)), (r0_heldAddresses, .inl (kJ, 256, .inr (.inl f0_heldAddresses))), (r0_heldValues, .inl (kI, 256, .inl f0_heldValues))]) (by decide) (Nat.le_of_ble_eq_true rfl) ?_
  intro p e s m below meth c ls A Qf H locs F hK hZ hA hret hl V
  have hx := F.1
  have hb := F.2.1
  have hl : lv_has ls 8 [(0, .ref r0), (1, .long a1), (3, .int a2), (4, .int a3)] := hl
  unfold hx_v_Image_openBlock at h
  refine lv_aload_n hx hb hx_d_Image_openBlock_0 rfl (lv_at hl 0 rfl) ?_
  refine lv_lload_n hx hb hx_d_Image_openBlock_1 rfl (lv_at hl 1 rfl) ?_
  have K : hx_Cut [(r0, .inr (3, [.ref r0_addresses, .ref r0_values, .ref r0_heldAddresses, .ref r0_heldValues, .int f0_size])), (r0_addresses, .inl (kJ, 3000, .inr (.inl f0_addresses))), (r0_values, .inl (kI, 3000, .inl f0_values)), (r0_heldAddresses, .inl (kJ, 256, .inr (.inl f0_heldAddresses))), (r0_heldValues, .inl (kI, 256, .inl f0_heldValues))] [(r0, .inr (3, [.ref r0_addresses, .ref r0_values, .ref r0_heldAddresses, .ref r0_heldValues, .int f0_size])), (r0_addresses, .inl (kJ, 3000, .inr (.inl f0_addresses))), (r0_values, .inl (kI, 3000, .inl f0_values)), (r0_heldAddresses, .inl (kJ, 256, .inr (.inl f0_heldAddresses))), (r0_heldValues, .inl (kI, 256, .inl f0_heldValues))] [] [0, 1, 2, 3, 4] [] := ⟨rfl, rfl, rfl, rfl, by decide⟩
  refine hx_ci hA V K (hx_rV (As := [.long a1]) (rest := []) F hK hZ hA V K hx_jV_Image_31 (hx_q_Image_indexFrom l D kJ kI kB tC tS H.size r0 r0_addresses r0_values r0_heldAddresses r0_heldValues a1 f0_addresses f0_values f0_heldAddresses f0_heldValues f0_size h) rfl rfl ⟨Nat.le_of_ble_eq_true rfl, Nat.le_of_ble_eq_true rfl⟩ (q0 := 0) rfl rfl rfl rfl hl.1 rfl (Nat.le_of_ble_eq_true rfl) hx_d_Image_openBlock_2 ⟨Nat.le_of_ble_eq_true rfl, Nat.le_of_ble_eq_true rfl⟩) (fun c2 u H locs h V => ?_)
  have V : hx_V D A s.heap H locs [(r0, .inr (3, [.ref r0_addresses, .ref r0_values, .ref r0_heldAddresses, .ref r0_heldValues, .int f0_size])), (r0_addresses, .inl (kJ, 3000, .inr (.inl f0_addresses))), (r0_values, .inl (kI, 3000, .inl f0_values)), (r0_heldAddresses, .inl (kJ, 256, .inr (.inl f0_heldAddresses))), (r0_heldValues, .inl (kI, 256, .inl f0_heldValues))] := V
  refine lv_istore (lv' := [(5, .int c2), (0, .ref r0), (1, .long a1), (3, .int a2), (4, .int a3)]) hx hb hx_d_Image_openBlock_5 hl (Nat.le_of_ble_eq_true rfl) rfl (fun ls hl => ?_)
  refine lv_aload_n hx hb hx_d_Image_openBlock_7 rfl (lv_at hl 1 rfl) ?_
  refine lv_lload_n hx hb hx_d_Image_openBlock_8 rfl (lv_at hl 2 rfl) ?_
  refine lv_iload_n hx hb hx_d_Image_openBlock_9 rfl (lv_at hl 3 rfl) ?_
  refine lv_i2l hx hb hx_d_Image_openBlock_10 rfl ?_
  refine lv_ladd hx hb hx_d_Image_openBlock_11 ?_
  have K : hx_Cut [(r0, .inr (3, [.ref r0_addresses, .ref r0_values, .ref r0_heldAddresses, .ref r0_heldValues, .int f0_size])), (r0_addresses, .inl (kJ, 3000, .inr (.inl f0_addresses))), (r0_values, .inl (kI, 3000, .inl f0_values)), (r0_heldAddresses, .inl (kJ, 256, .inr (.inl f0_heldAddresses))), (r0_heldValues, .inl (kI, 256, .inl f0_heldValues))] [(r0, .inr (3, [.ref r0_addresses, .ref r0_values, .ref r0_heldAddresses, .ref r0_heldValues, .int f0_size])), (r0_addresses, .inl (kJ, 3000, .inr (.inl f0_addresses))), (r0_values, .inl (kI, 3000, .inl f0_values)), (r0_heldAddresses, .inl (kJ, 256, .inr (.inl f0_heldAddresses))), (r0_heldValues, .inl (kI, 256, .inl f0_heldValues))] [] [0, 1, 2, 3, 4] [] := ⟨rfl, rfl, rfl, rfl, by decide⟩
  refine hx_ci hA V K (hx_rV (As := [.long (a1 + a2.toInt64)]) (rest := []) F hK hZ hA V K hx_jV_Image_31 (hx_q_Image_indexFrom l D kJ kI kB tC tS H.size r0 r0_addresses r0_values r0_heldAddresses r0_heldValues (a1 + a2.toInt64) f0_addresses f0_values f0_heldAddresses f0_heldValues f0_size h) rfl rfl ⟨Nat.le_of_ble_eq_true rfl, Nat.le_of_ble_eq_true rfl⟩ (q0 := 0) rfl rfl rfl rfl hl.1 rfl (Nat.le_of_ble_eq_true rfl) hx_d_Image_openBlock_12 ⟨Nat.le_of_ble_eq_true rfl, Nat.le_of_ble_eq_true rfl⟩) (fun c12 u H locs h V => ?_)
  have V : hx_V D A s.heap H locs [(r0, .inr (3, [.ref r0_addresses, .ref r0_values, .ref r0_heldAddresses, .ref r0_heldValues, .int f0_size])), (r0_addresses, .inl (kJ, 3000, .inr (.inl f0_addresses))), (r0_values, .inl (kI, 3000, .inl f0_values)), (r0_heldAddresses, .inl (kJ, 256, .inr (.inl f0_heldAddresses))), (r0_heldValues, .inl (kI, 256, .inl f0_heldValues))] := V
  refine lv_istore (lv' := [(6, .int c12), (5, .int c2), (0, .ref r0), (1, .long a1), (3, .int a2), (4, .int a3)]) hx hb hx_d_Image_openBlock_15 hl (Nat.le_of_ble_eq_true rfl) rfl (fun ls hl => ?_)
  refine lv_aload_n hx hb hx_d_Image_openBlock_17 rfl (lv_at hl 2 rfl) ?_
  refine hx_get (v := .int f0_size) F hK V hx_f_Image_25 0 rfl rfl hx_d_Image_openBlock_18 ?_
  refine lv_iload hx hb hx_d_Image_openBlock_21 (lv_at hl 0 rfl) ?_
  refine lv_iload hx hb hx_d_Image_openBlock_23 (lv_at hl 1 rfl) ?_
  refine lv_isub hx hb hx_d_Image_openBlock_25 ?_
  refine lv_isub hx hb hx_d_Image_openBlock_26 ?_
  refine lv_iload hx hb hx_d_Image_openBlock_27 (lv_at hl 5 rfl) ?_
  refine lv_iadd hx hb hx_d_Image_openBlock_29 ?_
  refine lv_topi (fun z30 e => ?_)
  have h := h z30 e
  refine lv_istore (lv' := [(7, .int z30), (6, .int c12), (5, .int c2), (0, .ref r0), (1, .long a1), (3, .int a2), (4, .int a3)]) hx hb hx_d_Image_openBlock_30 hl (Nat.le_of_ble_eq_true rfl) rfl (fun ls hl => ?_)
  refine lv_iload hx hb hx_d_Image_openBlock_32 (lv_at hl 0 rfl) ?_
  refine lv_sipush (v := 3000) hx hb hx_d_Image_openBlock_34 (by decide) ?_
  refine lv_icmp_le (tgt := 42) hx hb hx_d_Image_openBlock_37 rfl (fun b => ?_) (fun b => ?_)
  · have h := h.1 b
    refine lv_aload_n hx hb hx_d_Image_openBlock_42 rfl (lv_at hl 3 rfl) ?_
    refine hx_get (v := .ref r0_addresses) F hK V hx_f_Image_9 0 rfl rfl hx_d_Image_openBlock_43 ?_
    refine lv_iload hx hb hx_d_Image_openBlock_46 (lv_at hl 1 rfl) ?_
    refine lv_aload_n hx hb hx_d_Image_openBlock_48 rfl (lv_at hl 3 rfl) ?_
    refine hx_get (v := .ref r0_addresses) F hK V hx_f_Image_9 0 rfl rfl hx_d_Image_openBlock_49 ?_
    refine lv_iload hx hb hx_d_Image_openBlock_52 (lv_at hl 2 rfl) ?_
    refine lv_iload hx hb hx_d_Image_openBlock_54 (lv_at hl 6 rfl) ?_
    refine lv_iadd hx hb hx_d_Image_openBlock_56 ?_
    refine lv_aload_n hx hb hx_d_Image_openBlock_57 rfl (lv_at hl 3 rfl) ?_
    refine hx_get (v := .int f0_size) F hK V hx_f_Image_25 0 rfl rfl hx_d_Image_openBlock_58 ?_
    refine lv_iload hx hb hx_d_Image_openBlock_61 (lv_at hl 1 rfl) ?_
    refine lv_isub hx hb hx_d_Image_openBlock_63 ?_
    refine hx_copyl (ws' := [(r0, .inr (3, [.ref r0_addresses, .ref r0_values, .ref r0_heldAddresses, .ref r0_heldValues, .int f0_size])), (r0_addresses, .inl (kJ, 3000, .inr (.inl (va_cpy f0_addresses f0_addresses c12.toNatClampNeg (c2 + a3).toNatClampNeg (f0_size - c12).toNatClampNeg)))), (r0_values, .inl (kI, 3000, .inl f0_values)), (r0_heldAddresses, .inl (kJ, 256, .inr (.inl f0_heldAddresses))), (r0_heldValues, .inl (kI, 256, .inl f0_heldValues))]) F hl.1 hK V hx_a_Image_52 1 1 rfl rfl h.1 (Nat.le_of_ble_eq_true rfl) (by decide +kernel) rfl hx_d_Image_openBlock_64 (fun H locs V => ?_)
    have h := h.2
    refine lv_aload_n hx hb hx_d_Image_openBlock_67 rfl (lv_at hl 3 rfl) ?_
    refine hx_get (v := .ref r0_values) F hK V hx_f_Image_15 0 rfl rfl hx_d_Image_openBlock_68 ?_
    refine lv_iload hx hb hx_d_Image_openBlock_71 (lv_at hl 1 rfl) ?_
    refine lv_aload_n hx hb hx_d_Image_openBlock_73 rfl (lv_at hl 3 rfl) ?_
    refine hx_get (v := .ref r0_values) F hK V hx_f_Image_15 0 rfl rfl hx_d_Image_openBlock_74 ?_
    refine lv_iload hx hb hx_d_Image_openBlock_77 (lv_at hl 2 rfl) ?_
    refine lv_iload hx hb hx_d_Image_openBlock_79 (lv_at hl 6 rfl) ?_
    refine lv_iadd hx hb hx_d_Image_openBlock_81 ?_
    refine lv_aload_n hx hb hx_d_Image_openBlock_82 rfl (lv_at hl 3 rfl) ?_
    refine hx_get (v := .int f0_size) F hK V hx_f_Image_25 0 rfl rfl hx_d_Image_openBlock_83 ?_
    refine lv_iload hx hb hx_d_Image_openBlock_86 (lv_at hl 1 rfl) ?_
    refine lv_isub hx hb hx_d_Image_openBlock_88 ?_
    refine hx_copyi (ws' := [(r0, .inr (3, [.ref r0_addresses, .ref r0_values, .ref r0_heldAddresses, .ref r0_heldValues, .int f0_size])), (r0_addresses, .inl (kJ, 3000, .inr (.inl (va_cpy f0_addresses f0_addresses c12.toNatClampNeg (c2 + a3).toNatClampNeg (f0_size - c12).toNatClampNeg)))), (r0_values, .inl (kI, 3000, .inl (va_cpy f0_values f0_values c12.toNatClampNeg (c2 + a3).toNatClampNeg (f0_size - c12).toNatClampNeg))), (r0_heldAddresses, .inl (kJ, 256, .inr (.inl f0_heldAddresses))), (r0_heldValues, .inl (kI, 256, .inl f0_heldValues))]) F hl.1 hK V hx_a_Image_52 2 2 rfl rfl h.1 (Nat.le_of_ble_eq_true rfl) (by decide +kernel) rfl hx_d_Image_openBlock_89 (fun H locs V => ?_)
    have h := h.2
    refine lv_aload_n hx hb hx_d_Image_openBlock_92 rfl (lv_at hl 3 rfl) ?_
    refine lv_iload hx hb hx_d_Image_openBlock_93 (lv_at hl 0 rfl) ?_
    refine hx_put (v := .int z30) (ws' := [(r0, .inr (3, [.ref r0_addresses, .ref r0_values, .ref r0_heldAddresses, .ref r0_heldValues, .int z30])), (r0_addresses, .inl (kJ, 3000, .inr (.inl (va_cpy f0_addresses f0_addresses c12.toNatClampNeg (c2 + a3).toNatClampNeg (f0_size - c12).toNatClampNeg)))), (r0_values, .inl (kI, 3000, .inl (va_cpy f0_values f0_values c12.toNatClampNeg (c2 + a3).toNatClampNeg (f0_size - c12).toNatClampNeg))), (r0_heldAddresses, .inl (kJ, 256, .inr (.inl f0_heldAddresses))), (r0_heldValues, .inl (kI, 256, .inl f0_heldValues))]) F hK V hx_f_Image_25 0 rfl rfl rfl (Nat.le_of_ble_eq_true rfl) rfl hx_d_Image_openBlock_95 (fun H locs V => ?_)
    refine lv_iload hx hb hx_d_Image_openBlock_98 (lv_at hl 2 rfl) ?_
    exact hret c2 ((va_cpy f0_addresses f0_addresses c12.toNatClampNeg (c2 + a3).toNatClampNeg (f0_size - c12).toNatClampNeg), (va_cpy f0_values f0_values c12.toNatClampNeg (c2 + a3).toNatClampNeg (f0_size - c12).toNatClampNeg), z30) H locs _ ls hx_d_Image_openBlock_100 h V
  · have h := h.2 b
    refine lv_iconst (v := (-1)) hx hb hx_d_Image_openBlock_40 (by decide) ?_
    exact hret (-1 : Int32) (f0_addresses, f0_values, f0_size) H locs _ ls hx_d_Image_openBlock_41 h V

def hx_v_Image_spread (a1 : Int64) (a2 : Int32) (a3 : Int32) (f0_addresses : Nat → Int64) (f0_values : Nat → Int32) (f0_size : Int32) (Q : Int32 → (Nat → Int64) → (Nat → Int32) → Int32 → Prop) : Prop :=
  ∀ P20 : Int32 → Int32 → (Nat → Int64) → (Nat → Int32) → Int32 → Prop, 
  (∀ (x5 : Int32) (x6 : Int32) (f0_addresses : Nat → Int64) (f0_values : Nat → Int32) (f0_size : Int32), ((a2 ≤ x6 → (Q (1 : Int32) f0_addresses f0_values f0_size)) ∧ ((¬ a2 ≤ x6) → (vp_in (x5 + x6) 3000 ∧ vp_in (x5 + x6) 3000 ∧ P20 x5 (x6 + 1) (vp_updL f0_addresses (x5 + x6).toNatClampNeg (a1 + x6.toInt64)) (upd f0_values (x5 + x6).toNatClampNeg a3) f0_size))) → P20 x5 x6 f0_addresses f0_values f0_size) →
  (hx_v_Image_openBlock a1 a2 a2 f0_addresses f0_values f0_size (fun c4 f0_addresses f0_values f0_size => ((¬ c4 = (-1 : Int32)) → (P20 c4 (0 : Int32) f0_addresses f0_values f0_size)) ∧ (c4 = (-1 : Int32) → (Q (0 : Int32) f0_addresses f0_values f0_size))))
set_option maxHeartbeats 4000000 in
set_option maxRecDepth 100000 in
theorem hx_q_Image_spread (l : Launch) (D : va_G) (kJ kI kB : ClassId) (tC tS : Nat) (sz : Nat) (r0 r0_addresses r0_values r0_heldAddresses r0_heldValues : Nat) (a1 : Int64) (a2 : Int32) (a3 : Int32) (f0_addresses : Nat → Int64) (f0_values : Nat → Int32) (f0_heldAddresses : Nat → Int64) (f0_heldValues : Nat → Int32) (f0_size : Int32) {Q : Int32 → (Nat → Int64) → (Nat → Int32) → Int32 → Prop} (h : hx_v_Image_spread a1 a2 a3 f0_addresses f0_values f0_size Q) :
    Met l hx_y_Image_spread (.code hx_y_Image_spread hx_c_Image_spread 7 (some .boolean) :: hx_B) (hx_rm 2 53) (va_Pc [.ref r0, .long a1, .int a2, .int a3] (hx_I D kJ kI kB tC tS [(r0, .inr (3, [.ref r0_addresses, .ref r0_values, .ref r0_heldAddresses, .ref r0_heldValues, .int f0_size])), (r0_addresses, .inl (kJ, 3000, .inr (.inl f0_addresses))), (r0_values, .inl (kI, 3000, .inl f0_values)), (r0_heldAddresses, .inl (kJ, 256, .inr (.inl f0_heldAddresses))), (r0_heldValues, .inl (kI, 256, .inl f0_heldValues))] sz))
      (va_Qi (S := (Nat → Int64) × (Nat → Int32) × Int32) (fun r (u : (Nat → Int64) × (Nat → Int32) × Int32) => match u with | (f0_addresses, f0_values, f0_size) => Q r f0_addresses f0_values f0_size) (fun u t => va_P D vwCl ((fun u => match u with | (f0_addresses, f0_values, f0_size) => [(r0, .inr (3, [.ref r0_addresses, .ref r0_values, .ref r0_heldAddresses, .ref r0_heldValues, .int f0_size])), (r0_addresses, .inl (kJ, 3000, .inr (.inl f0_addresses))), (r0_values, .inl (kI, 3000, .inl f0_values)), (r0_heldAddresses, .inl (kJ, 256, .inr (.inl f0_heldAddresses))), (r0_heldValues, .inl (kI, 256, .inl f0_heldValues))]) u) t.heap ∧ va_D (va_A [(r0, .inr (3, [.ref r0_addresses, .ref r0_values, .ref r0_heldAddresses, .ref r0_heldValues, .int f0_size])), (r0_addresses, .inl (kJ, 3000, .inr (.inl f0_addresses))), (r0_values, .inl (kI, 3000, .inl f0_values)), (r0_heldAddresses, .inl (kJ, 256, .inr (.inl f0_heldAddresses))), (r0_heldValues, .inl (kI, 256, .inl f0_heldValues))] sz) ((fun u => match u with | (f0_addresses, f0_values, f0_size) => [(r0, .inr (3, [.ref r0_addresses, .ref r0_values, .ref r0_heldAddresses, .ref r0_heldValues, .int f0_size])), (r0_addresses, .inl (kJ, 3000, .inr (.inl f0_addresses))), (r0_values, .inl (kI, 3000, .inl f0_values)), (r0_heldAddresses, .inl (kJ, 256, .inr (.inl f0_heldAddresses))), (r0_heldValues, .inl (kI, 256, .inl f0_heldValues))]) u)) (va_A [(r0, .inr (3, [.ref r0_addresses, .ref r0_values, .ref r0_heldAddresses, .ref r0_heldValues, .int f0_size])), (r0_addresses, .inl (kJ, 3000, .inr (.inl f0_addresses))), (r0_values, .inl (kI, 3000, .inl f0_values)), (r0_heldAddresses, .inl (kJ, 256, .inr (.inl f0_heldAddresses))), (r0_heldValues, .inl (kI, 256, .inl f0_heldValues))] sz)) 0 0 (va_A [(r0, .inr (3, [.ref r0_addresses, .ref r0_values, .ref r0_heldAddresses, .ref r0_heldValues, .int f0_size])), (r0_addresses, .inl (kJ, 3000, .inr (.inl f0_addresses))), (r0_values, .inl (kI, 3000, .inl f0_values)), (r0_heldAddresses, .inl (kJ, 256, .inr (.inl f0_heldAddresses))), (r0_heldValues, .inl (kI, 256, .inl f0_heldValues))] sz) := by
  refine hx_ofWz (S := (Nat → Int64) × (Nat → Int32) × Int32) (post := fun r (u : (Nat → Int64) × (Nat → Int32) × Int32) => match u with | (f0_addresses, f0_values, f0_size) => Q r f0_addresses f0_values f0_size) (B := fun u => match u with | (f0_addresses, f0_values, f0_size) => [(r0, .inr (3, [.ref r0_addresses, .ref r0_values, .ref r0_heldAddresses, .ref r0_heldValues, .int f0_size])), (r0_addresses, .inl (kJ, 3000, .inr (.inl f0_addresses))), (r0_values, .inl (kI, 3000, .inl f0_values)), (r0_heldAddresses, .inl (kJ, 256, .inr (.inl f0_heldAddresses))), (r0_heldValues, .inl (kI, 256, .inl f0_heldValues))]) (by decide) (Nat.le_of_ble_eq_true rfl) ?_
  intro p e s m below meth c ls A Qf H locs F hK hZ hA hret hl V
  have hx := F.1
  have hb := F.2.1
  have hl : lv_has ls 7 [(0, .ref r0), (1, .long a1), (3, .int a2), (4, .int a3)] := hl
  unfold hx_v_Image_spread at h
  have h := h (fun (x5 : Int32) (x6 : Int32) (f0_addresses : Nat → Int64) (f0_values : Nat → Int32) (f0_size : Int32) => ∀ (ls : Array Slot) (H : Heap) (locs : List Loc), lv_has ls 7 [(0, .ref r0), (1, .long a1), (3, .int a2), (4, .int a3), (5, .int x5), (6, .int x6)] → hx_V D A s.heap H locs [(r0, .inr (3, [.ref r0_addresses, .ref r0_values, .ref r0_heldAddresses, .ref r0_heldValues, .int f0_size])), (r0_addresses, .inl (kJ, 3000, .inr (.inl f0_addresses))), (r0_values, .inl (kI, 3000, .inl f0_values)), (r0_heldAddresses, .inl (kJ, 256, .inr (.inl f0_heldAddresses))), (r0_heldValues, .inl (kI, 256, .inl f0_heldValues))] → W p l e (hx_rm 2 53) s m ([.ref r0, .long a1, .int a2, .int a3] : List Value).toArray below meth c H locs 0 0 Qf (F0 m 20 ls []))
  have h := h (by
    intro x5 x6 f0_addresses f0_values f0_size h ls H locs hl V
    refine lv_iload hx hb hx_d_Image_spread_20 (lv_at hl 5 rfl) ?_
    refine lv_iload_n hx hb hx_d_Image_spread_22 rfl (lv_at hl 2 rfl) ?_
    refine lv_icmp_ge (tgt := 59) hx hb hx_d_Image_spread_23 rfl (fun b => ?_) (fun b => ?_)
    · have h := h.1 b
      refine lv_iconst (v := 1) hx hb hx_d_Image_spread_59 (by decide) ?_
      exact hret (1 : Int32) (f0_addresses, f0_values, f0_size) H locs _ ls rfl hx_d_Image_spread_60 h V
    · have h := h.2 b
      refine lv_aload_n hx hb hx_d_Image_spread_26 rfl (lv_at hl 0 rfl) ?_
      refine hx_get (v := .ref r0_addresses) F hK V hx_f_Image_9 0 rfl rfl hx_d_Image_spread_27 ?_
      refine lv_iload hx hb hx_d_Image_spread_30 (lv_at hl 4 rfl) ?_
      refine lv_iload hx hb hx_d_Image_spread_32 (lv_at hl 5 rfl) ?_
      refine lv_iadd hx hb hx_d_Image_spread_34 ?_
      refine lv_lload_n hx hb hx_d_Image_spread_35 rfl (lv_at hl 1 rfl) ?_
      refine lv_iload hx hb hx_d_Image_spread_36 (lv_at hl 5 rfl) ?_
      refine lv_i2l hx hb hx_d_Image_spread_38 rfl ?_
      refine lv_ladd hx hb hx_d_Image_spread_39 ?_
      refine hx_last (ws' := [(r0, .inr (3, [.ref r0_addresses, .ref r0_values, .ref r0_heldAddresses, .ref r0_heldValues, .int f0_size])), (r0_addresses, .inl (kJ, 3000, .inr (.inl (vp_updL f0_addresses (x5 + x6).toNatClampNeg (a1 + x6.toInt64))))), (r0_values, .inl (kI, 3000, .inl f0_values)), (r0_heldAddresses, .inl (kJ, 256, .inr (.inl f0_heldAddresses))), (r0_heldValues, .inl (kI, 256, .inl f0_heldValues))]) F hK V 1 rfl h.1 rfl hx_d_Image_spread_40 (fun H locs V => ?_)
      have h := h.2
      refine lv_aload_n hx hb hx_d_Image_spread_41 rfl (lv_at hl 0 rfl) ?_
      refine hx_get (v := .ref r0_values) F hK V hx_f_Image_15 0 rfl rfl hx_d_Image_spread_42 ?_
      refine lv_iload hx hb hx_d_Image_spread_45 (lv_at hl 4 rfl) ?_
      refine lv_iload hx hb hx_d_Image_spread_47 (lv_at hl 5 rfl) ?_
      refine lv_iadd hx hb hx_d_Image_spread_49 ?_
      refine lv_iload hx hb hx_d_Image_spread_50 (lv_at hl 3 rfl) ?_
      refine hx_iast (ws' := [(r0, .inr (3, [.ref r0_addresses, .ref r0_values, .ref r0_heldAddresses, .ref r0_heldValues, .int f0_size])), (r0_addresses, .inl (kJ, 3000, .inr (.inl (vp_updL f0_addresses (x5 + x6).toNatClampNeg (a1 + x6.toInt64))))), (r0_values, .inl (kI, 3000, .inl (upd f0_values (x5 + x6).toNatClampNeg a3))), (r0_heldAddresses, .inl (kJ, 256, .inr (.inl f0_heldAddresses))), (r0_heldValues, .inl (kI, 256, .inl f0_heldValues))]) F hK V 2 rfl h.1 rfl hx_d_Image_spread_52 (fun H locs V => ?_)
      have h := h.2
      refine lv_iinc (v := x6 + 1) (lv' := [(6, .int (x6 + 1)), (0, .ref r0), (1, .long a1), (3, .int a2), (4, .int a3), (5, .int x5)]) hx hb hx_d_Image_spread_53 hl (k := 5) rfl rfl (Nat.le_of_ble_eq_true rfl) rfl (fun ls hl => ?_)
      refine lv_goto (tgt := 20) hx hb hx_d_Image_spread_56 rfl ?_
      exact h ls H locs (lv_sub hl [1, 2, 3, 4, 5, 0] rfl) V)
  refine lv_aload_n hx hb hx_d_Image_spread_0 rfl (lv_at hl 0 rfl) ?_
  refine lv_lload_n hx hb hx_d_Image_spread_1 rfl (lv_at hl 1 rfl) ?_
  refine lv_iload_n hx hb hx_d_Image_spread_2 rfl (lv_at hl 2 rfl) ?_
  refine lv_iload_n hx hb hx_d_Image_spread_3 rfl (lv_at hl 2 rfl) ?_
  have K : hx_Cut [(r0, .inr (3, [.ref r0_addresses, .ref r0_values, .ref r0_heldAddresses, .ref r0_heldValues, .int f0_size])), (r0_addresses, .inl (kJ, 3000, .inr (.inl f0_addresses))), (r0_values, .inl (kI, 3000, .inl f0_values)), (r0_heldAddresses, .inl (kJ, 256, .inr (.inl f0_heldAddresses))), (r0_heldValues, .inl (kI, 256, .inl f0_heldValues))] [(r0, .inr (3, [.ref r0_addresses, .ref r0_values, .ref r0_heldAddresses, .ref r0_heldValues, .int f0_size])), (r0_addresses, .inl (kJ, 3000, .inr (.inl f0_addresses))), (r0_values, .inl (kI, 3000, .inl f0_values)), (r0_heldAddresses, .inl (kJ, 256, .inr (.inl f0_heldAddresses))), (r0_heldValues, .inl (kI, 256, .inl f0_heldValues))] [] [0, 1, 2, 3, 4] [] := ⟨rfl, rfl, rfl, rfl, by decide⟩
  refine hx_ci hA V K (hx_rV (As := [.long a1, .int a2, .int a2]) (rest := []) F hK hZ hA V K hx_jV_Image_42 (hx_q_Image_openBlock l D kJ kI kB tC tS H.size r0 r0_addresses r0_values r0_heldAddresses r0_heldValues a1 a2 a2 f0_addresses f0_values f0_heldAddresses f0_heldValues f0_size h) rfl rfl ⟨Nat.le_of_ble_eq_true rfl, Nat.le_of_ble_eq_true rfl⟩ (q0 := 0) rfl rfl rfl rfl hl.1 rfl (Nat.le_of_ble_eq_true rfl) hx_d_Image_spread_4 ⟨Nat.le_of_ble_eq_true rfl, Nat.le_of_ble_eq_true rfl⟩) (fun c4 u H locs h V => ?_)
  obtain ⟨f0_addresses, f0_values, f0_size⟩ := u
  have V : hx_V D A s.heap H locs [(r0, .inr (3, [.ref r0_addresses, .ref r0_values, .ref r0_heldAddresses, .ref r0_heldValues, .int f0_size])), (r0_addresses, .inl (kJ, 3000, .inr (.inl f0_addresses))), (r0_values, .inl (kI, 3000, .inl f0_values)), (r0_heldAddresses, .inl (kJ, 256, .inr (.inl f0_heldAddresses))), (r0_heldValues, .inl (kI, 256, .inl f0_heldValues))] := V
  refine lv_istore (lv' := [(5, .int c4), (0, .ref r0), (1, .long a1), (3, .int a2), (4, .int a3)]) hx hb hx_d_Image_spread_7 hl (Nat.le_of_ble_eq_true rfl) rfl (fun ls hl => ?_)
  refine lv_iload hx hb hx_d_Image_spread_9 (lv_at hl 0 rfl) ?_
  refine lv_iconst (v := (-1)) hx hb hx_d_Image_spread_11 (by decide) ?_
  refine lv_icmp_ne (tgt := 17) hx hb hx_d_Image_spread_12 rfl (fun b => ?_) (fun b => ?_)
  · have h := h.1 b
    refine lv_iconst (v := 0) hx hb hx_d_Image_spread_17 (by decide) ?_
    refine lv_istore (lv' := [(6, .int 0), (5, .int c4), (0, .ref r0), (1, .long a1), (3, .int a2), (4, .int a3)]) hx hb hx_d_Image_spread_18 hl (Nat.le_of_ble_eq_true rfl) rfl (fun ls hl => ?_)
    exact h ls H locs (lv_sub hl [2, 3, 4, 5, 1, 0] rfl) V
  · have h := h.2 b
    refine lv_iconst (v := 0) hx hb hx_d_Image_spread_15 (by decide) ?_
    exact hret (0 : Int32) (f0_addresses, f0_values, f0_size) H locs _ ls rfl hx_d_Image_spread_16 h V
