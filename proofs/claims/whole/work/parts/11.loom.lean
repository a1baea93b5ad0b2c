def hx_v_Typed_beginsWith (a1 : Int32) (f0_characters : Nat → Int32) (f0_first : Int32) (f0_behind : Int32) (Q : Int32 → Prop) : Prop :=
  
  (f0_behind ≤ f0_first → (Q (0 : Int32))) ∧ ((¬ f0_behind ≤ f0_first) → (vp_in f0_first 8000 ∧ ((¬ (f0_characters f0_first.toNatClampNeg) = a1) → (Q (0 : Int32))) ∧ ((f0_characters f0_first.toNatClampNeg) = a1 → (Q (1 : Int32)))))
set_option maxHeartbeats 4000000 in
set_option maxRecDepth 100000 in
theorem hx_q_Typed_beginsWith (l : Launch) (D : va_G) (kJ kI kB : ClassId) (tC tS : Nat) (sz : Nat) (r0 r0_characters : Nat) (a1 : Int32) (f0_characters : Nat → Int32) (f0_length : Int32) (f0_first : Int32) (f0_behind : Int32) (f0_digitsFrom : Int32) {Q : Int32 → Prop} (h : hx_v_Typed_beginsWith a1 f0_characters f0_first f0_behind Q) :
    Met l hx_y_Typed_beginsWith (.code hx_y_Typed_beginsWith hx_c_Typed_beginsWith 2 (some .boolean) :: hx_B) (hx_rm 0 0) (va_Pc [.ref r0, .int a1] (hx_I D kJ kI kB tC tS [(r0, .inr (6, [.ref r0_characters, .int f0_length, .int f0_first, .int f0_behind, .int f0_digitsFrom])), (r0_characters, .inl (kB, 8000, .inl f0_characters))] sz))
      (va_Qi (S := Unit) (fun r _ => Q r) (fun u t => va_P D vwCl ((fun _ => [(r0, .inr (6, [.ref r0_characters, .int f0_length, .int f0_first, .int f0_behind, .int f0_digitsFrom])), (r0_characters, .inl (kB, 8000, .inl f0_characters))]) u) t.heap ∧ va_D (va_A [(r0, .inr (6, [.ref r0_characters, .int f0_length, .int f0_first, .int f0_behind, .int f0_digitsFrom])), (r0_characters, .inl (kB, 8000, .inl f0_characters))] sz) ((fun _ => [(r0, .inr (6, [.ref r0_characters, .int f0_length, .int f0_first, .int f0_behind, .int f0_digitsFrom])), (r0_characters, .inl (kB, 8000, .inl f0_characters))]) u)) (va_A [(r0, .inr (6, [.ref r0_characters, .int f0_length, .int f0_first, .int f0_behind, .int f0_digitsFrom])), (r0_characters, .inl (kB, 8000, .inl f0_characters))] sz)) 0 0 (va_A [(r0, .inr (6, [.ref r0_characters, .int f0_length, .int f0_first, .int f0_behind, .int f0_digitsFrom])), (r0_characters, .inl (kB, 8000, .inl f0_characters))] sz) := by
  refine hx_ofWz (S := Unit) (post := fun r _ => Q r) (B := fun _ => [(r0, .inr (6, [.ref r0_characters, .int f0_length, .int f0_first, .int f0_behind, .int f0_digitsFrom])), (r0_characters, .inl (kB, 8000, .inl f0_characters))]) (by decide) (Nat.le_of_ble_eq_true rfl) ?_
  intro p e s m below meth c ls A Qf H locs F hK hZ hA hret hl V
  have hx := F.1
  have hb := F.2.1
  have hl : lv_has ls 2 [(0, .ref r0), (1, .int a1)] := hl
  unfold hx_v_Typed_beginsWith at h
  refine lv_aload_n hx hb hx_d_Typed_beginsWith_0 rfl (lv_at hl 0 rfl) ?_
  refine hx_get (v := .int f0_first) F hK V hx_f_Typed_26 0 rfl rfl hx_d_Typed_beginsWith_1 ?_
  refine lv_aload_n hx hb hx_d_Typed_beginsWith_4 rfl (lv_at hl 0 rfl) ?_
  refine hx_get (v := .int f0_behind) F hK V hx_f_Typed_29 0 rfl rfl hx_d_Typed_beginsWith_5 ?_
  refine lv_icmp_ge (tgt := 28) hx hb hx_d_Typed_beginsWith_8 rfl (fun b => ?_) (fun b => ?_)
  · have h := h.1 b
    refine lv_iconst (v := 0) hx hb hx_d_Typed_beginsWith_28 (by decide) ?_
    exact hret (0 : Int32) () H locs _ ls rfl hx_d_Typed_beginsWith_29 h V
  · have h := h.2 b
    refine lv_aload_n hx hb hx_d_Typed_beginsWith_11 rfl (lv_at hl 0 rfl) ?_
    refine hx_get (v := .ref r0_characters) F hK V hx_f_Typed_9 0 rfl rfl hx_d_Typed_beginsWith_12 ?_
    refine lv_aload_n hx hb hx_d_Typed_beginsWith_15 rfl (lv_at hl 0 rfl) ?_
    refine hx_get (v := .int f0_first) F hK V hx_f_Typed_26 0 rfl rfl hx_d_Typed_beginsWith_16 ?_
    refine hx_bald F hK V 1 rfl h.1 hx_d_Typed_beginsWith_19 ?_
    have h := h.2
    refine lv_iload_n hx hb hx_d_Typed_beginsWith_20 rfl (lv_at hl 1 rfl) ?_
    refine lv_icmp_ne (tgt := 28) hx hb hx_d_Typed_beginsWith_21 rfl (fun b => ?_) (fun b => ?_)
    · have h := h.1 b
      refine lv_iconst (v := 0) hx hb hx_d_Typed_beginsWith_28 (by decide) ?_
      exact hret (0 : Int32) () H locs _ ls rfl hx_d_Typed_beginsWith_29 h V
    · have h := h.2 b
      refine lv_iconst (v := 1) hx hb hx_d_Typed_beginsWith_24 (by decide) ?_
      refine lv_goto (tgt := 29) hx hb hx_d_Typed_beginsWith_25 rfl ?_
      exact hret (1 : Int32) () H locs _ ls rfl hx_d_Typed_beginsWith_29 h V

def hx_v_Typed_recordLength (f0_first : Int32) (f0_behind : Int32) (Q : Int32 → Prop) : Prop :=
  
  Q (f0_behind - f0_first)
set_option maxHeartbeats 4000000 in
set_option maxRecDepth 100000 in
theorem hx_q_Typed_recordLength (l : Launch) (D : va_G) (kJ kI kB : ClassId) (tC tS : Nat) (sz : Nat) (r0 r0_characters : Nat) (f0_characters : Nat → Int32) (f0_length : Int32) (f0_first : Int32) (f0_behind : Int32) (f0_digitsFrom : Int32) {Q : Int32 → Prop} (h : hx_v_Typed_recordLength f0_first f0_behind Q) :
    Met l hx_y_Typed_recordLength (.code hx_y_Typed_recordLength hx_c_Typed_recordLength 1 (some .int) :: hx_B) (hx_rm 0 0) (va_Pc [.ref r0] (hx_I D kJ kI kB tC tS [(r0, .inr (6, [.ref r0_characters, .int f0_length, .int f0_first, .int f0_behind, .int f0_digitsFrom])), (r0_characters, .inl (kB, 8000, .inl f0_characters))] sz))
      (va_Qi (S := Unit) (fun r _ => Q r) (fun u t => va_P D vwCl ((fun _ => [(r0, .inr (6, [.ref r0_characters, .int f0_length, .int f0_first, .int f0_behind, .int f0_digitsFrom])), (r0_characters, .inl (kB, 8000, .inl f0_characters))]) u) t.heap ∧ va_D (va_A [(r0, .inr (6, [.ref r0_characters, .int f0_length, .int f0_first, .int f0_behind, .int f0_digitsFrom])), (r0_characters, .inl (kB, 8000, .inl f0_characters))] sz) ((fun _ => [(r0, .inr (6, [.ref r0_characters, .int f0_length, .int f0_first, .int f0_behind, .int f0_digitsFrom])), (r0_characters, .inl (kB, 8000, .inl f0_characters))]) u)) (va_A [(r0, .inr (6, [.ref r0_characters, .int f0_length, .int f0_first, .int f0_behind, .int f0_digitsFrom])), (r0_characters, .inl (kB, 8000, .inl f0_characters))] sz)) 0 0 (va_A [(r0, .inr (6, [.ref r0_characters, .int f0_length, .int f0_first, .int f0_behind, .int f0_digitsFrom])), (r0_characters, .inl (kB, 8000, .inl f0_characters))] sz) := by
  refine hx_ofWi (S := Unit) (post := fun r _ => Q r) (B := fun _ => [(r0, .inr (6, [.ref r0_characters, .int f0_length, .int f0_first, .int f0_behind, .int f0_digitsFrom])), (r0_characters, .inl (kB, 8000, .inl f0_characters))]) (by decide) (Nat.le_of_ble_eq_true rfl) ?_
  intro p e s m below meth c ls A Qf H locs F hK hZ hA hret hl V
  have hx := F.1
  have hb := F.2.1
  have hl : lv_has ls 1 [(0, .ref r0)] := hl
  unfold hx_v_Typed_recordLength at h
  refine lv_aload_n hx hb hx_d_Typed_recordLength_0 rfl (lv_at hl 0 rfl) ?_
  refine hx_get (v := .int f0_behind) F hK V hx_f_Typed_29 0 rfl rfl hx_d_Typed_recordLength_1 ?_
  refine lv_aload_n hx hb hx_d_Typed_recordLength_4 rfl (lv_at hl 0 rfl) ?_
  refine hx_get (v := .int f0_first) F hK V hx_f_Typed_26 0 rfl rfl hx_d_Typed_recordLength_5 ?_
  refine lv_isub hx hb hx_d_Typed_recordLength_8 ?_
  exact hret (f0_behind - f0_first) () H locs _ ls hx_d_Typed_recordLength_9 h V

def hx_v_Typed_digitAt (a1 : Int32) (f0_characters : Nat → Int32) (f0_first : Int32) (f0_behind : Int32) (Q : Int32 → Prop) : Prop :=
  ∀ P49 : Int32 → Prop, ∀ P69 : Int32 → Prop, 
  (∀ (x3 : Int32), ((x3 < (65 : Int32) → (P69 x3)) ∧ ((¬ x3 < (65 : Int32)) → (((70 : Int32) < x3 → (P69 x3)) ∧ ((¬ (70 : Int32) < x3) → (Q ((x3 - (65 : Int32)) + (10 : Int32))))))) → P49 x3) →
  (∀ (x3 : Int32), ((x3 < (97 : Int32) → (Q (-1 : Int32))) ∧ ((¬ x3 < (97 : Int32)) → (((102 : Int32) < x3 → (Q (-1 : Int32))) ∧ ((¬ (102 : Int32) < x3) → (Q ((x3 - (97 : Int32)) + (10 : Int32))))))) → P69 x3) →
  (∀ z6 : Int32, z6 = f0_first + a1 → (z6 < f0_first → (Q (-1 : Int32))) ∧ ((¬ z6 < f0_first) → ((z6 < f0_behind → (vp_in z6 8000 ∧ ∀ z31 : Int32, z31 = f0_characters z6.toNatClampNeg → (z31 < (48 : Int32) → (P49 z31)) ∧ ((¬ z31 < (48 : Int32)) → (((57 : Int32) < z31 → (P49 z31)) ∧ ((¬ (57 : Int32) < z31) → (Q (z31 - (48 : Int32)))))))) ∧ ((¬ z6 < f0_behind) → (Q (-1 : Int32))))))
set_option maxHeartbeats 4000000 in
set_option maxRecDepth 100000 in
theorem hx_q_Typed_digitAt (l : Launch) (D : va_G) (kJ kI kB : ClassId) (tC tS : Nat) (sz : Nat) (r0 r0_characters : Nat) (a1 : Int32) (f0_characters : Nat → Int32) (f0_length : Int32) (f0_first : Int32) (f0_behind : Int32) (f0_digitsFrom : Int32) {Q : Int32 → Prop} (h : hx_v_Typed_digitAt a1 f0_characters f0_first f0_behind Q) :
    Met l hx_y_Typed_digitAt (.code hx_y_Typed_digitAt hx_c_Typed_digitAt 4 (some .int) :: hx_B) (hx_rm 0 0) (va_Pc [.ref r0, .int a1] (hx_I D kJ kI kB tC tS [(r0, .inr (6, [.ref r0_characters, .int f0_length, .int f0_first, .int f0_behind, .int f0_digitsFrom])), (r0_characters, .inl (kB, 8000, .inl f0_characters))] sz))
      (va_Qi (S := Unit) (fun r _ => Q r) (fun u t => va_P D vwCl ((fun _ => [(r0, .inr (6, [.ref r0_characters, .int f0_length, .int f0_first, .int f0_behind, .int f0_digitsFrom])), (r0_characters, .inl (kB, 8000, .inl f0_characters))]) u) t.heap ∧ va_D (va_A [(r0, .inr (6, [.ref r0_characters, .int f0_length, .int f0_first, .int f0_behind, .int f0_digitsFrom])), (r0_characters, .inl (kB, 8000, .inl f0_characters))] sz) ((fun _ => [(r0, .inr (6, [.ref r0_characters, .int f0_length, .int f0_first, .int f0_behind, .int f0_digitsFrom])), (r0_characters, .inl (kB, 8000, .inl f0_characters))]) u)) (va_A [(r0, .inr (6, [.ref r0_characters, .int f0_length, .int f0_first, .int f0_behind, .int f0_digitsFrom])), (r0_characters, .inl (kB, 8000, .inl f0_characters))] sz)) 0 0 (va_A [(r0, .inr (6, [.ref r0_characters, .int f0_length, .int f0_first, .int f0_behind, .int f0_digitsFrom])), (r0_characters, .inl (kB, 8000, .inl f0_characters))] sz) := by
  refine hx_ofWi (S := Unit) (post := fun r _ => Q r) (B := fun _ => [(r0, .inr (6, [.ref r0_characters, .int f0_length, .int f0_first, .int f0_behind, .int f0_digitsFrom])), (r0_characters, .inl (kB, 8000, .inl f0_characters))]) (by decide) (Nat.le_of_ble_eq_true rfl) ?_
  intro p e s m below meth c ls A Qf H locs F hK hZ hA hret hl V
  have hx := F.1
  have hb := F.2.1
  have hl : lv_has ls 4 [(0, .ref r0), (1, .int a1)] := hl
  unfold hx_v_Typed_digitAt at h
  have h := h (fun (x3 : Int32) => ∀ (ls : Array Slot) (H : Heap) (locs : List Loc), lv_has ls 4 [(3, .int x3)] → hx_V D A s.heap H locs [(r0, .inr (6, [.ref r0_characters, .int f0_length, .int f0_first, .int f0_behind, .int f0_digitsFrom])), (r0_characters, .inl (kB, 8000, .inl f0_characters))] → W p l e (hx_rm 0 0) s m ([.ref r0, .int a1] : List Value).toArray below meth c H locs 0 0 Qf (F0 m 49 ls []))
  have h := h (fun (x3 : Int32) => ∀ (ls : Array Slot) (H : Heap) (locs : List Loc), lv_has ls 4 [(3, .int x3)] → hx_V D A s.heap H locs [(r0, .inr (6, [.ref r0_characters, .int f0_length, .int f0_first, .int f0_behind, .int f0_digitsFrom])), (r0_characters, .inl (kB, 8000, .inl f0_characters))] → W p l e (hx_rm 0 0) s m ([.ref r0, .int a1] : List Value).toArray below meth c H locs 0 0 Qf (F0 m 69 ls []))
  have h := h (by
    intro x3 h ls H locs hl V
    refine lv_iload_n hx hb hx_d_Typed_digitAt_49 rfl (lv_at hl 0 rfl) ?_
    refine lv_bipush (v := 65) hx hb hx_d_Typed_digitAt_50 (by decide) ?_
    refine lv_icmp_lt (tgt := 69) hx hb hx_d_Typed_digitAt_52 rfl (fun b => ?_) (fun b => ?_)
    · have h := h.1 b
      exact h ls H locs (lv_sub hl [0] rfl) V
    · have h := h.2 b
      refine lv_iload_n hx hb hx_d_Typed_digitAt_55 rfl (lv_at hl 0 rfl) ?_
      refine lv_bipush (v := 70) hx hb hx_d_Typed_digitAt_56 (by decide) ?_
      refine lv_icmp_gt (tgt := 69) hx hb hx_d_Typed_digitAt_58 rfl (fun b => ?_) (fun b => ?_)
      · have h := h.1 b
        exact h ls H locs (lv_sub hl [0] rfl) V
      · have h := h.2 b
        refine lv_iload_n hx hb hx_d_Typed_digitAt_61 rfl (lv_at hl 0 rfl) ?_
        refine lv_bipush (v := 65) hx hb hx_d_Typed_digitAt_62 (by decide) ?_
        refine lv_isub hx hb hx_d_Typed_digitAt_64 ?_
        refine lv_bipush (v := 10) hx hb hx_d_Typed_digitAt_65 (by decide) ?_
        refine lv_iadd hx hb hx_d_Typed_digitAt_67 ?_
        exact hret ((x3 - (65 : Int32)) + (10 : Int32)) () H locs _ ls hx_d_Typed_digitAt_68 h V)
  have h := h (by
    intro x3 h ls H locs hl V
    refine lv_iload_n hx hb hx_d_Typed_digitAt_69 rfl (lv_at hl 0 rfl) ?_
    refine lv_bipush (v := 97) hx hb hx_d_Typed_digitAt_70 (by decide) ?_
    refine lv_icmp_lt (tgt := 89) hx hb hx_d_Typed_digitAt_72 rfl (fun b => ?_) (fun b => ?_)
    · have h := h.1 b
      refine lv_iconst (v := (-1)) hx hb hx_d_Typed_digitAt_89 (by decide) ?_
      exact hret (-1 : Int32) () H locs _ ls hx_d_Typed_digitAt_90 h V
    · have h := h.2 b
      refine lv_iload_n hx hb hx_d_Typed_digitAt_75 rfl (lv_at hl 0 rfl) ?_
      refine lv_bipush (v := 102) hx hb hx_d_Typed_digitAt_76 (by decide) ?_
      refine lv_icmp_gt (tgt := 89) hx hb hx_d_Typed_digitAt_78 rfl (fun b => ?_) (fun b => ?_)
      · have h := h.1 b
        refine lv_iconst (v := (-1)) hx hb hx_d_Typed_digitAt_89 (by decide) ?_
        exact hret (-1 : Int32) () H locs _ ls hx_d_Typed_digitAt_90 h V
      · have h := h.2 b
        refine lv_iload_n hx hb hx_d_Typed_digitAt_81 rfl (lv_at hl 0 rfl) ?_
        refine lv_bipush (v := 97) hx hb hx_d_Typed_digitAt_82 (by decide) ?_
        refine lv_isub hx hb hx_d_Typed_digitAt_84 ?_
        refine lv_bipush (v := 10) hx hb hx_d_Typed_digitAt_85 (by decide) ?_
        refine lv_iadd hx hb hx_d_Typed_digitAt_87 ?_
        exact hret ((x3 - (97 : Int32)) + (10 : Int32)) () H locs _ ls hx_d_Typed_digitAt_88 h V)
  refine lv_aload_n hx hb hx_d_Typed_digitAt_0 rfl (lv_at hl 0 rfl) ?_
  refine hx_get (v := .int f0_first) F hK V hx_f_Typed_26 0 rfl rfl hx_d_Typed_digitAt_1 ?_
  refine lv_iload_n hx hb hx_d_Typed_digitAt_4 rfl (lv_at hl 1 rfl) ?_
  refine lv_iadd hx hb hx_d_Typed_digitAt_5 ?_
  refine lv_topi (fun z6 e => ?_)
  have h := h z6 e
  refine lv_istore_n (lv' := [(2, .int z6), (0, .ref r0), (1, .int a1)]) hx hb hx_d_Typed_digitAt_6 rfl hl (Nat.le_of_ble_eq_true rfl) rfl (fun ls hl => ?_)
  refine lv_iload_n hx hb hx_d_Typed_digitAt_7 rfl (lv_at hl 0 rfl) ?_
  refine lv_aload_n hx hb hx_d_Typed_digitAt_8 rfl (lv_at hl 1 rfl) ?_
  refine hx_get (v := .int f0_first) F hK V hx_f_Typed_26 0 rfl rfl hx_d_Typed_digitAt_9 ?_
  refine lv_icmp_lt (tgt := 23) hx hb hx_d_Typed_digitAt_12 rfl (fun b => ?_) (fun b => ?_)
  · have h := h.1 b
    refine lv_iconst (v := (-1)) hx hb hx_d_Typed_digitAt_23 (by decide) ?_
    exact hret (-1 : Int32) () H locs _ ls hx_d_Typed_digitAt_24 h V
  · have h := h.2 b
    refine lv_iload_n hx hb hx_d_Typed_digitAt_15 rfl (lv_at hl 0 rfl) ?_
    refine lv_aload_n hx hb hx_d_Typed_digitAt_16 rfl (lv_at hl 1 rfl) ?_
    refine hx_get (v := .int f0_behind) F hK V hx_f_Typed_29 0 rfl rfl hx_d_Typed_digitAt_17 ?_
    refine lv_icmp_lt (tgt := 25) hx hb hx_d_Typed_digitAt_20 rfl (fun b => ?_) (fun b => ?_)
    · have h := h.1 b
      refine lv_aload_n hx hb hx_d_Typed_digitAt_25 rfl (lv_at hl 1 rfl) ?_
      refine hx_get (v := .ref r0_characters) F hK V hx_f_Typed_9 0 rfl rfl hx_d_Typed_digitAt_26 ?_
      refine lv_iload_n hx hb hx_d_Typed_digitAt_29 rfl (lv_at hl 0 rfl) ?_
      refine hx_bald F hK V 1 rfl h.1 hx_d_Typed_digitAt_30 ?_
      have h := h.2
      refine lv_topi (fun z31 e => ?_)
      have h := h z31 e
      refine lv_istore_n (lv' := [(3, .int z31), (2, .int z6), (0, .ref r0), (1, .int a1)]) hx hb hx_d_Typed_digitAt_31 rfl hl (Nat.le_of_ble_eq_true rfl) rfl (fun ls hl => ?_)
      refine lv_iload_n hx hb hx_d_Typed_digitAt_32 rfl (lv_at hl 0 rfl) ?_
      refine lv_bipush (v := 48) hx hb hx_d_Typed_digitAt_33 (by decide) ?_
      refine lv_icmp_lt (tgt := 49) hx hb hx_d_Typed_digitAt_35 rfl (fun b => ?_) (fun b => ?_)
      · have h := h.1 b
        exact h ls H locs (lv_sub hl [0] rfl) V
      · have h := h.2 b
        refine lv_iload_n hx hb hx_d_Typed_digitAt_38 rfl (lv_at hl 0 rfl) ?_
        refine lv_bipush (v := 57) hx hb hx_d_Typed_digitAt_39 (by decide) ?_
        refine lv_icmp_gt (tgt := 49) hx hb hx_d_Typed_digitAt_41 rfl (fun b => ?_) (fun b => ?_)
        · have h := h.1 b
          exact h ls H locs (lv_sub hl [0] rfl) V
        · have h := h.2 b
          refine lv_iload_n hx hb hx_d_Typed_digitAt_44 rfl (lv_at hl 0 rfl) ?_
          refine lv_bipush (v := 48) hx hb hx_d_Typed_digitAt_45 (by decide) ?_
          refine lv_isub hx hb hx_d_Typed_digitAt_47 ?_
          exact hret (z31 - (48 : Int32)) () H locs _ ls hx_d_Typed_digitAt_48 h V
    · have h := h.2 b
      refine lv_iconst (v := (-1)) hx hb hx_d_Typed_digitAt_23 (by decide) ?_
      exact hret (-1 : Int32) () H locs _ ls hx_d_Typed_digitAt_24 h V

def hx_v_Typed_takeBytesFrom (a1 : Int32) (f0_characters : Nat → Int32) (f0_first : Int32) (f0_behind : Int32) (Q : Int32 → Int32 → Prop) : Prop :=
  ∀ P7 : Int32 → Int32 → Prop, 
  (∀ (x2 : Int32) (f0_digitsFrom : Int32), (hx_v_Typed_recordLength f0_first f0_behind (fun c9 => (c9 ≤ x2 → (Q (1 : Int32) f0_digitsFrom)) ∧ ((¬ c9 ≤ x2) → (hx_v_Typed_digitAt x2 f0_characters f0_first f0_behind (fun c17 => ((¬ c17 = (-1 : Int32)) → (P7 (x2 + 1) f0_digitsFrom)) ∧ (c17 = (-1 : Int32) → (Q (0 : Int32) f0_digitsFrom))))))) → P7 x2 f0_digitsFrom) →
  (P7 a1 a1)
set_option maxHeartbeats 4000000 in
set_option maxRecDepth 100000 in
theorem hx_q_Typed_takeBytesFrom (l : Launch) (D : va_G) (kJ kI kB : ClassId) (tC tS : Nat) (sz : Nat) (r0 r0_characters : Nat) (a1 : Int32) (f0_characters : Nat → Int32) (f0_length : Int32) (f0_first : Int32) (f0_behind : Int32) (f0_digitsFrom : Int32) {Q : Int32 → Int32 → Prop} (h : hx_v_Typed_takeBytesFrom a1 f0_characters f0_first f0_behind Q) :
    Met l hx_y_Typed_takeBytesFrom (.code hx_y_Typed_takeBytesFrom hx_c_Typed_takeBytesFrom 3 (some .boolean) :: hx_B) (hx_rm 1 23) (va_Pc [.ref r0, .int a1] (hx_I D kJ kI kB tC tS [(r0, .inr (6, [.ref r0_characters, .int f0_length, .int f0_first, .int f0_behind, .int f0_digitsFrom])), (r0_characters, .inl (kB, 8000, .inl f0_characters))] sz))
      (va_Qi (S := Int32) (fun r (u : Int32) => Q r u) (fun u t => va_P D vwCl ((fun f0_digitsFrom => [(r0, .inr (6, [.ref r0_characters, .int f0_length, .int f0_first, .int f0_behind, .int f0_digitsFrom])), (r0_characters, .inl (kB, 8000, .inl f0_characters))]) u) t.heap ∧ va_D (va_A [(r0, .inr (6, [.ref r0_characters, .int f0_length, .int f0_first, .int f0_behind, .int f0_digitsFrom])), (r0_characters, .inl (kB, 8000, .inl f0_characters))] sz) ((fun f0_digitsFrom => [(r0, .inr (6, [.ref r0_characters, .int f0_length, .int f0_first, .int f0_behind, .int f0_digitsFrom])), (r0_characters, .inl (kB, 8000, .inl f0_characters))]) u)) (va_A [(r0, .inr (6, [.ref r0_characters, .int f0_length, .int f0_first, .int f0_behind, .int f0_digitsFrom])), (r0_characters, .inl (kB, 8000, .inl f0_characters))] sz)) 0 0 (va_A [(r0, .inr (6, [.ref r0_characters, .int f0_length, .int f0_first, .int f0_behind, .int f0_digitsFrom])), (r0_characters, .inl (kB, 8000, .inl f0_characters))] sz) := by
  refine hx_ofWz (S := Int32) (post := fun r (u : Int32) => Q r u) (B := fun f0_digitsFrom => [(r0, .inr (6, [.ref r0_characters, .int f0_length, .int f0_first, .int f0_behind, .int f0_digitsFrom])), (r0_characters, .inl (kB, 8000, .inl f0_characters))]) (by decide) (Nat.le_of_ble_eq_true rfl) ?_
  intro p e s m below meth c ls A Qf H locs F hK hZ hA hret hl V
  have hx := F.1
  have hb := F.2.1
  have hl : lv_has ls 3 [(0, .ref r0), (1, .int a1)] := hl
  unfold hx_v_Typed_takeBytesFrom at h
  have h := h (fun (x2 : Int32) (f0_digitsFrom : Int32) => ∀ (ls : Array Slot) (H : Heap) (locs : List Loc), lv_has ls 3 [(0, .ref r0), (2, .int x2)] → hx_V D A s.heap H locs [(r0, .inr (6, [.ref r0_characters, .int f0_length, .int f0_first, .int f0_behind, .int f0_digitsFrom])), (r0_characters, .inl (kB, 8000, .inl f0_characters))] → W p l e (hx_rm 1 23) s m ([.ref r0, .int a1] : List Value).toArray below meth c H locs 0 0 Qf (F0 m 7 ls []))
  have h := h (by
    intro x2 f0_digitsFrom h ls H locs hl V
    refine lv_iload_n hx hb hx_d_Typed_takeBytesFrom_7 rfl (lv_at hl 1 rfl) ?_
    refine lv_aload_n hx hb hx_d_Typed_takeBytesFrom_8 rfl (lv_at hl 0 rfl) ?_
    have K : hx_Cut [(r0, .inr (6, [.ref r0_characters, .int f0_length, .int f0_first, .int f0_behind, .int f0_digitsFrom])), (r0_characters, .inl (kB, 8000, .inl f0_characters))] [(r0, .inr (6, [.ref r0_characters, .int f0_length, .int f0_first, .int f0_behind, .int f0_digitsFrom])), (r0_characters, .inl (kB, 8000, .inl f0_characters))] [] [0, 1] [] := ⟨rfl, rfl, rfl, rfl, by decide⟩
    refine hx_ci hA V K (hx_rV (As := []) (rest := [.int x2]) F hK hZ hA V K hx_jV_Typed_35 (hx_q_Typed_recordLength l D kJ kI kB tC tS H.size r0 r0_characters f0_characters f0_length f0_first f0_behind f0_digitsFrom h) rfl rfl ⟨Nat.le_of_ble_eq_true rfl, Nat.le_of_ble_eq_true rfl⟩ (q0 := 0) rfl rfl rfl rfl hl.1 rfl (Nat.le_of_ble_eq_true rfl) hx_d_Typed_takeBytesFrom_9 ⟨Nat.le_of_ble_eq_true rfl, Nat.le_of_ble_eq_true rfl⟩) (fun c9 u H locs h V => ?_)
    have V : hx_V D A s.heap H locs [(r0, .inr (6, [.ref r0_characters, .int f0_length, .int f0_first, .int f0_behind, .int f0_digitsFrom])), (r0_characters, .inl (kB, 8000, .inl f0_characters))] := V
    refine lv_icmp_ge (tgt := 32) hx hb hx_d_Typed_takeBytesFrom_12 rfl (fun b => ?_) (fun b => ?_)
    · have h := h.1 b
      refine lv_iconst (v := 1) hx hb hx_d_Typed_takeBytesFrom_32 (by decide) ?_
      exact hret (1 : Int32) f0_digitsFrom H locs _ ls rfl hx_d_Typed_takeBytesFrom_33 h V
    · have h := h.2 b
      refine lv_aload_n hx hb hx_d_Typed_takeBytesFrom_15 rfl (lv_at hl 0 rfl) ?_
      refine lv_iload_n hx hb hx_d_Typed_takeBytesFrom_16 rfl (lv_at hl 1 rfl) ?_
      have K : hx_Cut [(r0, .inr (6, [.ref r0_characters, .int f0_length, .int f0_first, .int f0_behind, .int f0_digitsFrom])), (r0_characters, .inl (kB, 8000, .inl f0_characters))] [(r0, .inr (6, [.ref r0_characters, .int f0_length, .int f0_first, .int f0_behind, .int f0_digitsFrom])), (r0_characters, .inl (kB, 8000, .inl f0_characters))] [] [0, 1] [] := ⟨rfl, rfl, rfl, rfl, by decide⟩
      refine hx_ci hA V K (hx_rV (As := [.int x2]) (rest := []) F hK hZ hA V K hx_jV_Typed_39 (hx_q_Typed_digitAt l D kJ kI kB tC tS H.size r0 r0_characters x2 f0_characters f0_length f0_first f0_behind f0_digitsFrom h) rfl rfl ⟨Nat.le_of_ble_eq_true rfl, Nat.le_of_ble_eq_true rfl⟩ (q0 := 0) rfl rfl rfl rfl hl.1 rfl (Nat.le_of_ble_eq_true rfl) hx_d_Typed_takeBytesFrom_17 ⟨Nat.le_of_ble_eq_true rfl, Nat.le_of_ble_eq_true rfl⟩) (fun c17 u H locs h V => ?_)
      have V : hx_V D A s.heap H locs [(r0, .inr (6, [.ref r0_characters, .int f0_length, .int f0_first, .int f0_behind, .int f0_digitsFrom])), (r0_characters, .inl (kB, 8000, .inl f0_characters))] := V
      refine lv_iconst (v := (-1)) hx hb hx_d_Typed_takeBytesFrom_20 (by decide) ?_
      refine lv_icmp_ne (tgt := 26) hx hb hx_d_Typed_takeBytesFrom_21 rfl (fun b => ?_) (fun b => ?_)
      · have h := h.1 b
        refine lv_iinc (v := x2 + 1) (lv' := [(2, .int (x2 + 1)), (0, .ref r0)]) hx hb hx_d_Typed_takeBytesFrom_26 hl (k := 1) rfl rfl (Nat.le_of_ble_eq_true rfl) rfl (fun ls hl => ?_)
        refine lv_goto (tgt := 7) hx hb hx_d_Typed_takeBytesFrom_29 rfl ?_
        exact h ls H locs (lv_sub hl [1, 0] rfl) V
      · have h := h.2 b
        refine lv_iconst (v := 0) hx hb hx_d_Typed_takeBytesFrom_24 (by decide) ?_
        exact hret (0 : Int32) f0_digitsFrom H locs _ ls rfl hx_d_Typed_takeBytesFrom_25 h V)
  refine lv_aload_n hx hb hx_d_Typed_takeBytesFrom_0 rfl (lv_at hl 0 rfl) ?_
  refine lv_iload_n hx hb hx_d_Typed_takeBytesFrom_1 rfl (lv_at hl 1 rfl) ?_
  refine hx_put (v := .int a1) (ws' := [(r0, .inr (6, [.ref r0_characters, .int f0_length, .int f0_first, .int f0_behind, .int a1])), (r0_characters, .inl (kB, 8000, .inl f0_characters))]) F hK V hx_f_Typed_32 0 rfl rfl rfl (Nat.le_of_ble_eq_true rfl) rfl hx_d_Typed_takeBytesFrom_2 (fun H locs V => ?_)
  refine lv_iload_n hx hb hx_d_Typed_takeBytesFrom_5 rfl (lv_at hl 1 rfl) ?_
  refine lv_istore_n (lv' := [(2, .int a1), (0, .ref r0), (1, .int a1)]) hx hb hx_d_Typed_takeBytesFrom_6 rfl hl (Nat.le_of_ble_eq_true rfl) rfl (fun ls hl => ?_)
  exact h ls H locs (lv_sub hl [1, 0] rfl) V

def hx_v_Typed_bytes (f0_first : Int32) (f0_behind : Int32) (f0_digitsFrom : Int32) (Q : Int32 → Prop) : Prop :=
  
  hx_v_Typed_recordLength f0_first f0_behind (fun c1 => Q ((c1 - f0_digitsFrom) / (2 : Int32)))
set_option maxHeartbeats 4000000 in
set_option maxRecDepth 100000 in
theorem hx_q_Typed_bytes (l : Launch) (D : va_G) (kJ kI kB : ClassId) (tC tS : Nat) (sz : Nat) (r0 r0_characters : Nat) (f0_characters : Nat → Int32) (f0_length : Int32) (f0_first : Int32) (f0_behind : Int32) (f0_digitsFrom : Int32) {Q : Int32 → Prop} (h : hx_v_Typed_bytes f0_first f0_behind f0_digitsFrom Q) :
    Met l hx_y_Typed_bytes (.code hx_y_Typed_bytes hx_c_Typed_bytes 1 (some .int) :: hx_B) (hx_rm 1 20) (va_Pc [.ref r0] (hx_I D kJ kI kB tC tS [(r0, .inr (6, [.ref r0_characters, .int f0_length, .int f0_first, .int f0_behind, .int f0_digitsFrom])), (r0_characters, .inl (kB, 8000, .inl f0_characters))] sz))
      (va_Qi (S := Unit) (fun r _ => Q r) (fun u t => va_P D vwCl ((fun _ => [(r0, .inr (6, [.ref r0_characters, .int f0_length, .int f0_first, .int f0_behind, .int f0_digitsFrom])), (r0_characters, .inl (kB, 8000, .inl f0_characters))]) u) t.heap ∧ va_D (va_A [(r0, .inr (6, [.ref r0_characters, .int f0_length, .int f0_first, .int f0_behind, .int f0_digitsFrom])), (r0_characters, .inl (kB, 8000, .inl f0_characters))] sz) ((fun _ => [(r0, .inr (6, [.ref r0_characters, .int f0_length, .int f0_first, .int f0_behind, .int f0_digitsFrom])), (r0_characters, .inl (kB, 8000, .inl f0_characters))]) u)) (va_A [(r0, .inr (6, [.ref r0_characters, .int f0_length, .int f0_first, .int f0_behind, .int f0_digitsFrom])), (r0_characters, .inl (kB, 8000, .inl f0_characters))] sz)) 0 0 (va_A [(r0, .inr (6, [.ref r0_characters, .int f0_length, .int f0_first, .int f0_behind, .int f0_digitsFrom])), (r0_characters, .inl (kB, 8000, .inl f0_characters))] sz) := by
  refine hx_ofWi (S := Unit) (post := fun r _ => Q r) (B := fun _ => [(r0, .inr (6, [.ref r0_characters, .int f0_length, .int f0_first, .int f0_behind, .int f0_digitsFrom])), (r0_characters, .inl (kB, 8000, .inl f0_characters))]) (by decide) (Nat.le_of_ble_eq_true rfl) ?_
  intro p e s m below meth c ls A Qf H locs F hK hZ hA hret hl V
  have hx := F.1
  have hb := F.2.1
  have hl : lv_has ls 1 [(0, .ref r0)] := hl
  unfold hx_v_Typed_bytes at h
  refine lv_aload_n hx hb hx_d_Typed_bytes_0 rfl (lv_at hl 0 rfl) ?_
  have K : hx_Cut [(r0, .inr (6, [.ref r0_characters, .int f0_length, .int f0_first, .int f0_behind, .int f0_digitsFrom])), (r0_characters, .inl (kB, 8000, .inl f0_characters))] [(r0, .inr (6, [.ref r0_characters, .int f0_length, .int f0_first, .int f0_behind, .int f0_digitsFrom])), (r0_characters, .inl (kB, 8000, .inl f0_characters))] [] [0, 1] [] := ⟨rfl, rfl, rfl, rfl, by decide⟩
  refine hx_ci hA V K (hx_rV (As := []) (rest := []) F hK hZ hA V K hx_jV_Typed_35 (hx_q_Typed_recordLength l D kJ kI kB tC tS H.size r0 r0_characters f0_characters f0_length f0_first f0_behind f0_digitsFrom h) rfl rfl ⟨Nat.le_of_ble_eq_true rfl, Nat.le_of_ble_eq_true rfl⟩ (q0 := 0) rfl rfl rfl rfl hl.1 rfl (Nat.le_of_ble_eq_true rfl) hx_d_Typed_bytes_1 ⟨Nat.le_of_ble_eq_true rfl, Nat.le_of_ble_eq_true rfl⟩) (fun c1 u H locs h V => ?_)
  have V : hx_V D A s.heap H locs [(r0, .inr (6, [.ref r0_characters, .int f0_length, .int f0_first, .int f0_behind, .int f0_digitsFrom])), (r0_characters, .inl (kB, 8000, .inl f0_characters))] := V
  refine lv_aload_n hx hb hx_d_Typed_bytes_4 rfl (lv_at hl 0 rfl) ?_
  refine hx_get (v := .int f0_digitsFrom) F hK V hx_f_Typed_32 0 rfl rfl hx_d_Typed_bytes_5 ?_
  refine lv_isub hx hb hx_d_Typed_bytes_8 ?_
  refine lv_iconst (v := 2) hx hb hx_d_Typed_bytes_9 (by decide) ?_
  refine lv_idiv hx hb hx_d_Typed_bytes_10 (by decide) ?_
  exact hret ((c1 - f0_digitsFrom) / (2 : Int32)) () H locs _ ls hx_d_Typed_bytes_11 h V

def hx_v_Typed_hasHalfByte (f0_first : Int32) (f0_behind : Int32) (f0_digitsFrom : Int32) (Q : Int32 → Prop) : Prop :=
  
  hx_v_Typed_recordLength f0_first f0_behind (fun c1 => (((c1 - f0_digitsFrom) - (c1 - f0_digitsFrom) / (2 : Int32) * (2 : Int32)) = (0 : Int32) → (Q (0 : Int32))) ∧ ((¬ ((c1 - f0_digitsFrom) - (c1 - f0_digitsFrom) / (2 : Int32) * (2 : Int32)) = (0 : Int32)) → (Q (1 : Int32))))
set_option maxHeartbeats 4000000 in
set_option maxRecDepth 100000 in
theorem hx_q_Typed_hasHalfByte (l : Launch) (D : va_G) (kJ kI kB : ClassId) (tC tS : Nat) (sz : Nat) (r0 r0_characters : Nat) (f0_characters : Nat → Int32) (f0_length : Int32) (f0_first : Int32) (f0_behind : Int32) (f0_digitsFrom : Int32) {Q : Int32 → Prop} (h : hx_v_Typed_hasHalfByte f0_first f0_behind f0_digitsFrom Q) :
    Met l hx_y_Typed_hasHalfByte (.code hx_y_Typed_hasHalfByte hx_c_Typed_hasHalfByte 1 (some .boolean) :: hx_B) (hx_rm 1 20) (va_Pc [.ref r0] (hx_I D kJ kI kB tC tS [(r0, .inr (6, [.ref r0_characters, .int f0_length, .int f0_first, .int f0_behind, .int f0_digitsFrom])), (r0_characters, .inl (kB, 8000, .inl f0_characters))] sz))
      (va_Qi (S := Unit) (fun r _ => Q r) (fun u t => va_P D vwCl ((fun _ => [(r0, .inr (6, [.ref r0_characters, .int f0_length, .int f0_first, .int f0_behind, .int f0_digitsFrom])), (r0_characters, .inl (kB, 8000, .inl f0_characters))]) u) t.heap ∧ va_D (va_A [(r0, .inr (6, [.ref r0_characters, .int f0_length, .int f0_first, .int f0_behind, .int f0_digitsFrom])), (r0_characters, .inl (kB, 8000, .inl f0_characters))] sz) ((fun _ => [(r0, .inr (6, [.ref r0_characters, .int f0_length, .int f0_first, .int f0_behind, .int f0_digitsFrom])), (r0_characters, .inl (kB, 8000, .inl f0_characters))]) u)) (va_A [(r0, .inr (6, [.ref r0_characters, .int f0_length, .int f0_first, .int f0_behind, .int f0_digitsFrom])), (r0_characters, .inl (kB, 8000, .inl f0_characters))] sz)) 0 0 (va_A [(r0, .inr (6, [.ref r0_characters, .int f0_length, .int f0_first, .int f0_behind, .int f0_digitsFrom])), (r0_characters, .inl (kB, 8000, .inl f0_characters))] sz) := by
  refine hx_ofWz (S := Unit) (post := fun r _ => Q r) (B := fun _ => [(r0, .inr (6, [.ref r0_characters, .int f0_length, .int f0_first, .int f0_behind, .int f0_digitsFrom])), (r0_characters, .inl (kB, 8000, .inl f0_characters))]) (by decide) (Nat.le_of_ble_eq_true rfl) ?_
  intro p e s m below meth c ls A Qf H locs F hK hZ hA hret hl V
  have hx := F.1
  have hb := F.2.1
  have hl : lv_has ls 1 [(0, .ref r0)] := hl
  unfold hx_v_Typed_hasHalfByte at h
  refine lv_aload_n hx hb hx_d_Typed_hasHalfByte_0 rfl (lv_at hl 0 rfl) ?_
  have K : hx_Cut [(r0, .inr (6, [.ref r0_characters, .int f0_length, .int f0_first, .int f0_behind, .int f0_digitsFrom])), (r0_characters, .inl (kB, 8000, .inl f0_characters))] [(r0, .inr (6, [.ref r0_characters, .int f0_length, .int f0_first, .int f0_behind, .int f0_digitsFrom])), (r0_characters, .inl (kB, 8000, .inl f0_characters))] [] [0, 1] [] := ⟨rfl, rfl, rfl, rfl, by decide⟩
  refine hx_ci hA V K (hx_rV (As := []) (rest := []) F hK hZ hA V K hx_jV_Typed_35 (hx_q_Typed_recordLength l D kJ kI kB tC tS H.size r0 r0_characters f0_characters f0_length f0_first f0_behind f0_digitsFrom h) rfl rfl ⟨Nat.le_of_ble_eq_true rfl, Nat.le_of_ble_eq_true rfl⟩ (q0 := 0) rfl rfl rfl rfl hl.1 rfl (Nat.le_of_ble_eq_true rfl) hx_d_Typed_hasHalfByte_1 ⟨Nat.le_of_ble_eq_true rfl, Nat.le_of_ble_eq_true rfl⟩) (fun c1 u H locs h V => ?_)
  have V : hx_V D A s.heap H locs [(r0, .inr (6, [.ref r0_characters, .int f0_length, .int f0_first, .int f0_behind, .int f0_digitsFrom])), (r0_characters, .inl (kB, 8000, .inl f0_characters))] := V
  refine lv_aload_n hx hb hx_d_Typed_hasHalfByte_4 rfl (lv_at hl 0 rfl) ?_
  refine hx_get (v := .int f0_digitsFrom) F hK V hx_f_Typed_32 0 rfl rfl hx_d_Typed_hasHalfByte_5 ?_
  refine lv_isub hx hb hx_d_Typed_hasHalfByte_8 ?_
  refine lv_iconst (v := 2) hx hb hx_d_Typed_hasHalfByte_9 (by decide) ?_
  refine lv_irem hx hb hx_d_Typed_hasHalfByte_10 (by decide) ?_
  refine lv_if_eq (tgt := 18) hx hb hx_d_Typed_hasHalfByte_11 rfl (fun b => ?_) (fun b => ?_)
  · have h := h.1 b
    refine lv_iconst (v := 0) hx hb hx_d_Typed_hasHalfByte_18 (by decide) ?_
    exact hret (0 : Int32) () H locs _ ls rfl hx_d_Typed_hasHalfByte_19 h V
  · have h := h.2 b
    refine lv_iconst (v := 1) hx hb hx_d_Typed_hasHalfByte_14 (by decide) ?_
    refine lv_goto (tgt := 19) hx hb hx_d_Typed_hasHalfByte_15 rfl ?_
    exact hret (1 : Int32) () H locs _ ls rfl hx_d_Typed_hasHalfByte_19 h V

def hx_v_Typed_byteAt (a1 : Int32) (f0_characters : Nat → Int32) (f0_first : Int32) (f0_behind : Int32) (f0_digitsFrom : Int32) (Q : Int32 → Prop) : Prop :=
  
  ∀ z8 : Int32, z8 = f0_digitsFrom + ((2 : Int32) * a1) → hx_v_Typed_digitAt z8 f0_characters f0_first f0_behind (fun c11 => hx_v_Typed_digitAt (z8 + (1 : Int32)) f0_characters f0_first f0_behind (fun c20 => Q (((c11 <<< ((4 : Int32) &&& 31)) ||| c20) &&& (255 : Int32))))
set_option maxHeartbeats 4000000 in
set_option maxRecDepth 100000 in
theorem hx_q_Typed_byteAt (l : Launch) (D : va_G) (kJ kI kB : ClassId) (tC tS : Nat) (sz : Nat) (r0 r0_characters : Nat) (a1 : Int32) (f0_characters : Nat → Int32) (f0_length : Int32) (f0_first : Int32) (f0_behind : Int32) (f0_digitsFrom : Int32) {Q : Int32 → Prop} (h : hx_v_Typed_byteAt a1 f0_characters f0_first f0_behind f0_digitsFrom Q) :
    Met l hx_y_Typed_byteAt (.code hx_y_Typed_byteAt hx_c_Typed_byteAt 3 (some .int) :: hx_B) (hx_rm 1 23) (va_Pc [.ref r0, .int a1] (hx_I D kJ kI kB tC tS [(r0, .inr (6, [.ref r0_characters, .int f0_length, .int f0_first, .int f0_behind, .int f0_digitsFrom])), (r0_characters, .inl (kB, 8000, .inl f0_characters))] sz))
      (va_Qi (S := Unit) (fun r _ => Q r) (fun u t => va_P D vwCl ((fun _ => [(r0, .inr (6, [.ref r0_characters, .int f0_length, .int f0_first, .int f0_behind, .int f0_digitsFrom])), (r0_characters, .inl (kB, 8000, .inl f0_characters))]) u) t.heap ∧ va_D (va_A [(r0, .inr (6, [.ref r0_characters, .int f0_length, .int f0_first, .int f0_behind, .int f0_digitsFrom])), (r0_characters, .inl (kB, 8000, .inl f0_characters))] sz) ((fun _ => [(r0, .inr (6, [.ref r0_characters, .int f0_length, .int f0_first, .int f0_behind, .int f0_digitsFrom])), (r0_characters, .inl (kB, 8000, .inl f0_characters))]) u)) (va_A [(r0, .inr (6, [.ref r0_characters, .int f0_length, .int f0_first, .int f0_behind, .int f0_digitsFrom])), (r0_characters, .inl (kB, 8000, .inl f0_characters))] sz)) 0 0 (va_A [(r0, .inr (6, [.ref r0_characters, .int f0_length, .int f0_first, .int f0_behind, .int f0_digitsFrom])), (r0_characters, .inl (kB, 8000, .inl f0_characters))] sz) := by
  refine hx_ofWi (S := Unit) (post := fun r _ => Q r) (B := fun _ => [(r0, .inr (6, [.ref r0_characters, .int f0_length, .int f0_first, .int f0_behind, .int f0_digitsFrom])), (r0_characters, .inl (kB, 8000, .inl f0_characters))]) (by decide) (Nat.le_of_ble_eq_true rfl) ?_
  intro p e s m below meth c ls A Qf H locs F hK hZ hA hret hl V
  have hx := F.1
  have hb := F.2.1
  have hl : lv_has ls 3 [(0, .ref r0), (1, .int a1)] := hl
  unfold hx_v_Typed_byteAt at h
  refine lv_aload_n hx hb hx_d_Typed_byteAt_0 rfl (lv_at hl 0 rfl) ?_
  refine hx_get (v := .int f0_digitsFrom) F hK V hx_f_Typed_32 0 rfl rfl hx_d_Typed_byteAt_1 ?_
  refine lv_iconst (v := 2) hx hb hx_d_Typed_byteAt_4 (by decide) ?_
  refine lv_iload_n hx hb hx_d_Typed_byteAt_5 rfl (lv_at hl 1 rfl) ?_
  refine lv_imul hx hb hx_d_Typed_byteAt_6 ?_
  refine lv_iadd hx hb hx_d_Typed_byteAt_7 ?_
  refine lv_topi (fun z8 e => ?_)
  have h := h z8 e
  refine lv_istore_n (lv' := [(2, .int z8), (0, .ref r0), (1, .int a1)]) hx hb hx_d_Typed_byteAt_8 rfl hl (Nat.le_of_ble_eq_true rfl) rfl (fun ls hl => ?_)
  refine lv_aload_n hx hb hx_d_Typed_byteAt_9 rfl (lv_at hl 1 rfl) ?_
  refine lv_iload_n hx hb hx_d_Typed_byteAt_10 rfl (lv_at hl 0 rfl) ?_
  have K : hx_Cut [(r0, .inr (6, [.ref r0_characters, .int f0_length, .int f0_first, .int f0_behind, .int f0_digitsFrom])), (r0_characters, .inl (kB, 8000, .inl f0_characters))] [(r0, .inr (6, [.ref r0_characters, .int f0_length, .int f0_first, .int f0_behind, .int f0_digitsFrom])), (r0_characters, .inl (kB, 8000, .inl f0_characters))] [] [0, 1] [] := ⟨rfl, rfl, rfl, rfl, by decide⟩
  refine hx_ci hA V K (hx_rV (As := [.int z8]) (rest := []) F hK hZ hA V K hx_jV_Typed_39 (hx_q_Typed_digitAt l D kJ kI kB tC tS H.size r0 r0_characters z8 f0_characters f0_length f0_first f0_behind f0_digitsFrom h) rfl rfl ⟨Nat.le_of_ble_eq_true rfl, Nat.le_of_ble_eq_true rfl⟩ (q0 := 0) rfl rfl rfl rfl hl.1 rfl (Nat.le_of_ble_eq_true rfl) hx_d_Typed_byteAt_11 ⟨Nat.le_of_ble_eq_true rfl, Nat.le_of_ble_eq_true rfl⟩) (fun c11 u H locs h V => ?_)
  have V : hx_V D A s.heap H locs [(r0, .inr (6, [.ref r0_characters, .int f0_length, .int f0_first, .int f0_behind, .int f0_digitsFrom])), (r0_characters, .inl (kB, 8000, .inl f0_characters))] := V
  refine lv_iconst (v := 4) hx hb hx_d_Typed_byteAt_14 (by decide) ?_
  refine lv_ishl hx hb hx_d_Typed_byteAt_15 ?_
  refine lv_aload_n hx hb hx_d_Typed_byteAt_16 rfl (lv_at hl 1 rfl) ?_
  refine lv_iload_n hx hb hx_d_Typed_byteAt_17 rfl (lv_at hl 0 rfl) ?_
  refine lv_iconst (v := 1) hx hb hx_d_Typed_byteAt_18 (by decide) ?_
  refine lv_iadd hx hb hx_d_Typed_byteAt_19 ?_
  have K : hx_Cut [(r0, .inr (6, [.ref r0_characters, .int f0_length, .int f0_first, .int f0_behind, .int f0_digitsFrom])), (r0_characters, .inl (kB, 8000, .inl f0_characters))] [(r0, .inr (6, [.ref r0_characters, .int f0_length, .int f0_first, .int f0_behind, .int f0_digitsFrom])), (r0_characters, .inl (kB, 8000, .inl f0_characters))] [] [0, 1] [] := ⟨rfl, rfl, rfl, rfl, by decide⟩
  refine hx_ci hA V K (hx_rV (As := [.int (z8 + (1 : Int32))]) (rest := [.int (c11 <<< ((4 : Int32) &&& 31))]) F hK hZ hA V K hx_jV_Typed_39 (hx_q_Typed_digitAt l D kJ kI kB tC tS H.size r0 r0_characters (z8 + (1 : Int32)) f0_characters f0_length f0_first f0_behind f0_digitsFrom h) rfl rfl ⟨Nat.le_of_ble_eq_true rfl, Nat.le_of_ble_eq_true rfl⟩ (q0 := 0) rfl rfl rfl rfl hl.1 rfl (Nat.le_of_ble_eq_true rfl) hx_d_Typed_byteAt_20 ⟨Nat.le_of_ble_eq_true rfl, Nat.le_of_ble_eq_true rfl⟩) (fun c20 u H locs h V => ?_)
  have V : hx_V D A s.heap H locs [(r0, .inr (6, [.ref r0_characters, .int f0_length, .int f0_first, .int f0_behind, .int f0_digitsFrom])), (r0_characters, .inl (kB, 8000, .inl f0_characters))] := V
  refine lv_ior hx hb hx_d_Typed_byteAt_23 ?_
  refine lv_sipush (v := 255) hx hb hx_d_Typed_byteAt_24 (by decide) ?_
  refine lv_iand hx hb hx_d_Typed_byteAt_27 ?_
  exact hret (((c11 <<< ((4 : Int32) &&& 31)) ||| c20) &&& (255 : Int32)) () H locs _ ls hx_d_Typed_byteAt_28 h V

def hx_v_SRead_addressBytes (a1 : Int32) (Q : Int32 → Prop) : Prop :=
  
  (a1 < (0 : Int32) → (Q (2 : Int32))) ∧ ((¬ a1 < (0 : Int32)) → (((10 : Int32) ≤ a1 → (Q (2 : Int32))) ∧ ((¬ (10 : Int32) ≤ a1) → (vp_in a1 10 ∧ Q (hx_iS a1.toNatClampNeg)))))
set_option maxHeartbeats 4000000 in
set_option maxRecDepth 100000 in
theorem hx_q_SRead_addressBytes (l : Launch) (D : va_G) (kJ kI kB : ClassId) (tC tS : Nat) (sz : Nat) (a1 : Int32) {Q : Int32 → Prop} (h : hx_v_SRead_addressBytes a1 Q) :
    Met l hx_y_SRead_addressBytes (.code hx_y_SRead_addressBytes hx_c_SRead_addressBytes 1 (some .int) :: hx_B) (hx_rm 0 0) (va_Pc [.int a1] (hx_I D kJ kI kB tC tS [] sz))
      (va_Qi (S := Unit) (fun r _ => Q r) (fun u t => va_P D vwCl ((fun _ => []) u) t.heap ∧ va_D (va_A [] sz) ((fun _ => []) u)) (va_A [] sz)) 0 0 (va_A [] sz) := by
  refine hx_ofWi (S := Unit) (post := fun r _ => Q r) (B := fun _ => []) (by decide) (Nat.le_of_ble_eq_true rfl) ?_
  intro p e s m below meth c ls A Qf H locs F hK hZ hA hret hl V
  have hx := F.1
  have hb := F.2.1
  have hl : lv_has ls 1 [(0, .int a1)] := hl
  unfold hx_v_SRead_addressBytes at h
  refine lv_iload_n hx hb hx_d_SRead_addressBytes_0 rfl (lv_at hl 0 rfl) ?_
  refine lv_if_lt (tgt := 20) hx hb hx_d_SRead_addressBytes_1 rfl (fun b => ?_) (fun b => ?_)
  · have h := h.1 b
    refine lv_iconst (v := 2) hx hb hx_d_SRead_addressBytes_20 (by decide) ?_
    exact hret (2 : Int32) () H locs _ ls hx_d_SRead_addressBytes_21 h V
  · have h := h.2 b
    refine lv_iload_n hx hb hx_d_SRead_addressBytes_4 rfl (lv_at hl 0 rfl) ?_
    refine va_gets hx hb hZ.2.1.1 V.2.2 F.2.2.2.1 (F.2.2.2.2 _ hx_m_347) (fun _ h => h) hx_d_SRead_addressBytes_5 ?_
    refine va_tlen (v := 10) hx hb hZ.2.1.2 V.2.2 rfl hx_d_SRead_addressBytes_8 ?_
    refine lv_icmp_ge (tgt := 20) hx hb hx_d_SRead_addressBytes_9 rfl (fun b => ?_) (fun b => ?_)
    · have h := h.1 b
      refine lv_iconst (v := 2) hx hb hx_d_SRead_addressBytes_20 (by decide) ?_
      exact hret (2 : Int32) () H locs _ ls hx_d_SRead_addressBytes_21 h V
    · have h := h.2 b
      refine va_gets hx hb hZ.2.1.1 V.2.2 F.2.2.2.1 (F.2.2.2.2 _ hx_m_347) (fun _ h => h) hx_d_SRead_addressBytes_12 ?_
      refine lv_iload_n hx hb hx_d_SRead_addressBytes_15 rfl (lv_at hl 0 rfl) ?_
      refine va_ti (v := .int (hx_iS a1.toNatClampNeg)) hx hb hZ.2.1.2 V.2.2 h.1 rfl hx_d_SRead_addressBytes_16 ?_
      have h := h.2
      refine lv_goto (tgt := 21) hx hb hx_d_SRead_addressBytes_17 rfl ?_
      exact hret (hx_iS a1.toNatClampNeg) () H locs _ ls hx_d_SRead_addressBytes_21 h V

def hx_v_SRead_dataBytes (f1_characters : Nat → Int32) (f1_first : Int32) (f1_behind : Int32) (f1_digitsFrom : Int32) (Q : Int32 → Prop) : Prop :=
  
  hx_v_Typed_bytes f1_first f1_behind f1_digitsFrom (fun c1 => hx_v_Typed_digitAt (1 : Int32) f1_characters f1_first f1_behind (fun c8 => hx_v_SRead_addressBytes c8 (fun c11 => Q (((c1 - (1 : Int32)) - c11) - (1 : Int32)))))
set_option maxHeartbeats 4000000 in
set_option maxRecDepth 100000 in
theorem hx_q_SRead_dataBytes (l : Launch) (D : va_G) (kJ kI kB : ClassId) (tC tS : Nat) (sz : Nat) (r1 r1_characters : Nat) (f1_characters : Nat → Int32) (f1_length : Int32) (f1_first : Int32) (f1_behind : Int32) (f1_digitsFrom : Int32) {Q : Int32 → Prop} (h : hx_v_SRead_dataBytes f1_characters f1_first f1_behind f1_digitsFrom Q) :
    Met l hx_y_SRead_dataBytes (.code hx_y_SRead_dataBytes hx_c_SRead_dataBytes 1 (some .int) :: hx_B) (hx_rm 2 40) (va_Pc [.ref r1] (hx_I D kJ kI kB tC tS [(r1, .inr (6, [.ref r1_characters, .int f1_length, .int f1_first, .int f1_behind, .int f1_digitsFrom])), (r1_characters, .inl (kB, 8000, .inl f1_characters))] sz))
      (va_Qi (S := Unit) (fun r _ => Q r) (fun u t => va_P D vwCl ((fun _ => [(r1, .inr (6, [.ref r1_characters, .int f1_length, .int f1_first, .int f1_behind, .int f1_digitsFrom])), (r1_characters, .inl (kB, 8000, .inl f1_characters))]) u) t.heap ∧ va_D (va_A [(r1, .inr (6, [.ref r1_characters, .int f1_length, .int f1_first, .int f1_behind, .int f1_digitsFrom])), (r1_characters, .inl (kB, 8000, .inl f1_characters))] sz) ((fun _ => [(r1, .inr (6, [.ref r1_characters, .int f1_length, .int f1_first, .int f1_behind, .int f1_digitsFrom])), (r1_characters, .inl (kB, 8000, .inl f1_characters))]) u)) (va_A [(r1, .inr (6, [.ref r1_characters, .int f1_length, .int f1_first, .int f1_behind, .int f1_digitsFrom])), (r1_characters, .inl (kB, 8000, .inl f1_characters))] sz)) 0 0 (va_A [(r1, .inr (6, [.ref r1_characters, .int f1_length, .int f1_first, .int f1_behind, .int f1_digitsFrom])), (r1_characters, .inl (kB, 8000, .inl f1_characters))] sz) := by
  refine hx_ofWi (S := Unit) (post := fun r _ => Q r) (B := fun _ => [(r1, .inr (6, [.ref r1_characters, .int f1_length, .int f1_first, .int f1_behind, .int f1_digitsFrom])), (r1_characters, .inl (kB, 8000, .inl f1_characters))]) (by decide) (Nat.le_of_ble_eq_true rfl) ?_
  intro p e s m below meth c ls A Qf H locs F hK hZ hA hret hl V
  have hx := F.1
  have hb := F.2.1
  have hl : lv_has ls 1 [(0, .ref r1)] := hl
  unfold hx_v_SRead_dataBytes at h
  refine lv_aload_n hx hb hx_d_SRead_dataBytes_0 rfl (lv_at hl 0 rfl) ?_
  have K : hx_Cut [(r1, .inr (6, [.ref r1_characters, .int f1_length, .int f1_first, .int f1_behind, .int f1_digitsFrom])), (r1_characters, .inl (kB, 8000, .inl f1_characters))] [(r1, .inr (6, [.ref r1_characters, .int f1_length, .int f1_first, .int f1_behind, .int f1_digitsFrom])), (r1_characters, .inl (kB, 8000, .inl f1_characters))] [] [0, 1] [] := ⟨rfl, rfl, rfl, rfl, by decide⟩
  refine hx_ci hA V K (hx_rV (As := []) (rest := []) F hK hZ hA V K hx_jV_SRead_61 (hx_q_Typed_bytes l D kJ kI kB tC tS H.size r1 r1_characters f1_characters f1_length f1_first f1_behind f1_digitsFrom h) rfl rfl ⟨Nat.le_of_ble_eq_true rfl, Nat.le_of_ble_eq_true rfl⟩ (q0 := 0) rfl rfl rfl rfl hl.1 rfl (Nat.le_of_ble_eq_true rfl) hx_d_SRead_dataBytes_1 ⟨Nat.le_of_ble_eq_true rfl, Nat.le_of_ble_eq_true rfl⟩) (fun c1 u H locs h V => ?_)
  have V : hx_V D A s.heap H locs [(r1, .inr (6, [.ref r1_characters, .int f1_length, .int f1_first, .int f1_behind, .int f1_digitsFrom])), (r1_characters, .inl (kB, 8000, .inl f1_characters))] := V
  refine lv_iconst (v := 1) hx hb hx_d_SRead_dataBytes_4 (by decide) ?_
  refine lv_isub hx hb hx_d_SRead_dataBytes_5 ?_
  refine lv_aload_n hx hb hx_d_SRead_dataBytes_6 rfl (lv_at hl 0 rfl) ?_
  refine lv_iconst (v := 1) hx hb hx_d_SRead_dataBytes_7 (by decide) ?_
  have K : hx_Cut [(r1, .inr (6, [.ref r1_characters, .int f1_length, .int f1_first, .int f1_behind, .int f1_digitsFrom])), (r1_characters, .inl (kB, 8000, .inl f1_characters))] [(r1, .inr (6, [.ref r1_characters, .int f1_length, .int f1_first, .int f1_behind, .int f1_digitsFrom])), (r1_characters, .inl (kB, 8000, .inl f1_characters))] [] [0, 1] [] := ⟨rfl, rfl, rfl, rfl, by decide⟩
  refine hx_ci hA V K (hx_rV (As := [.int 1]) (rest := [.int (c1 - (1 : Int32))]) F hK hZ hA V K hx_jV_SRead_25 (hx_q_Typed_digitAt l D kJ kI kB tC tS H.size r1 r1_characters (1 : Int32) f1_characters f1_length f1_first f1_behind f1_digitsFrom h) rfl rfl ⟨Nat.le_of_ble_eq_true rfl, Nat.le_of_ble_eq_true rfl⟩ (q0 := 0) rfl rfl rfl rfl hl.1 rfl (Nat.le_of_ble_eq_true rfl) hx_d_SRead_dataBytes_8 ⟨Nat.le_of_ble_eq_true rfl, Nat.le_of_ble_eq_true rfl⟩) (fun c8 u H locs h V => ?_)
  have V : hx_V D A s.heap H locs [(r1, .inr (6, [.ref r1_characters, .int f1_length, .int f1_first, .int f1_behind, .int f1_digitsFrom])), (r1_characters, .inl (kB, 8000, .inl f1_characters))] := V
  have K : hx_Cut [(r1, .inr (6, [.ref r1_characters, .int f1_length, .int f1_first, .int f1_behind, .int f1_digitsFrom])), (r1_characters, .inl (kB, 8000, .inl f1_characters))] [] [(r1, .inr (6, [.ref r1_characters, .int f1_length, .int f1_first, .int f1_behind, .int f1_digitsFrom])), (r1_characters, .inl (kB, 8000, .inl f1_characters))] [] [0, 1] := ⟨rfl, rfl, rfl, rfl, by decide⟩
  refine hx_ci hA V K (hx_rS (As := [.int c8]) (rest := [.int (c1 - (1 : Int32))]) F hK hZ hA V K hx_jS_SRead_31 (hx_q_SRead_addressBytes l D kJ kI kB tC tS H.size c8 h) rfl rfl ⟨Nat.le_of_ble_eq_true rfl, Nat.le_of_ble_eq_true rfl⟩ rfl hl.1 rfl (Nat.le_of_ble_eq_true rfl) hx_d_SRead_dataBytes_11 ⟨Nat.le_of_ble_eq_true rfl, Nat.le_of_ble_eq_true rfl⟩) (fun c11 u H locs h V => ?_)
  have V : hx_V D A s.heap H locs [(r1, .inr (6, [.ref r1_characters, .int f1_length, .int f1_first, .int f1_behind, .int f1_digitsFrom])), (r1_characters, .inl (kB, 8000, .inl f1_characters))] := V
  refine lv_isub hx hb hx_d_SRead_dataBytes_14 ?_
  refine lv_iconst (v := 1) hx hb hx_d_SRead_dataBytes_15 (by decide) ?_
  refine lv_isub hx hb hx_d_SRead_dataBytes_16 ?_
  exact hret (((c1 - (1 : Int32)) - c11) - (1 : Int32)) () H locs _ ls hx_d_SRead_dataBytes_17 h V

def hx_v_SRead_typeHas (a1 : Int32) (a2 : Int32) (Q : Int32 → Prop) : Prop :=
  
  (a1 = (4 : Int32) → (Q (0 : Int32))) ∧ ((¬ a1 = (4 : Int32)) → (((¬ a1 = (6 : Int32)) → ((a1 < (5 : Int32) → (Q (1 : Int32))) ∧ ((¬ a1 < (5 : Int32)) → (((¬ a2 = (0 : Int32)) → (Q (0 : Int32))) ∧ (a2 = (0 : Int32) → (Q (1 : Int32))))))) ∧ (a1 = (6 : Int32) → (Q (0 : Int32)))))
set_option maxHeartbeats 4000000 in
set_option maxRecDepth 100000 in
theorem hx_q_SRead_typeHas (l : Launch) (D : va_G) (kJ kI kB : ClassId) (tC tS : Nat) (sz : Nat) (a1 : Int32) (a2 : Int32) {Q : Int32 → Prop} (h : hx_v_SRead_typeHas a1 a2 Q) :
    Met l hx_y_SRead_typeHas (.code hx_y_SRead_typeHas hx_c_SRead_typeHas 2 (some .boolean) :: hx_B) (hx_rm 0 0) (va_Pc [.int a1, .int a2] (hx_I D kJ kI kB tC tS [] sz))
      (va_Qi (S := Unit) (fun r _ => Q r) (fun u t => va_P D vwCl ((fun _ => []) u) t.heap ∧ va_D (va_A [] sz) ((fun _ => []) u)) (va_A [] sz)) 0 0 (va_A [] sz) := by
  refine hx_ofWz (S := Unit) (post := fun r _ => Q r) (B := fun _ => []) (by decide) (Nat.le_of_ble_eq_true rfl) ?_
  intro p e s m below meth c ls A Qf H locs F hK hZ hA hret hl V
  have hx := F.1
  have hb := F.2.1
  have hl : lv_has ls 2 [(0, .int a1), (1, .int a2)] := hl
  unfold hx_v_SRead_typeHas at h
  refine lv_iload_n hx hb hx_d_SRead_typeHas_0 rfl (lv_at hl 0 rfl) ?_
  refine lv_iconst (v := 4) hx hb hx_d_SRead_typeHas_1 (by decide) ?_
  refine lv_icmp_eq (tgt := 11) hx hb hx_d_SRead_typeHas_2 rfl (fun b => ?_) (fun b => ?_)
  · have h := h.1 b
    refine lv_iconst (v := 0) hx hb hx_d_SRead_typeHas_11 (by decide) ?_
    exact hret (0 : Int32) () H locs _ ls rfl hx_d_SRead_typeHas_12 h V
  · have h := h.2 b
    refine lv_iload_n hx hb hx_d_SRead_typeHas_5 rfl (lv_at hl 0 rfl) ?_
    refine lv_bipush (v := 6) hx hb hx_d_SRead_typeHas_6 (by decide) ?_
    refine lv_icmp_ne (tgt := 13) hx hb hx_d_SRead_typeHas_8 rfl (fun b => ?_) (fun b => ?_)
    · have h := h.1 b
      refine lv_iload_n hx hb hx_d_SRead_typeHas_13 rfl (lv_at hl 0 rfl) ?_
      refine lv_iconst (v := 5) hx hb hx_d_SRead_typeHas_14 (by decide) ?_
      refine lv_icmp_lt (tgt := 22) hx hb hx_d_SRead_typeHas_15 rfl (fun b => ?_) (fun b => ?_)
      · have h := h.1 b
        refine lv_iconst (v := 1) hx hb hx_d_SRead_typeHas_22 (by decide) ?_
        refine lv_goto (tgt := 27) hx hb hx_d_SRead_typeHas_23 rfl ?_
        exact hret (1 : Int32) () H locs _ ls rfl hx_d_SRead_typeHas_27 h V
      · have h := h.2 b
        refine lv_iload_n hx hb hx_d_SRead_typeHas_18 rfl (lv_at hl 1 rfl) ?_
        refine lv_if_ne (tgt := 26) hx hb hx_d_SRead_typeHas_19 rfl (fun b => ?_) (fun b => ?_)
        · have h := h.1 b
          refine lv_iconst (v := 0) hx hb hx_d_SRead_typeHas_26 (by decide) ?_
          exact hret (0 : Int32) () H locs _ ls rfl hx_d_SRead_typeHas_27 h V
        · have h := h.2 b
          refine lv_iconst (v := 1) hx hb hx_d_SRead_typeHas_22 (by decide) ?_
          refine lv_goto (tgt := 27) hx hb hx_d_SRead_typeHas_23 rfl ?_
          exact hret (1 : Int32) () H locs _ ls rfl hx_d_SRead_typeHas_27 h V
    · have h := h.2 b
      refine lv_iconst (v := 0) hx hb hx_d_SRead_typeHas_11 (by decide) ?_
      exact hret (0 : Int32) () H locs _ ls rfl hx_d_SRead_typeHas_12 h V

def hx_v_Typed_sumOfBytes (f0_characters : Nat → Int32) (f0_first : Int32) (f0_behind : Int32) (f0_digitsFrom : Int32) (Q : Int32 → Prop) : Prop :=
  ∀ P4 : Int32 → Int32 → Prop, 
  (∀ (x1 : Int32) (x2 : Int32), (hx_v_Typed_bytes f0_first f0_behind f0_digitsFrom (fun c6 => (c6 ≤ x2 → (Q (x1 &&& (255 : Int32)))) ∧ ((¬ c6 ≤ x2) → (hx_v_Typed_byteAt x2 f0_characters f0_first f0_behind f0_digitsFrom (fun c15 => ∀ z19 : Int32, z19 = x1 + c15 → P4 z19 (x2 + 1)))))) → P4 x1 x2) →
  (P4 (0 : Int32) (0 : Int32))
set_option maxHeartbeats 4000000 in
set_option maxRecDepth 100000 in
theorem hx_q_Typed_sumOfBytes (l : Launch) (D : va_G) (kJ kI kB : ClassId) (tC tS : Nat) (sz : Nat) (r0 r0_characters : Nat) (f0_characters : Nat → Int32) (f0_length : Int32) (f0_first : Int32) (f0_behind : Int32) (f0_digitsFrom : Int32) {Q : Int32 → Prop} (h : hx_v_Typed_sumOfBytes f0_characters f0_first f0_behind f0_digitsFrom Q) :
    Met l hx_y_Typed_sumOfBytes (.code hx_y_Typed_sumOfBytes hx_c_Typed_sumOfBytes 3 (some .int) :: hx_B) (hx_rm 2 45) (va_Pc [.ref r0] (hx_I D kJ kI kB tC tS [(r0, .inr (6, [.ref r0_characters, .int f0_length, .int f0_first, .int f0_behind, .int f0_digitsFrom])), (r0_characters, .inl (kB, 8000, .inl f0_characters))] sz))
      (va_Qi (S := Unit) (fun r _ => Q r) (fun u t => va_P D vwCl ((fun _ => [(r0, .inr (6, [.ref r0_characters, .int f0_length, .int f0_first, .int f0_behind, .int f0_digitsFrom])), (r0_characters, .inl (kB, 8000, .inl f0_characters))]) u) t.heap ∧ va_D (va_A [(r0, .inr (6, [.ref r0_characters, .int f0_length, .int f0_first, .int f0_behind, .int f0_digitsFrom])), (r0_characters, .inl (kB, 8000, .inl f0_characters))] sz) ((fun _ => [(r0, .inr (6, [.ref r0_characters, .int f0_length, .int f0_first, .int f0_behind, .int f0_digitsFrom])), (r0_characters, .inl (kB, 8000, .inl f0_characters))]) u)) (va_A [(r0, .inr (6, [.ref r0_characters, .int f0_length, .int f0_first, .int f0_behind, .int f0_digitsFrom])), (r0_characters, .inl (kB, 8000, .inl f0_characters))] sz)) 0 0 (va_A [(r0, .inr (6, [.ref r0_characters, .int f0_length, .int f0_first, .int f0_behind, .int f0_digitsFrom])), (r0_characters, .inl (kB, 8000, .inl f0_characters))] sz) := by
  refine hx_ofWi (S := Unit) (post := fun r _ => Q r) (B := fun _ => [(r0, .inr (6, [.ref r0_characters, .int f0_length, .int f0_first, .int f0_behind, .int f0_digitsFrom])), (r0_characters, .inl (kB, 8000, .inl f0_characters))]) (by decide) (Nat.le_of_ble_eq_true rfl) ?_
  intro p e s m below meth c ls A Qf H locs F hK hZ hA hret hl V
  have hx := F.1
  have hb := F.2.1
  have hl : lv_has ls 3 [(0, .ref r0)] := hl
  unfold hx_v_Typed_sumOfBytes at h
  have h := h (fun (x1 : Int32) (x2 : Int32) => ∀ (ls : Array Slot) (H : Heap) (locs : List Loc), lv_has ls 3 [(0, .ref r0), (1, .int x1), (2, .int x2)] → hx_V D A s.heap H locs [(r0, .inr (6, [.ref r0_characters, .int f0_length, .int f0_first, .int f0_behind, .int f0_digitsFrom])), (r0_characters, .inl (kB, 8000, .inl f0_characters))] → W p l e (hx_rm 2 45) s m ([.ref r0] : List Value).toArray below meth c H locs 0 0 Qf (F0 m 4 ls []))
  have h := h (by
    intro x1 x2 h ls H locs hl V
    refine lv_iload_n hx hb hx_d_Typed_sumOfBytes_4 rfl (lv_at hl 2 rfl) ?_
    refine lv_aload_n hx hb hx_d_Typed_sumOfBytes_5 rfl (lv_at hl 0 rfl) ?_
    have K : hx_Cut [(r0, .inr (6, [.ref r0_characters, .int f0_length, .int f0_first, .int f0_behind, .int f0_digitsFrom])), (r0_characters, .inl (kB, 8000, .inl f0_characters))] [(r0, .inr (6, [.ref r0_characters, .int f0_length, .int f0_first, .int f0_behind, .int f0_digitsFrom])), (r0_characters, .inl (kB, 8000, .inl f0_characters))] [] [0, 1] [] := ⟨rfl, rfl, rfl, rfl, by decide⟩
    refine hx_ci hA V K (hx_rV (As := []) (rest := [.int x2]) F hK hZ hA V K hx_jV_Typed_46 (hx_q_Typed_bytes l D kJ kI kB tC tS H.size r0 r0_characters f0_characters f0_length f0_first f0_behind f0_digitsFrom h) rfl rfl ⟨Nat.le_of_ble_eq_true rfl, Nat.le_of_ble_eq_true rfl⟩ (q0 := 0) rfl rfl rfl rfl hl.1 rfl (Nat.le_of_ble_eq_true rfl) hx_d_Typed_sumOfBytes_6 ⟨Nat.le_of_ble_eq_true rfl, Nat.le_of_ble_eq_true rfl⟩) (fun c6 u H locs h V => ?_)
    have V : hx_V D A s.heap H locs [(r0, .inr (6, [.ref r0_characters, .int f0_length, .int f0_first, .int f0_behind, .int f0_digitsFrom])), (r0_characters, .inl (kB, 8000, .inl f0_characters))] := V
    refine lv_icmp_ge (tgt := 26) hx hb hx_d_Typed_sumOfBytes_9 rfl (fun b => ?_) (fun b => ?_)
    · have h := h.1 b
      refine lv_iload_n hx hb hx_d_Typed_sumOfBytes_26 rfl (lv_at hl 1 rfl) ?_
      refine lv_sipush (v := 255) hx hb hx_d_Typed_sumOfBytes_27 (by decide) ?_
      refine lv_iand hx hb hx_d_Typed_sumOfBytes_30 ?_
      exact hret (x1 &&& (255 : Int32)) () H locs _ ls hx_d_Typed_sumOfBytes_31 h V
    · have h := h.2 b
      refine lv_iload_n hx hb hx_d_Typed_sumOfBytes_12 rfl (lv_at hl 1 rfl) ?_
      refine lv_aload_n hx hb hx_d_Typed_sumOfBytes_13 rfl (lv_at hl 0 rfl) ?_
      refine lv_iload_n hx hb hx_d_Typed_sumOfBytes_14 rfl (lv_at hl 2 rfl) ?_
      have K : hx_Cut [(r0, .inr (6, [.ref r0_characters, .int f0_length, .int f0_first, .int f0_behind, .int f0_digitsFrom])), (r0_characters, .inl (kB, 8000, .inl f0_characters))] [(r0, .inr (6, [.ref r0_characters, .int f0_length, .int f0_first, .int f0_behind, .int f0_digitsFrom])), (r0_characters, .inl (kB, 8000, .inl f0_characters))] [] [0, 1] [] := ⟨rfl, rfl, rfl, rfl, by decide⟩
      refine hx_ci hA V K (hx_rV (As := [.int x2]) (rest := [.int x1]) F hK hZ hA V K hx_jV_Typed_43 (hx_q_Typed_byteAt l D kJ kI kB tC tS H.size r0 r0_characters x2 f0_characters f0_length f0_first f0_behind f0_digitsFrom h) rfl rfl ⟨Nat.le_of_ble_eq_true rfl, Nat.le_of_ble_eq_true rfl⟩ (q0 := 0) rfl rfl rfl rfl hl.1 rfl (Nat.le_of_ble_eq_true rfl) hx_d_Typed_sumOfBytes_15 ⟨Nat.le_of_ble_eq_true rfl, Nat.le_of_ble_eq_true rfl⟩) (fun c15 u H locs h V => ?_)
      have V : hx_V D A s.heap H locs [(r0, .inr (6, [.ref r0_characters, .int f0_length, .int f0_first, .int f0_behind, .int f0_digitsFrom])), (r0_characters, .inl (kB, 8000, .inl f0_characters))] := V
      refine lv_iadd hx hb hx_d_Typed_sumOfBytes_18 ?_
      refine lv_topi (fun z19 e => ?_)
      have h := h z19 e
      refine lv_istore_n (lv' := [(1, .int z19), (0, .ref r0), (2, .int x2)]) hx hb hx_d_Typed_sumOfBytes_19 rfl hl (Nat.le_of_ble_eq_true rfl) rfl (fun ls hl => ?_)
      refine lv_iinc (v := x2 + 1) (lv' := [(2, .int (x2 + 1)), (1, .int z19), (0, .ref r0)]) hx hb hx_d_Typed_sumOfBytes_20 hl (k := 2) rfl rfl (Nat.le_of_ble_eq_true rfl) rfl (fun ls hl => ?_)
      refine lv_goto (tgt := 4) hx hb hx_d_Typed_sumOfBytes_23 rfl ?_
      exact h ls H locs (lv_sub hl [2, 1, 0] rfl) V)
  refine lv_iconst (v := 0) hx hb hx_d_Typed_sumOfBytes_0 (by decide) ?_
  refine lv_istore_n (lv' := [(1, .int 0), (0, .ref r0)]) hx hb hx_d_Typed_sumOfBytes_1 rfl hl (Nat.le_of_ble_eq_true rfl) rfl (fun ls hl => ?_)
  refine lv_iconst (v := 0) hx hb hx_d_Typed_sumOfBytes_2 (by decide) ?_
  refine lv_istore_n (lv' := [(2, .int 0), (1, .int 0), (0, .ref r0)]) hx hb hx_d_Typed_sumOfBytes_3 rfl hl (Nat.le_of_ble_eq_true rfl) rfl (fun ls hl => ?_)
  exact h ls H locs (lv_sub hl [2, 1, 0] rfl) V

def hx_v_SRead_faultOfForm (f1_characters : Nat → Int32) (f1_first : Int32) (f1_behind : Int32) (f1_digitsFrom : Int32) (Q : Int32 → Int32 → Prop) : Prop :=
  
  hx_v_Typed_beginsWith (83 : Int32) f1_characters f1_first f1_behind (fun c3 => ((¬ c3 = (0 : Int32)) → (hx_v_Typed_recordLength f1_first f1_behind (fun c12 => ((2 : Int32) ≤ c12 → (hx_v_Typed_digitAt (1 : Int32) f1_characters f1_first f1_behind (fun c23 => (c23 < (0 : Int32) → (Q (2 : Int32) f1_digitsFrom)) ∧ ((¬ c23 < (0 : Int32)) → (((10 : Int32) ≤ c23 → (Q (2 : Int32) f1_digitsFrom)) ∧ ((¬ (10 : Int32) ≤ c23) → (hx_v_Typed_takeBytesFrom (2 : Int32) f1_characters f1_first f1_behind (fun c39 f1_digitsFrom => ((¬ c39 = (0 : Int32)) → (hx_v_Typed_bytes f1_first f1_behind f1_digitsFrom (fun c48 => hx_v_Typed_hasHalfByte f1_first f1_behind f1_digitsFrom (fun c53 => ((¬ c53 = (0 : Int32)) → (Q (3 : Int32) f1_digitsFrom)) ∧ (c53 = (0 : Int32) → ((c48 = (0 : Int32) → (Q (3 : Int32) f1_digitsFrom)) ∧ ((¬ c48 = (0 : Int32)) → (hx_v_Typed_byteAt (0 : Int32) f1_characters f1_first f1_behind f1_digitsFrom (fun c68 => ((c48 - (1 : Int32)) = c68 → (hx_v_SRead_dataBytes f1_characters f1_first f1_behind f1_digitsFrom (fun c77 => ((0 : Int32) ≤ c77 → (hx_v_SRead_dataBytes f1_characters f1_first f1_behind f1_digitsFrom (fun c87 => hx_v_SRead_typeHas c23 c87 (fun c90 => ((¬ c90 = (0 : Int32)) → (hx_v_Typed_sumOfBytes f1_characters f1_first f1_behind f1_digitsFrom (fun c99 => ((¬ c99 = (255 : Int32)) → (Q (5 : Int32) f1_digitsFrom)) ∧ (c99 = (255 : Int32) → (Q (0 : Int32) f1_digitsFrom))))) ∧ (c90 = (0 : Int32) → (Q (4 : Int32) f1_digitsFrom)))))) ∧ ((¬ (0 : Int32) ≤ c77) → (Q (3 : Int32) f1_digitsFrom))))) ∧ ((¬ (c48 - (1 : Int32)) = c68) → (Q (3 : Int32) f1_digitsFrom))))))))))) ∧ (c39 = (0 : Int32) → (Q (2 : Int32) f1_digitsFrom)))))))))) ∧ ((¬ (2 : Int32) ≤ c12) → (Q (3 : Int32) f1_digitsFrom))))) ∧ (c3 = (0 : Int32) → (Q (1 : Int32) f1_digitsFrom)))
set_option maxHeartbeats 4000000 in
set_option maxRecDepth 100000 in
theorem hx_q_SRead_faultOfForm (l : Launch) (D : va_G) (kJ kI kB : ClassId) (tC tS : Nat) (sz : Nat) (r1 r1_characters : Nat) (f1_characters : Nat → Int32) (f1_length : Int32) (f1_first : Int32) (f1_behind : Int32) (f1_digitsFrom : Int32) {Q : Int32 → Int32 → Prop} (h : hx_v_SRead_faultOfForm f1_characters f1_first f1_behind f1_digitsFrom Q) :
    Met l hx_y_SRead_faultOfForm (.code hx_y_SRead_faultOfForm hx_c_SRead_faultOfForm 3 (some .int) :: hx_B) (hx_rm 3 67) (va_Pc [.ref r1] (hx_I D kJ kI kB tC tS [(r1, .inr (6, [.ref r1_characters, .int f1_length, .int f1_first, .int f1_behind, .int f1_digitsFrom])), (r1_characters, .inl (kB, 8000, .inl f1_characters))] sz))
      (va_Qi (S := Int32) (fun r (u : Int32) => Q r u) (fun u t => va_P D vwCl ((fun f1_digitsFrom => [(r1, .inr (6, [.ref r1_characters, .int f1_length, .int f1_first, .int f1_behind, .int f1_digitsFrom])), (r1_characters, .inl (kB, 8000, .inl f1_characters))]) u) t.heap ∧ va_D (va_A [(r1, .inr (6, [.ref r1_characters, .int f1_length, .int f1_first, .int f1_behind, .int f1_digitsFrom])), (r1_characters, .inl (kB, 8000, .inl f1_characters))] sz) ((fun f1_digitsFrom => [(r1, .inr (6, [.ref r1_characters, .int f1_length, .int f1_first, .int f1_behind, .int f1_digitsFrom])), (r1_characters, .inl (kB, 8000, .inl f1_characters))]) u)) (va_A [(r1, .inr (6, [.ref r1_characters, .int f1_length, .int f1_first, .int f1_behind, .int f1_digitsFrom])), (r1_characters, .inl (kB, 8000, .inl f1_characters))] sz)) 0 0 (va_A [(r1, .inr (6, [.ref r1_characters, .int f1_length, .int f1_first, .int f1_behind, .int f1_digitsFrom])), (r1_characters, .inl (kB, 8000, .inl f1_characters))] sz) := by
  refine hx_ofWi (S := Int32) (post := fun r (u : Int32) => Q r u) (B := fun f1_digitsFrom => [(r1, .inr (6, [.ref r1_characters, .int f1_length, .int f1_first, .int f1_behind, .int f1_digitsFrom])), (r1_characters, .inl (kB, 8000, .inl f1_characters))]) (by decide) (Nat.le_of_ble_eq_true rfl) ?_
  intro p e s m below meth c ls A Qf H locs F hK hZ hA hret hl V
  have hx := F.1
  have hb := F.2.1
  have hl : lv_has ls 3 [(0, .ref r1)] := hl
  unfold hx_v_SRead_faultOfForm at h
  refine lv_aload_n hx hb hx_d_SRead_faultOfForm_0 rfl (lv_at hl 0 rfl) ?_
  refine lv_bipush (v := 83) hx hb hx_d_SRead_faultOfForm_1 (by decide) ?_
  have K : hx_Cut [(r1, .inr (6, [.ref r1_characters, .int f1_length, .int f1_first, .int f1_behind, .int f1_digitsFrom])), (r1_characters, .inl (kB, 8000, .inl f1_characters))] [(r1, .inr (6, [.ref r1_characters, .int f1_length, .int f1_first, .int f1_behind, .int f1_digitsFrom])), (r1_characters, .inl (kB, 8000, .inl f1_characters))] [] [0, 1] [] := ⟨rfl, rfl, rfl, rfl, by decide⟩
  refine hx_ci hA V K (hx_rV (As := [.int 83]) (rest := []) F hK hZ hA V K hx_jV_SRead_49 (hx_q_Typed_beginsWith l D kJ kI kB tC tS H.size r1 r1_characters (83 : Int32) f1_characters f1_length f1_first f1_behind f1_digitsFrom h) rfl rfl ⟨Nat.le_of_ble_eq_true rfl, Nat.le_of_ble_eq_true rfl⟩ (q0 := 0) rfl rfl rfl rfl hl.1 rfl (Nat.le_of_ble_eq_true rfl) hx_d_SRead_faultOfForm_3 ⟨Nat.le_of_ble_eq_true rfl, Nat.le_of_ble_eq_true rfl⟩) (fun c3 u H locs h V => ?_)
  have V : hx_V D A s.heap H locs [(r1, .inr (6, [.ref r1_characters, .int f1_length, .int f1_first, .int f1_behind, .int f1_digitsFrom])), (r1_characters, .inl (kB, 8000, .inl f1_characters))] := V
  refine lv_if_ne (tgt := 11) hx hb hx_d_SRead_faultOfForm_6 rfl (fun b => ?_) (fun b => ?_)
  · have h := h.1 b
    refine lv_aload_n hx hb hx_d_SRead_faultOfForm_11 rfl (lv_at hl 0 rfl) ?_
    have K : hx_Cut [(r1, .inr (6, [.ref r1_characters, .int f1_length, .int f1_first, .int f1_behind, .int f1_digitsFrom])), (r1_characters, .inl (kB, 8000, .inl f1_characters))] [(r1, .inr (6, [.ref r1_characters, .int f1_length, .int f1_first, .int f1_behind, .int f1_digitsFrom])), (r1_characters, .inl (kB, 8000, .inl f1_characters))] [] [0, 1] [] := ⟨rfl, rfl, rfl, rfl, by decide⟩
    refine hx_ci hA V K (hx_rV (As := []) (rest := []) F hK hZ hA V K hx_jV_SRead_53 (hx_q_Typed_recordLength l D kJ kI kB tC tS H.size r1 r1_characters f1_characters f1_length f1_first f1_behind f1_digitsFrom h) rfl rfl ⟨Nat.le_of_ble_eq_true rfl, Nat.le_of_ble_eq_true rfl⟩ (q0 := 0) rfl rfl rfl rfl hl.1 rfl (Nat.le_of_ble_eq_true rfl) hx_d_SRead_faultOfForm_12 ⟨Nat.le_of_ble_eq_true rfl, Nat.le_of_ble_eq_true rfl⟩) (fun c12 u H locs h V => ?_)
    have V : hx_V D A s.heap H locs [(r1, .inr (6, [.ref r1_characters, .int f1_length, .int f1_first, .int f1_behind, .int f1_digitsFrom])), (r1_characters, .inl (kB, 8000, .inl f1_characters))] := V
    refine lv_iconst (v := 2) hx hb hx_d_SRead_faultOfForm_15 (by decide) ?_
    refine lv_icmp_ge (tgt := 21) hx hb hx_d_SRead_faultOfForm_16 rfl (fun b => ?_) (fun b => ?_)
    · have h := h.1 b
      refine lv_aload_n hx hb hx_d_SRead_faultOfForm_21 rfl (lv_at hl 0 rfl) ?_
      refine lv_iconst (v := 1) hx hb hx_d_SRead_faultOfForm_22 (by decide) ?_
      have K : hx_Cut [(r1, .inr (6, [.ref r1_characters, .int f1_length, .int f1_first, .int f1_behind, .int f1_digitsFrom])), (r1_characters, .inl (kB, 8000, .inl f1_characters))] [(r1, .inr (6, [.ref r1_characters, .int f1_length, .int f1_first, .int f1_behind, .int f1_digitsFrom])), (r1_characters, .inl (kB, 8000, .inl f1_characters))] [] [0, 1] [] := ⟨rfl, rfl, rfl, rfl, by decide⟩
      refine hx_ci hA V K (hx_rV (As := [.int 1]) (rest := []) F hK hZ hA V K hx_jV_SRead_25 (hx_q_Typed_digitAt l D kJ kI kB tC tS H.size r1 r1_characters (1 : Int32) f1_characters f1_length f1_first f1_behind f1_digitsFrom h) rfl rfl ⟨Nat.le_of_ble_eq_true rfl, Nat.le_of_ble_eq_true rfl⟩ (q0 := 0) rfl rfl rfl rfl hl.1 rfl (Nat.le_of_ble_eq_true rfl) hx_d_SRead_faultOfForm_23 ⟨Nat.le_of_ble_eq_true rfl, Nat.le_of_ble_eq_true rfl⟩) (fun c23 u H locs h V => ?_)
      have V : hx_V D A s.heap H locs [(r1, .inr (6, [.ref r1_characters, .int f1_length, .int f1_first, .int f1_behind, .int f1_digitsFrom])), (r1_characters, .inl (kB, 8000, .inl f1_characters))] := V
      refine lv_istore_n (lv' := [(1, .int c23), (0, .ref r1)]) hx hb hx_d_SRead_faultOfForm_26 rfl hl (Nat.le_of_ble_eq_true rfl) rfl (fun ls hl => ?_)
      refine lv_iload_n hx hb hx_d_SRead_faultOfForm_27 rfl (lv_at hl 0 rfl) ?_
      refine lv_if_lt (tgt := 45) hx hb hx_d_SRead_faultOfForm_28 rfl (fun b => ?_) (fun b => ?_)
      · have h := h.1 b
        refine lv_iconst (v := 2) hx hb hx_d_SRead_faultOfForm_45 (by decide) ?_
        exact hret (2 : Int32) f1_digitsFrom H locs _ ls hx_d_SRead_faultOfForm_46 h V
      · have h := h.2 b
        refine lv_iload_n hx hb hx_d_SRead_faultOfForm_31 rfl (lv_at hl 0 rfl) ?_
        refine lv_bipush (v := 10) hx hb hx_d_SRead_faultOfForm_32 (by decide) ?_
        refine lv_icmp_ge (tgt := 45) hx hb hx_d_SRead_faultOfForm_34 rfl (fun b => ?_) (fun b => ?_)
        · have h := h.1 b
          refine lv_iconst (v := 2) hx hb hx_d_SRead_faultOfForm_45 (by decide) ?_
          exact hret (2 : Int32) f1_digitsFrom H locs _ ls hx_d_SRead_faultOfForm_46 h V
        · have h := h.2 b
          refine lv_aload_n hx hb hx_d_SRead_faultOfForm_37 rfl (lv_at hl 1 rfl) ?_
          refine lv_iconst (v := 2) hx hb hx_d_SRead_faultOfForm_38 (by decide) ?_
          have K : hx_Cut [(r1, .inr (6, [.ref r1_characters, .int f1_length, .int f1_first, .int f1_behind, .int f1_digitsFrom])), (r1_characters, .inl (kB, 8000, .inl f1_characters))] [(r1, .inr (6, [.ref r1_characters, .int f1_length, .int f1_first, .int f1_behind, .int f1_digitsFrom])), (r1_characters, .inl (kB, 8000, .inl f1_characters))] [] [0, 1] [] := ⟨rfl, rfl, rfl, rfl, by decide⟩
          refine hx_ci hA V K (hx_rV (As := [.int 2]) (rest := []) F hK hZ hA V K hx_jV_SRead_57 (hx_q_Typed_takeBytesFrom l D kJ kI kB tC tS H.size r1 r1_characters (2 : Int32) f1_characters f1_length f1_first f1_behind f1_digitsFrom h) rfl rfl ⟨Nat.le_of_ble_eq_true rfl, Nat.le_of_ble_eq_true rfl⟩ (q0 := 0) rfl rfl rfl rfl hl.1 rfl (Nat.le_of_ble_eq_true rfl) hx_d_SRead_faultOfForm_39 ⟨Nat.le_of_ble_eq_true rfl, Nat.le_of_ble_eq_true rfl⟩) (fun c39 u H locs h V => ?_)
          obtain ⟨f1_digitsFrom, rfl⟩ : ∃ z, z = u := ⟨_, rfl⟩
          have V : hx_V D A s.heap H locs [(r1, .inr (6, [.ref r1_characters, .int f1_length, .int f1_first, .int f1_behind, .int f1_digitsFrom])), (r1_characters, .inl (kB, 8000, .inl f1_characters))] := V
          refine lv_if_ne (tgt := 47) hx hb hx_d_SRead_faultOfForm_42 rfl (fun b => ?_) (fun b => ?_)
          · have h := h.1 b
            refine lv_aload_n hx hb hx_d_SRead_faultOfForm_47 rfl (lv_at hl 1 rfl) ?_
            have K : hx_Cut [(r1, .inr (6, [.ref r1_characters, .int f1_length, .int f1_first, .int f1_behind, .int f1_digitsFrom])), (r1_characters, .inl (kB, 8000, .inl f1_characters))] [(r1, .inr (6, [.ref r1_characters, .int f1_length, .int f1_first, .int f1_behind, .int f1_digitsFrom])), (r1_characters, .inl (kB, 8000, .inl f1_characters))] [] [0, 1] [] := ⟨rfl, rfl, rfl, rfl, by decide⟩
            refine hx_ci hA V K (hx_rV (As := []) (rest := []) F hK hZ hA V K hx_jV_SRead_61 (hx_q_Typed_bytes l D kJ kI kB tC tS H.size r1 r1_characters f1_characters f1_length f1_first f1_behind f1_digitsFrom h) rfl rfl ⟨Nat.le_of_ble_eq_true rfl, Nat.le_of_ble_eq_true rfl⟩ (q0 := 0) rfl rfl rfl rfl hl.1 rfl (Nat.le_of_ble_eq_true rfl) hx_d_SRead_faultOfForm_48 ⟨Nat.le_of_ble_eq_true rfl, Nat.le_of_ble_eq_true rfl⟩) (fun c48 u H locs h V => ?_)
            have V : hx_V D A s.heap H locs [(r1, .inr (6, [.ref r1_characters, .int f1_length, .int f1_first, .int f1_behind, .int f1_digitsFrom])), (r1_characters, .inl (kB, 8000, .inl f1_characters))] := V
            refine lv_istore_n (lv' := [(2, .int c48), (1, .int c23), (0, .ref r1)]) hx hb hx_d_SRead_faultOfForm_51 rfl hl (Nat.le_of_ble_eq_true rfl) rfl (fun ls hl => ?_)
            refine lv_aload_n hx hb hx_d_SRead_faultOfForm_52 rfl (lv_at hl 2 rfl) ?_
            have K : hx_Cut [(r1, .inr (6, [.ref r1_characters, .int f1_length, .int f1_first, .int f1_behind, .int f1_digitsFrom])), (r1_characters, .inl (kB, 8000, .inl f1_characters))] [(r1, .inr (6, [.ref r1_characters, .int f1_length, .int f1_first, .int f1_behind, .int f1_digitsFrom])), (r1_characters, .inl (kB, 8000, .inl f1_characters))] [] [0, 1] [] := ⟨rfl, rfl, rfl, rfl, by decide⟩
            refine hx_ci hA V K (hx_rV (As := []) (rest := []) F hK hZ hA V K hx_jV_SRead_64 (hx_q_Typed_hasHalfByte l D kJ kI kB tC tS H.size r1 r1_characters f1_characters f1_length f1_first f1_behind f1_digitsFrom h) rfl rfl ⟨Nat.le_of_ble_eq_true rfl, Nat.le_of_ble_eq_true rfl⟩ (q0 := 0) rfl rfl rfl rfl hl.1 rfl (Nat.le_of_ble_eq_true rfl) hx_d_SRead_faultOfForm_53 ⟨Nat.le_of_ble_eq_true rfl, Nat.le_of_ble_eq_true rfl⟩) (fun c53 u H locs h V => ?_)
            have V : hx_V D A s.heap H locs [(r1, .inr (6, [.ref r1_characters, .int f1_length, .int f1_first, .int f1_behind, .int f1_digitsFrom])), (r1_characters, .inl (kB, 8000, .inl f1_characters))] := V
            refine lv_if_ne (tgt := 74) hx hb hx_d_SRead_faultOfForm_56 rfl (fun b => ?_) (fun b => ?_)
            · have h := h.1 b
              refine lv_iconst (v := 3) hx hb hx_d_SRead_faultOfForm_74 (by decide) ?_
              exact hret (3 : Int32) f1_digitsFrom H locs _ ls hx_d_SRead_faultOfForm_75 h V
            · have h := h.2 b
              refine lv_iload_n hx hb hx_d_SRead_faultOfForm_59 rfl (lv_at hl 0 rfl) ?_
              refine lv_if_eq (tgt := 74) hx hb hx_d_SRead_faultOfForm_60 rfl (fun b => ?_) (fun b => ?_)
              · have h := h.1 b
                refine lv_iconst (v := 3) hx hb hx_d_SRead_faultOfForm_74 (by decide) ?_
                exact hret (3 : Int32) f1_digitsFrom H locs _ ls hx_d_SRead_faultOfForm_75 h V
              · have h := h.2 b
                refine lv_iload_n hx hb hx_d_SRead_faultOfForm_63 rfl (lv_at hl 0 rfl) ?_
                refine lv_iconst (v := 1) hx hb hx_d_SRead_faultOfForm_64 (by decide) ?_
                refine lv_isub hx hb hx_d_SRead_faultOfForm_65 ?_
                refine lv_aload_n hx hb hx_d_SRead_faultOfForm_66 rfl (lv_at hl 2 rfl) ?_
                refine lv_iconst (v := 0) hx hb hx_d_SRead_faultOfForm_67 (by decide) ?_
                have K : hx_Cut [(r1, .inr (6, [.ref r1_characters, .int f1_length, .int f1_first, .int f1_behind, .int f1_digitsFrom])), (r1_characters, .inl (kB, 8000, .inl f1_characters))] [(r1, .inr (6, [.ref r1_characters, .int f1_length, .int f1_first, .int f1_behind, .int f1_digitsFrom])), (r1_characters, .inl (kB, 8000, .inl f1_characters))] [] [0, 1] [] := ⟨rfl, rfl, rfl, rfl, by decide⟩
                refine hx_ci hA V K (hx_rV (As := [.int 0]) (rest := [.int (c48 - (1 : Int32))]) F hK hZ hA V K hx_jV_SRead_68 (hx_q_Typed_byteAt l D kJ kI kB tC tS H.size r1 r1_characters (0 : Int32) f1_characters f1_length f1_first f1_behind f1_digitsFrom h) rfl rfl ⟨Nat.le_of_ble_eq_true rfl, Nat.le_of_ble_eq_true rfl⟩ (q0 := 0) rfl rfl rfl rfl hl.1 rfl (Nat.le_of_ble_eq_true rfl) hx_d_SRead_faultOfForm_68 ⟨Nat.le_of_ble_eq_true rfl, Nat.le_of_ble_eq_true rfl⟩) (fun c68 u H locs h V => ?_)
                have V : hx_V D A s.heap H locs [(r1, .inr (6, [.ref r1_characters, .int f1_length, .int f1_first, .int f1_behind, .int f1_digitsFrom])), (r1_characters, .inl (kB, 8000, .inl f1_characters))] := V
                refine lv_icmp_eq (tgt := 76) hx hb hx_d_SRead_faultOfForm_71 rfl (fun b => ?_) (fun b => ?_)
                · have h := h.1 b
                  refine lv_aload_n hx hb hx_d_SRead_faultOfForm_76 rfl (lv_at hl 2 rfl) ?_
                  have K : hx_Cut [(r1, .inr (6, [.ref r1_characters, .int f1_length, .int f1_first, .int f1_behind, .int f1_digitsFrom])), (r1_characters, .inl (kB, 8000, .inl f1_characters))] [(r1, .inr (6, [.ref r1_characters, .int f1_length, .int f1_first, .int f1_behind, .int f1_digitsFrom])), (r1_characters, .inl (kB, 8000, .inl f1_characters))] [] [0, 1] [] := ⟨rfl, rfl, rfl, rfl, by decide⟩
                  refine hx_ci hA V K (hx_rS (As := [.ref r1]) (rest := []) F hK hZ hA V K hx_jS_SRead_42 (hx_q_SRead_dataBytes l D kJ kI kB tC tS H.size r1 r1_characters f1_characters f1_length f1_first f1_behind f1_digitsFrom h) rfl rfl ⟨Nat.le_of_ble_eq_true rfl, Nat.le_of_ble_eq_true rfl⟩ rfl hl.1 rfl (Nat.le_of_ble_eq_true rfl) hx_d_SRead_faultOfForm_77 ⟨Nat.le_of_ble_eq_true rfl, Nat.le_of_ble_eq_true rfl⟩) (fun c77 u H locs h V => ?_)
                  have V : hx_V D A s.heap H locs [(r1, .inr (6, [.ref r1_characters, .int f1_length, .int f1_first, .int f1_behind, .int f1_digitsFrom])), (r1_characters, .inl (kB, 8000, .inl f1_characters))] := V
                  refine lv_if_ge (tgt := 85) hx hb hx_d_SRead_faultOfForm_80 rfl (fun b => ?_) (fun b => ?_)
                  · have h := h.1 b
                    refine lv_iload_n hx hb hx_d_SRead_faultOfForm_85 rfl (lv_at hl 1 rfl) ?_
                    refine lv_aload_n hx hb hx_d_SRead_faultOfForm_86 rfl (lv_at hl 2 rfl) ?_
                    have K : hx_Cut [(r1, .inr (6, [.ref r1_characters, .int f1_length, .int f1_first, .int f1_behind, .int f1_digitsFrom])), (r1_characters, .inl (kB, 8000, .inl f1_characters))] [(r1, .inr (6, [.ref r1_characters, .int f1_length, .int f1_first, .int f1_behind, .int f1_digitsFrom])), (r1_characters, .inl (kB, 8000, .inl f1_characters))] [] [0, 1] [] := ⟨rfl, rfl, rfl, rfl, by decide⟩
                    refine hx_ci hA V K (hx_rS (As := [.ref r1]) (rest := [.int c23]) F hK hZ hA V K hx_jS_SRead_42 (hx_q_SRead_dataBytes l D kJ kI kB tC tS H.size r1 r1_characters f1_characters f1_length f1_first f1_behind f1_digitsFrom h) rfl rfl ⟨Nat.le_of_ble_eq_true rfl, Nat.le_of_ble_eq_true rfl⟩ rfl hl.1 rfl (Nat.le_of_ble_eq_true rfl) hx_d_SRead_faultOfForm_87 ⟨Nat.le_of_ble_eq_true rfl, Nat.le_of_ble_eq_true rfl⟩) (fun c87 u H locs h V => ?_)
                    have V : hx_V D A s.heap H locs [(r1, .inr (6, [.ref r1_characters, .int f1_length, .int f1_first, .int f1_behind, .int f1_digitsFrom])), (r1_characters, .inl (kB, 8000, .inl f1_characters))] := V
                    have K : hx_Cut [(r1, .inr (6, [.ref r1_characters, .int f1_length, .int f1_first, .int f1_behind, .int f1_digitsFrom])), (r1_characters, .inl (kB, 8000, .inl f1_characters))] [] [(r1, .inr (6, [.ref r1_characters, .int f1_length, .int f1_first, .int f1_behind, .int f1_digitsFrom])), (r1_characters, .inl (kB, 8000, .inl f1_characters))] [] [0, 1] := ⟨rfl, rfl, rfl, rfl, by decide⟩
                    refine hx_ci hA V K (hx_rS (As := [.int c23, .int c87]) (rest := []) F hK hZ hA V K hx_jS_SRead_71 (hx_q_SRead_typeHas l D kJ kI kB tC tS H.size c23 c87 h) rfl rfl ⟨Nat.le_of_ble_eq_true rfl, Nat.le_of_ble_eq_true rfl⟩ rfl hl.1 rfl (Nat.le_of_ble_eq_true rfl) hx_d_SRead_faultOfForm_90 ⟨Nat.le_of_ble_eq_true rfl, Nat.le_of_ble_eq_true rfl⟩) (fun c90 u H locs h V => ?_)
                    have V : hx_V D A s.heap H locs [(r1, .inr (6, [.ref r1_characters, .int f1_length, .int f1_first, .int f1_behind, .int f1_digitsFrom])), (r1_characters, .inl (kB, 8000, .inl f1_characters))] := V
                    refine lv_if_ne (tgt := 98) hx hb hx_d_SRead_faultOfForm_93 rfl (fun b => ?_) (fun b => ?_)
                    · have h := h.1 b
                      refine lv_aload_n hx hb hx_d_SRead_faultOfForm_98 rfl (lv_at hl 2 rfl) ?_
                      have K : hx_Cut [(r1, .inr (6, [.ref r1_characters, .int f1_length, .int f1_first, .int f1_behind, .int f1_digitsFrom])), (r1_characters, .inl (kB, 8000, .inl f1_characters))] [(r1, .inr (6, [.ref r1_characters, .int f1_length, .int f1_first, .int f1_behind, .int f1_digitsFrom])), (r1_characters, .inl (kB, 8000, .inl f1_characters))] [] [0, 1] [] := ⟨rfl, rfl, rfl, rfl, by decide⟩
                      refine hx_ci hA V K (hx_rV (As := []) (rest := []) F hK hZ hA V K hx_jV_SRead_75 (hx_q_Typed_sumOfBytes l D kJ kI kB tC tS H.size r1 r1_characters f1_characters f1_length f1_first f1_behind f1_digitsFrom h) rfl rfl ⟨Nat.le_of_ble_eq_true rfl, Nat.le_of_ble_eq_true rfl⟩ (q0 := 0) rfl rfl rfl rfl hl.1 rfl (Nat.le_of_ble_eq_true rfl) hx_d_SRead_faultOfForm_99 ⟨Nat.le_of_ble_eq_true rfl, Nat.le_of_ble_eq_true rfl⟩) (fun c99 u H locs h V => ?_)
                      have V : hx_V D A s.heap H locs [(r1, .inr (6, [.ref r1_characters, .int f1_length, .int f1_first, .int f1_behind, .int f1_digitsFrom])), (r1_characters, .inl (kB, 8000, .inl f1_characters))] := V
                      refine lv_sipush (v := 255) hx hb hx_d_SRead_faultOfForm_102 (by decide) ?_
                      refine lv_icmp_ne (tgt := 112) hx hb hx_d_SRead_faultOfForm_105 rfl (fun b => ?_) (fun b => ?_)
                      · have h := h.1 b
                        refine lv_iconst (v := 5) hx hb hx_d_SRead_faultOfForm_112 (by decide) ?_
                        exact hret (5 : Int32) f1_digitsFrom H locs _ ls hx_d_SRead_faultOfForm_113 h V
                      · have h := h.2 b
                        refine lv_iconst (v := 0) hx hb hx_d_SRead_faultOfForm_108 (by decide) ?_
                        refine lv_goto (tgt := 113) hx hb hx_d_SRead_faultOfForm_109 rfl ?_
                        exact hret (0 : Int32) f1_digitsFrom H locs _ ls hx_d_SRead_faultOfForm_113 h V
                    · have h := h.2 b
                      refine lv_iconst (v := 4) hx hb hx_d_SRead_faultOfForm_96 (by decide) ?_
                      exact hret (4 : Int32) f1_digitsFrom H locs _ ls hx_d_SRead_faultOfForm_97 h V
                  · have h := h.2 b
                    refine lv_iconst (v := 3) hx hb hx_d_SRead_faultOfForm_83 (by decide) ?_
                    exact hret (3 : Int32) f1_digitsFrom H locs _ ls hx_d_SRead_faultOfForm_84 h V
                · have h := h.2 b
                  refine lv_iconst (v := 3) hx hb hx_d_SRead_faultOfForm_74 (by decide) ?_
                  exact hret (3 : Int32) f1_digitsFrom H locs _ ls hx_d_SRead_faultOfForm_75 h V
          · have h := h.2 b
            refine lv_iconst (v := 2) hx hb hx_d_SRead_faultOfForm_45 (by decide) ?_
            exact hret (2 : Int32) f1_digitsFrom H locs _ ls hx_d_SRead_faultOfForm_46 h V
    · have h := h.2 b
      refine lv_iconst (v := 3) hx hb hx_d_SRead_faultOfForm_19 (by decide) ?_
      exact hret (3 : Int32) f1_digitsFrom H locs _ ls hx_d_SRead_faultOfForm_20 h V
  · have h := h.2 b
    refine lv_iconst (v := 1) hx hb hx_d_SRead_faultOfForm_9 (by decide) ?_
    exact hret (1 : Int32) f1_digitsFrom H locs _ ls hx_d_SRead_faultOfForm_10 h V
