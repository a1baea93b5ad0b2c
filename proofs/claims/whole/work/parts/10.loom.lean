def hx_v_Typed_packedAt (a1 : Int64) (a2 : Int32) (Q : Int32 → Prop) : Prop :=
  
  Q ((((a1.toUInt64 >>> (((8 : Int32) * a2).toInt64.toUInt64 &&& Int64.toUInt64 63)).toInt64).toInt32) &&& (255 : Int32))
set_option maxHeartbeats 4000000 in
set_option maxRecDepth 100000 in
theorem hx_q_Typed_packedAt (l : Launch) (D : va_G) (kJ kI kB : ClassId) (tC tS : Nat) (sz : Nat) (a1 : Int64) (a2 : Int32) {Q : Int32 → Prop} (h : hx_v_Typed_packedAt a1 a2 Q) :
    Met l hx_y_Typed_packedAt (.code hx_y_Typed_packedAt hx_c_Typed_packedAt 3 (some .int) :: hx_B) (hx_rm 0 0) (va_Pc [.long a1, .int a2] (hx_I D kJ kI kB tC tS [] sz))
      (va_Qi (S := Unit) (fun r _ => Q r) (fun u t => va_P D vwCl ((fun _ => []) u) t.heap ∧ va_D (va_A [] sz) ((fun _ => []) u)) (va_A [] sz)) 0 0 (va_A [] sz) := by
  refine hx_ofWi (S := Unit) (post := fun r _ => Q r) (B := fun _ => []) (by decide) (Nat.le_of_ble_eq_true rfl) ?_
  intro p e s m below meth c ls A Qf H locs F hK hZ hA hret hl V
  have hx := F.1
  have hb := F.2.1
  have hl : lv_has ls 3 [(0, .long a1), (2, .int a2)] := hl
  unfold hx_v_Typed_packedAt at h
  refine lv_lload_n hx hb hx_d_Typed_packedAt_0 rfl (lv_at hl 0 rfl) ?_
  refine lv_bipush (v := 8) hx hb hx_d_Typed_packedAt_1 (by decide) ?_
  refine lv_iload_n hx hb hx_d_Typed_packedAt_3 rfl (lv_at hl 1 rfl) ?_
  refine lv_imul hx hb hx_d_Typed_packedAt_4 ?_
  refine lv_lushr hx hb hx_d_Typed_packedAt_5 rfl ?_
  refine lv_l2i hx hb hx_d_Typed_packedAt_6 rfl ?_
  refine lv_sipush (v := 255) hx hb hx_d_Typed_packedAt_7 (by decide) ?_
  refine lv_iand hx hb hx_d_Typed_packedAt_10 ?_
  exact hret ((((a1.toUInt64 >>> (((8 : Int32) * a2).toInt64.toUInt64 &&& Int64.toUInt64 63)).toInt64).toInt32) &&& (255 : Int32)) () H locs _ ls hx_d_Typed_packedAt_11 h V

def hx_v_Typed_append (a1 : Int64) (a2 : Int32) (f0_characters : Nat → Int32) (f0_length : Int32) (Q : Int32 → (Nat → Int32) → Int32 → Prop) : Prop :=
  ∀ P28 : Int32 → (Nat → Int32) → Int32 → Prop, ∀ P69 : Int32 → (Nat → Int32) → Int32 → Prop, 
  (∀ (x4 : Int32) (f0_characters : Nat → Int32) (f0_length : Int32), ((a2 ≤ x4 → (∀ z67 : Int32, z67 = a2 - (1 : Int32) → P69 z67 f0_characters f0_length)) ∧ ((¬ a2 ≤ x4) → (hx_v_Typed_packedAt a1 x4 (fun c37 => (c37 < (32 : Int32) → (Q (-1 : Int32) f0_characters f0_length)) ∧ ((¬ c37 < (32 : Int32)) → ((c37 ≤ (126 : Int32) → (P28 (x4 + 1) f0_characters f0_length)) ∧ ((¬ c37 ≤ (126 : Int32)) → (Q (-1 : Int32) f0_characters f0_length)))))))) → P28 x4 f0_characters f0_length) →
  (∀ (x4 : Int32) (f0_characters : Nat → Int32) (f0_length : Int32), ((x4 < (0 : Int32) → (Q f0_length f0_characters f0_length)) ∧ ((¬ x4 < (0 : Int32)) → (hx_v_Typed_packedAt a1 x4 (fun c85 => vp_in f0_length 8000 ∧ P69 (x4 + (-1)) (upd f0_characters f0_length.toNatClampNeg (vp_nar .byte c85.toInt8.toInt32)) (f0_length + (1 : Int32)))))) → P69 x4 f0_characters f0_length) →
  ((a2 < (1 : Int32) → (Q (-1 : Int32) f0_characters f0_length)) ∧ ((¬ a2 < (1 : Int32)) → (((8 : Int32) < a2 → (Q (-1 : Int32) f0_characters f0_length)) ∧ ((¬ (8 : Int32) < a2) → ((a2 ≤ ((8000 : Int32) - f0_length) → (P28 (0 : Int32) f0_characters f0_length)) ∧ ((¬ a2 ≤ ((8000 : Int32) - f0_length)) → (Q (-1 : Int32) f0_characters f0_length)))))))
set_option maxHeartbeats 4000000 in
set_option maxRecDepth 100000 in
theorem hx_q_Typed_append (l : Launch) (D : va_G) (kJ kI kB : ClassId) (tC tS : Nat) (sz : Nat) (r0 r0_characters : Nat) (a1 : Int64) (a2 : Int32) (f0_characters : Nat → Int32) (f0_length : Int32) (f0_first : Int32) (f0_behind : Int32) (f0_digitsFrom : Int32) {Q : Int32 → (Nat → Int32) → Int32 → Prop} (h : hx_v_Typed_append a1 a2 f0_characters f0_length Q) :
    Met l hx_y_Typed_append (.code hx_y_Typed_append hx_c_Typed_append 6 (some .int) :: hx_B) (hx_rm 1 22) (va_Pc [.ref r0, .long a1, .int a2] (hx_I D kJ kI kB tC tS [(r0, .inr (6, [.ref r0_characters, .int f0_length, .int f0_first, .int f0_behind, .int f0_digitsFrom])), (r0_characters, .inl (kB, 8000, .inl f0_characters))] sz))
      (va_Qi (S := (Nat → Int32) × Int32) (fun r (u : (Nat → Int32) × Int32) => match u with | (f0_characters, f0_length) => Q r f0_characters f0_length) (fun u t => va_P D vwCl ((fun u => match u with | (f0_characters, f0_length) => [(r0, .inr (6, [.ref r0_characters, .int f0_length, .int f0_first, .int f0_behind, .int f0_digitsFrom])), (r0_characters, .inl (kB, 8000, .inl f0_characters))]) u) t.heap ∧ va_D (va_A [(r0, .inr (6, [.ref r0_characters, .int f0_length, .int f0_first, .int f0_behind, .int f0_digitsFrom])), (r0_characters, .inl (kB, 8000, .inl f0_characters))] sz) ((fun u => match u with | (f0_characters, f0_length) => [(r0, .inr (6, [.ref r0_characters, .int f0_length, .int f0_first, .int f0_behind, .int f0_digitsFrom])), (r0_characters, .inl (kB, 8000, .inl f0_characters))]) u)) (va_A [(r0, .inr (6, [.ref r0_characters, .int f0_length, .int f0_first, .int f0_behind, .int f0_digitsFrom])), (r0_characters, .inl (kB, 8000, .inl f0_characters))] sz)) 0 0 (va_A [(r0, .inr (6, [.ref r0_characters, .int f0_length, .int f0_first, .int f0_behind, .int f0_digitsFrom])), (r0_characters, .inl (kB, 8000, .inl f0_characters))] sz) := by
  refine hx_ofWi (S := (Nat → Int32) × Int32) (post := fun r (u : (Nat → Int32) × Int32) => match u with | (f0_characters, f0_length) => Q r f0_characters f0_length) (B := fun u => match u with | (f0_characters, f0_length) => [(r0, .inr (6, [.ref r0_characters, .int f0_length, .int f0_first, .int f0_behind, .int f0_digitsFrom])), (r0_characters, .inl (kB, 8000, .inl f0_characters))]) (by decide) (Nat.le_of_ble_eq_true rfl) ?_
  intro p e s m below meth c ls A Qf H locs F hK hZ hA hret hl V
  have hx := F.1
  have hb := F.2.1
  have hl : lv_has ls 6 [(0, .ref r0), (1, .long a1), (3, .int a2)] := hl
  unfold hx_v_Typed_append at h
  have h := h (fun (x4 : Int32) (f0_characters : Nat → Int32) (f0_length : Int32) => ∀ (ls : Array Slot) (H : Heap) (locs : List Loc), lv_has ls 6 [(0, .ref r0), (1, .long a1), (3, .int a2), (4, .int x4)] → hx_V D A s.heap H locs [(r0, .inr (6, [.ref r0_characters, .int f0_length, .int f0_first, .int f0_behind, .int f0_digitsFrom])), (r0_characters, .inl (kB, 8000, .inl f0_characters))] → W p l e (hx_rm 1 22) s m ([.ref r0, .long a1, .int a2] : List Value).toArray below meth c H locs 0 0 Qf (F0 m 28 ls []))
  have h := h (fun (x4 : Int32) (f0_characters : Nat → Int32) (f0_length : Int32) => ∀ (ls : Array Slot) (H : Heap) (locs : List Loc), lv_has ls 6 [(0, .ref r0), (1, .long a1), (4, .int x4)] → hx_V D A s.heap H locs [(r0, .inr (6, [.ref r0_characters, .int f0_length, .int f0_first, .int f0_behind, .int f0_digitsFrom])), (r0_characters, .inl (kB, 8000, .inl f0_characters))] → W p l e (hx_rm 1 22) s m ([.ref r0, .long a1, .int a2] : List Value).toArray below meth c H locs 0 0 Qf (F0 m 69 ls []))
  have h := h (by
    intro x4 f0_characters f0_length h ls H locs hl V
    refine lv_iload hx hb hx_d_Typed_append_28 (lv_at hl 3 rfl) ?_
    refine lv_iload_n hx hb hx_d_Typed_append_30 rfl (lv_at hl 2 rfl) ?_
    refine lv_icmp_ge (tgt := 64) hx hb hx_d_Typed_append_31 rfl (fun b => ?_) (fun b => ?_)
    · have h := h.1 b
      refine lv_iload_n hx hb hx_d_Typed_append_64 rfl (lv_at hl 2 rfl) ?_
      refine lv_iconst (v := 1) hx hb hx_d_Typed_append_65 (by decide) ?_
      refine lv_isub hx hb hx_d_Typed_append_66 ?_
      refine lv_topi (fun z67 e => ?_)
      have h := h z67 e
      refine lv_istore (lv' := [(4, .int z67), (0, .ref r0), (1, .long a1), (3, .int a2)]) hx hb hx_d_Typed_append_67 hl (Nat.le_of_ble_eq_true rfl) rfl (fun ls hl => ?_)
      exact h ls H locs (lv_sub hl [1, 2, 0] rfl) V
    · have h := h.2 b
      refine lv_lload_n hx hb hx_d_Typed_append_34 rfl (lv_at hl 1 rfl) ?_
      refine lv_iload hx hb hx_d_Typed_append_35 (lv_at hl 3 rfl) ?_
      have K : hx_Cut [(r0, .inr (6, [.ref r0_characters, .int f0_length, .int f0_first, .int f0_behind, .int f0_digitsFrom])), (r0_characters, .inl (kB, 8000, .inl f0_characters))] [] [(r0, .inr (6, [.ref r0_characters, .int f0_length, .int f0_first, .int f0_behind, .int f0_digitsFrom])), (r0_characters, .inl (kB, 8000, .inl f0_characters))] [] [0, 1] := ⟨rfl, rfl, rfl, rfl, by decide⟩
      refine hx_ci hA V K (hx_rS (As := [.long a1, .int x4]) (rest := []) F hK hZ hA V K hx_jS_Typed_22 (hx_q_Typed_packedAt l D kJ kI kB tC tS H.size a1 x4 h) rfl rfl ⟨Nat.le_of_ble_eq_true rfl, Nat.le_of_ble_eq_true rfl⟩ rfl hl.1 rfl (Nat.le_of_ble_eq_true rfl) hx_d_Typed_append_37 ⟨Nat.le_of_ble_eq_true rfl, Nat.le_of_ble_eq_true rfl⟩) (fun c37 u H locs h V => ?_)
      have V : hx_V D A s.heap H locs [(r0, .inr (6, [.ref r0_characters, .int f0_length, .int f0_first, .int f0_behind, .int f0_digitsFrom])), (r0_characters, .inl (kB, 8000, .inl f0_characters))] := V
      refine lv_istore (lv' := [(5, .int c37), (0, .ref r0), (1, .long a1), (3, .int a2), (4, .int x4)]) hx hb hx_d_Typed_append_40 hl (Nat.le_of_ble_eq_true rfl) rfl (fun ls hl => ?_)
      refine lv_iload hx hb hx_d_Typed_append_42 (lv_at hl 0 rfl) ?_
      refine lv_bipush (v := 32) hx hb hx_d_Typed_append_44 (by decide) ?_
      refine lv_icmp_lt (tgt := 56) hx hb hx_d_Typed_append_46 rfl (fun b => ?_) (fun b => ?_)
      · have h := h.1 b
        refine lv_iconst (v := (-1)) hx hb hx_d_Typed_append_56 (by decide) ?_
        exact hret (-1 : Int32) (f0_characters, f0_length) H locs _ ls hx_d_Typed_append_57 h V
      · have h := h.2 b
        refine lv_iload hx hb hx_d_Typed_append_49 (lv_at hl 0 rfl) ?_
        refine lv_bipush (v := 126) hx hb hx_d_Typed_append_51 (by decide) ?_
        refine lv_icmp_le (tgt := 58) hx hb hx_d_Typed_append_53 rfl (fun b => ?_) (fun b => ?_)
        · have h := h.1 b
          refine lv_iinc (v := x4 + 1) (lv' := [(4, .int (x4 + 1)), (5, .int c37), (0, .ref r0), (1, .long a1), (3, .int a2)]) hx hb hx_d_Typed_append_58 hl (k := 4) rfl rfl (Nat.le_of_ble_eq_true rfl) rfl (fun ls hl => ?_)
          refine lv_goto (tgt := 28) hx hb hx_d_Typed_append_61 rfl ?_
          exact h ls H locs (lv_sub hl [2, 3, 4, 0] rfl) V
        · have h := h.2 b
          refine lv_iconst (v := (-1)) hx hb hx_d_Typed_append_56 (by decide) ?_
          exact hret (-1 : Int32) (f0_characters, f0_length) H locs _ ls hx_d_Typed_append_57 h V)
  have h := h (by
    intro x4 f0_characters f0_length h ls H locs hl V
    refine lv_iload hx hb hx_d_Typed_append_69 (lv_at hl 2 rfl) ?_
    refine lv_if_lt (tgt := 106) hx hb hx_d_Typed_append_71 rfl (fun b => ?_) (fun b => ?_)
    · have h := h.1 b
      refine lv_aload_n hx hb hx_d_Typed_append_106 rfl (lv_at hl 0 rfl) ?_
      refine hx_get (v := .int f0_length) F hK V hx_f_Typed_15 0 rfl rfl hx_d_Typed_append_107 ?_
      exact hret f0_length (f0_characters, f0_length) H locs _ ls hx_d_Typed_append_110 h V
    · have h := h.2 b
      refine lv_aload_n hx hb hx_d_Typed_append_74 rfl (lv_at hl 0 rfl) ?_
      refine hx_get (v := .ref r0_characters) F hK V hx_f_Typed_9 0 rfl rfl hx_d_Typed_append_75 ?_
      refine lv_aload_n hx hb hx_d_Typed_append_78 rfl (lv_at hl 0 rfl) ?_
      refine hx_get (v := .int f0_length) F hK V hx_f_Typed_15 0 rfl rfl hx_d_Typed_append_79 ?_
      refine lv_lload_n hx hb hx_d_Typed_append_82 rfl (lv_at hl 1 rfl) ?_
      refine lv_iload hx hb hx_d_Typed_append_83 (lv_at hl 2 rfl) ?_
      have K : hx_Cut [(r0, .inr (6, [.ref r0_characters, .int f0_length, .int f0_first, .int f0_behind, .int f0_digitsFrom])), (r0_characters, .inl (kB, 8000, .inl f0_characters))] [] [(r0, .inr (6, [.ref r0_characters, .int f0_length, .int f0_first, .int f0_behind, .int f0_digitsFrom])), (r0_characters, .inl (kB, 8000, .inl f0_characters))] [] [0, 1] := ⟨rfl, rfl, rfl, rfl, by decide⟩
      refine hx_ci hA V K (hx_rS (As := [.long a1, .int x4]) (rest := [.int f0_length, .ref r0_characters]) F hK hZ hA V K hx_jS_Typed_22 (hx_q_Typed_packedAt l D kJ kI kB tC tS H.size a1 x4 h) rfl rfl ⟨Nat.le_of_ble_eq_true rfl, Nat.le_of_ble_eq_true rfl⟩ rfl hl.1 rfl (Nat.le_of_ble_eq_true rfl) hx_d_Typed_append_85 ⟨Nat.le_of_ble_eq_true rfl, Nat.le_of_ble_eq_true rfl⟩) (fun c85 u H locs h V => ?_)
      have V : hx_V D A s.heap H locs [(r0, .inr (6, [.ref r0_characters, .int f0_length, .int f0_first, .int f0_behind, .int f0_digitsFrom])), (r0_characters, .inl (kB, 8000, .inl f0_characters))] := V
      refine lv_i2b hx hb hx_d_Typed_append_88 rfl ?_
      refine hx_bast (ws' := [(r0, .inr (6, [.ref r0_characters, .int f0_length, .int f0_first, .int f0_behind, .int f0_digitsFrom])), (r0_characters, .inl (kB, 8000, .inl (upd f0_characters f0_length.toNatClampNeg (vp_nar .byte c85.toInt8.toInt32))))]) F hK V 1 rfl h.1 rfl hx_d_Typed_append_89 (fun H locs V => ?_)
      have h := h.2
      refine lv_aload_n hx hb hx_d_Typed_append_90 rfl (lv_at hl 0 rfl) ?_
      refine lv_dup hx hb hx_d_Typed_append_91 rfl ?_
      refine hx_get (v := .int f0_length) F hK V hx_f_Typed_15 0 rfl rfl hx_d_Typed_append_92 ?_
      refine lv_iconst (v := 1) hx hb hx_d_Typed_append_95 (by decide) ?_
      refine lv_iadd hx hb hx_d_Typed_append_96 ?_
      refine hx_put (v := .int (f0_length + (1 : Int32))) (ws' := [(r0, .inr (6, [.ref r0_characters, .int (f0_length + (1 : Int32)), .int f0_first, .int f0_behind, .int f0_digitsFrom])), (r0_characters, .inl (kB, 8000, .inl (upd f0_characters f0_length.toNatClampNeg (vp_nar .byte c85.toInt8.toInt32))))]) F hK V hx_f_Typed_15 0 rfl rfl rfl (Nat.le_of_ble_eq_true rfl) rfl hx_d_Typed_append_97 (fun H locs V => ?_)
      refine lv_iinc (v := x4 + (-1)) (lv' := [(4, .int (x4 + (-1))), (0, .ref r0), (1, .long a1)]) hx hb hx_d_Typed_append_100 hl (k := 2) rfl rfl (Nat.le_of_ble_eq_true rfl) rfl (fun ls hl => ?_)
      refine lv_goto (tgt := 69) hx hb hx_d_Typed_append_103 rfl ?_
      exact h ls H locs (lv_sub hl [1, 2, 0] rfl) V)
  refine lv_iload_n hx hb hx_d_Typed_append_0 rfl (lv_at hl 2 rfl) ?_
  refine lv_iconst (v := 1) hx hb hx_d_Typed_append_1 (by decide) ?_
  refine lv_icmp_lt (tgt := 23) hx hb hx_d_Typed_append_2 rfl (fun b => ?_) (fun b => ?_)
  · have h := h.1 b
    refine lv_iconst (v := (-1)) hx hb hx_d_Typed_append_23 (by decide) ?_
    exact hret (-1 : Int32) (f0_characters, f0_length) H locs _ ls hx_d_Typed_append_24 h V
  · have h := h.2 b
    refine lv_iload_n hx hb hx_d_Typed_append_5 rfl (lv_at hl 2 rfl) ?_
    refine lv_bipush (v := 8) hx hb hx_d_Typed_append_6 (by decide) ?_
    refine lv_icmp_gt (tgt := 23) hx hb hx_d_Typed_append_8 rfl (fun b => ?_) (fun b => ?_)
    · have h := h.1 b
      refine lv_iconst (v := (-1)) hx hb hx_d_Typed_append_23 (by decide) ?_
      exact hret (-1 : Int32) (f0_characters, f0_length) H locs _ ls hx_d_Typed_append_24 h V
    · have h := h.2 b
      refine lv_iload_n hx hb hx_d_Typed_append_11 rfl (lv_at hl 2 rfl) ?_
      refine lv_sipush (v := 8000) hx hb hx_d_Typed_append_12 (by decide) ?_
      refine lv_aload_n hx hb hx_d_Typed_append_15 rfl (lv_at hl 0 rfl) ?_
      refine hx_get (v := .int f0_length) F hK V hx_f_Typed_15 0 rfl rfl hx_d_Typed_append_16 ?_
      refine lv_isub hx hb hx_d_Typed_append_19 ?_
      refine lv_icmp_le (tgt := 25) hx hb hx_d_Typed_append_20 rfl (fun b => ?_) (fun b => ?_)
      · have h := h.1 b
        refine lv_iconst (v := 0) hx hb hx_d_Typed_append_25 (by decide) ?_
        refine lv_istore (lv' := [(4, .int 0), (0, .ref r0), (1, .long a1), (3, .int a2)]) hx hb hx_d_Typed_append_26 hl (Nat.le_of_ble_eq_true rfl) rfl (fun ls hl => ?_)
        exact h ls H locs (lv_sub hl [1, 2, 3, 0] rfl) V
      · have h := h.2 b
        refine lv_iconst (v := (-1)) hx hb hx_d_Typed_append_23 (by decide) ?_
        exact hret (-1 : Int32) (f0_characters, f0_length) H locs _ ls hx_d_Typed_append_24 h V

def hx_v_Loom_type (a1 : Int64) (a2 : Int32) (f0_typed_characters : Nat → Int32) (f0_typed_length : Int32) (Q : Int32 → (Nat → Int32) → Int32 → Prop) : Prop :=
  
  hx_v_Typed_append a1 a2 f0_typed_characters f0_typed_length (fun c6 f0_typed_characters f0_typed_length => Q c6 f0_typed_characters f0_typed_length)
set_option maxHeartbeats 4000000 in
set_option maxRecDepth 100000 in
theorem hx_q_Loom_type (l : Launch) (D : va_G) (kJ kI kB : ClassId) (tC tS : Nat) (sz : Nat) (r0 r0_image r0_image_addresses r0_image_values r0_image_heldAddresses r0_image_heldValues r0_typed r0_typed_characters r0_draft r0_draft_bytes r0_draft_bytes_addresses r0_draft_bytes_values r0_draft_bytes_heldAddresses r0_draft_bytes_heldValues r0_colonReader r0_sReader r0_teller r0_teller_told : Nat) (a1 : Int64) (a2 : Int32) (f0_image_addresses : Nat → Int64) (f0_image_values : Nat → Int32) (f0_image_heldAddresses : Nat → Int64) (f0_image_heldValues : Nat → Int32) (f0_image_size : Int32) (f0_typed_characters : Nat → Int32) (f0_typed_length : Int32) (f0_typed_first : Int32) (f0_typed_behind : Int32) (f0_typed_digitsFrom : Int32) (f0_draft_bytes_addresses : Nat → Int64) (f0_draft_bytes_values : Nat → Int32) (f0_draft_bytes_heldAddresses : Nat → Int64) (f0_draft_bytes_heldValues : Nat → Int32) (f0_draft_bytes_size : Int32) (f0_draft_more : Int32) (f0_draft_start : Int64) (f0_draft_ended : Int32) (f0_colonReader_base : Int64) (f0_colonReader_segmented : Int32) (f0_sReader_dataRecords : Int32) (f0_teller_told : Nat → Int32) (f0_teller_toldLength : Int32) (f0_teller_at : Int32) (f0_teller_writing : Int32) (f0_teller_sum : Int32) (f0_teller_upperHalf : Int64) (f0_startAddress : Int64) (f0_faultPlace : Int32) {Q : Int32 → (Nat → Int32) → Int32 → Prop} (h : hx_v_Loom_type a1 a2 f0_typed_characters f0_typed_length Q) :
    Met l hx_y_Loom_type (.code hx_y_Loom_type hx_c_Loom_type 4 (some .int) :: hx_B) (hx_rm 2 47) (va_Pc [.ref r0, .long a1, .int a2] (hx_I D kJ kI kB tC tS [(r0, .inr (0, [.ref r0_image, .ref r0_typed, .ref r0_draft, .ref r0_colonReader, .ref r0_sReader, .ref r0_teller, .long f0_startAddress, .int f0_faultPlace])), (r0_image, .inr (3, [.ref r0_image_addresses, .ref r0_image_values, .ref r0_image_heldAddresses, .ref r0_image_heldValues, .int f0_image_size])), (r0_image_addresses, .inl (kJ, 3000, .inr (.inl f0_image_addresses))), (r0_image_values, .inl (kI, 3000, .inl f0_image_values)), (r0_image_heldAddresses, .inl (kJ, 256, .inr (.inl f0_image_heldAddresses))), (r0_image_heldValues, .inl (kI, 256, .inl f0_image_heldValues)), (r0_typed, .inr (6, [.ref r0_typed_characters, .int f0_typed_length, .int f0_typed_first, .int f0_typed_behind, .int f0_typed_digitsFrom])), (r0_typed_characters, .inl (kB, 8000, .inl f0_typed_characters)), (r0_draft, .inr (2, [.ref r0_draft_bytes, .int f0_draft_more, .long f0_draft_start, .int f0_draft_ended])), (r0_draft_bytes, .inr (3, [.ref r0_draft_bytes_addresses, .ref r0_draft_bytes_values, .ref r0_draft_bytes_heldAddresses, .ref r0_draft_bytes_heldValues, .int f0_draft_bytes_size])), (r0_draft_bytes_addresses, .inl (kJ, 3000, .inr (.inl f0_draft_bytes_addresses))), (r0_draft_bytes_values, .inl (kI, 3000, .inl f0_draft_bytes_values)), (r0_draft_bytes_heldAddresses, .inl (kJ, 256, .inr (.inl f0_draft_bytes_heldAddresses))), (r0_draft_bytes_heldValues, .inl (kI, 256, .inl f0_draft_bytes_heldValues)), (r0_colonReader, .inr (1, [.long f0_colonReader_base, .int f0_colonReader_segmented])), (r0_sReader, .inr (4, [.int f0_sReader_dataRecords])), (r0_teller, .inr (5, [.ref r0_teller_told, .int f0_teller_toldLength, .int f0_teller_at, .int f0_teller_writing, .int f0_teller_sum, .long f0_teller_upperHalf])), (r0_teller_told, .inl (kB, 12000, .inl f0_teller_told))] sz))
      (va_Qi (S := (Nat → Int32) × Int32) (fun r (u : (Nat → Int32) × Int32) => match u with | (f0_typed_characters, f0_typed_length) => Q r f0_typed_characters f0_typed_length) (fun u t => va_P D vwCl ((fun u => match u with | (f0_typed_characters, f0_typed_length) => [(r0, .inr (0, [.ref r0_image, .ref r0_typed, .ref r0_draft, .ref r0_colonReader, .ref r0_sReader, .ref r0_teller, .long f0_startAddress, .int f0_faultPlace])), (r0_image, .inr (3, [.ref r0_image_addresses, .ref r0_image_values, .ref r0_image_heldAddresses, .ref r0_image_heldValues, .int f0_image_size])), (r0_image_addresses, .inl (kJ, 3000, .inr (.inl f0_image_addresses))), (r0_image_values, .inl (kI, 3000, .inl f0_image_values)), (r0_image_heldAddresses, .inl (kJ, 256, .inr (.inl f0_image_heldAddresses))), (r0_image_heldValues, .inl (kI, 256, .inl f0_image_heldValues)), (r0_typed, .inr (6, [.ref r0_typed_characters, .int f0_typed_length, .int f0_typed_first, .int f0_typed_behind, .int f0_typed_digitsFrom])), (r0_typed_characters, .inl (kB, 8000, .inl f0_typed_characters)), (r0_draft, .inr (2, [.ref r0_draft_bytes, .int f0_draft_more, .long f0_draft_start, .int f0_draft_ended])), (r0_draft_bytes, .inr (3, [.ref r0_draft_bytes_addresses, .ref r0_draft_bytes_values, .ref r0_draft_bytes_heldAddresses, .ref r0_draft_bytes_heldValues, .int f0_draft_bytes_size])), (r0_draft_bytes_addresses, .inl (kJ, 3000, .inr (.inl f0_draft_bytes_addresses))), (r0_draft_bytes_values, .inl (kI, 3000, .inl f0_draft_bytes_values)), (r0_draft_bytes_heldAddresses, .inl (kJ, 256, .inr (.inl f0_draft_bytes_heldAddresses))), (r0_draft_bytes_heldValues, .inl (kI, 256, .inl f0_draft_bytes_heldValues)), (r0_colonReader, .inr (1, [.long f0_colonReader_base, .int f0_colonReader_segmented])), (r0_sReader, .inr (4, [.int f0_sReader_dataRecords])), (r0_teller, .inr (5, [.ref r0_teller_told, .int f0_teller_toldLength, .int f0_teller_at, .int f0_teller_writing, .int f0_teller_sum, .long f0_teller_upperHalf])), (r0_teller_told, .inl (kB, 12000, .inl f0_teller_told))]) u) t.heap ∧ va_D (va_A [(r0, .inr (0, [.ref r0_image, .ref r0_typed, .ref r0_draft, .ref r0_colonReader, .ref r0_sReader, .ref r0_teller, .long f0_startAddress, .int f0_faultPlace])), (r0_image, .inr (3, [.ref r0_image_addresses, .ref r0_image_values, .ref r0_image_heldAddresses, .ref r0_image_heldValues, .int f0_image_size])), (r0_image_addresses, .inl (kJ, 3000, .inr (.inl f0_image_addresses))), (r0_image_values, .inl (kI, 3000, .inl f0_image_values)), (r0_image_heldAddresses, .inl (kJ, 256, .inr (.inl f0_image_heldAddresses))), (r0_image_heldValues, .inl (kI, 256, .inl f0_image_heldValues)), (r0_typed, .inr (6, [.ref r0_typed_characters, .int f0_typed_length, .int f0_typed_first, .int f0_typed_behind, .int f0_typed_digitsFrom])), (r0_typed_characters, .inl (kB, 8000, .inl f0_typed_characters)), (r0_draft, .inr (2, [.ref r0_draft_bytes, .int f0_draft_more, .long f0_draft_start, .int f0_draft_ended])), (r0_draft_bytes, .inr (3, [.ref r0_draft_bytes_addresses, .ref r0_draft_bytes_values, .ref r0_draft_bytes_heldAddresses, .ref r0_draft_bytes_heldValues, .int f0_draft_bytes_size])), (r0_draft_bytes_addresses, .inl (kJ, 3000, .inr (.inl f0_draft_bytes_addresses))), (r0_draft_bytes_values, .inl (kI, 3000, .inl f0_draft_bytes_values)), (r0_draft_bytes_heldAddresses, .inl (kJ, 256, .inr (.inl f0_draft_bytes_heldAddresses))), (r0_draft_bytes_heldValues, .inl (kI, 256, .inl f0_draft_bytes_heldValues)), (r0_colonReader, .inr (1, [.long f0_colonReader_base, .int f0_colonReader_segmented])), (r0_sReader, .inr (4, [.int f0_sReader_dataRecords])), (r0_teller, .inr (5, [.ref r0_teller_told, .int f0_teller_toldLength, .int f0_teller_at, .int f0_teller_writing, .int f0_teller_sum, .long f0_teller_upperHalf])), (r0_teller_told, .inl (kB, 12000, .inl f0_teller_told))] sz) ((fun u => match u with | (f0_typed_characters, f0_typed_length) => [(r0, .inr (0, [.ref r0_image, .ref r0_typed, .ref r0_draft, .ref r0_colonReader, .ref r0_sReader, .ref r0_teller, .long f0_startAddress, .int f0_faultPlace])), (r0_image, .inr (3, [.ref r0_image_addresses, .ref r0_image_values, .ref r0_image_heldAddresses, .ref r0_image_heldValues, .int f0_image_size])), (r0_image_addresses, .inl (kJ, 3000, .inr (.inl f0_image_addresses))), (r0_image_values, .inl (kI, 3000, .inl f0_image_values)), (r0_image_heldAddresses, .inl (kJ, 256, .inr (.inl f0_image_heldAddresses))), (r0_image_heldValues, .inl (kI, 256, .inl f0_image_heldValues)), (r0_typed, .inr (6, [.ref r0_typed_characters, .int f0_typed_length, .int f0_typed_first, .int f0_typed_behind, .int f0_typed_digitsFrom])), (r0_typed_characters, .inl (kB, 8000, .inl f0_typed_characters)), (r0_draft, .inr (2, [.ref r0_draft_bytes, .int f0_draft_more, .long f0_draft_start, .int f0_draft_ended])), (r0_draft_bytes, .inr (3, [.ref r0_draft_bytes_addresses, .ref r0_draft_bytes_values, .ref r0_draft_bytes_heldAddresses, .ref r0_draft_bytes_heldValues, .int f0_draft_bytes_size])), (r0_draft_bytes_addresses, .inl (kJ, 3000, .inr (.inl f0_draft_bytes_addresses))), (r0_draft_bytes_values, .inl (kI, 3000, .inl f0_draft_bytes_values)), (r0_draft_bytes_heldAddresses, .inl (kJ, 256, .inr (.inl f0_draft_bytes_heldAddresses))), (r0_draft_bytes_heldValues, .inl (kI, 256, .inl f0_draft_bytes_heldValues)), (r0_colonReader, .inr (1, [.long f0_colonReader_base, .int f0_colonReader_segmented])), (r0_sReader, .inr (4, [.int f0_sReader_dataRecords])), (r0_teller, .inr (5, [.ref r0_teller_told, .int f0_teller_toldLength, .int f0_teller_at, .int f0_teller_writing, .int f0_teller_sum, .long f0_teller_upperHalf])), (r0_teller_told, .inl (kB, 12000, .inl f0_teller_told))]) u)) (va_A [(r0, .inr (0, [.ref r0_image, .ref r0_typed, .ref r0_draft, .ref r0_colonReader, .ref r0_sReader, .ref r0_teller, .long f0_startAddress, .int f0_faultPlace])), (r0_image, .inr (3, [.ref r0_image_addresses, .ref r0_image_values, .ref r0_image_heldAddresses, .ref r0_image_heldValues, .int f0_image_size])), (r0_image_addresses, .inl (kJ, 3000, .inr (.inl f0_image_addresses))), (r0_image_values, .inl (kI, 3000, .inl f0_image_values)), (r0_image_heldAddresses, .inl (kJ, 256, .inr (.inl f0_image_heldAddresses))), (r0_image_heldValues, .inl (kI, 256, .inl f0_image_heldValues)), (r0_typed, .inr (6, [.ref r0_typed_characters, .int f0_typed_length, .int f0_typed_first, .int f0_typed_behind, .int f0_typed_digitsFrom])), (r0_typed_characters, .inl (kB, 8000, .inl f0_typed_characters)), (r0_draft, .inr (2, [.ref r0_draft_bytes, .int f0_draft_more, .long f0_draft_start, .int f0_draft_ended])), (r0_draft_bytes, .inr (3, [.ref r0_draft_bytes_addresses, .ref r0_draft_bytes_values, .ref r0_draft_bytes_heldAddresses, .ref r0_draft_bytes_heldValues, .int f0_draft_bytes_size])), (r0_draft_bytes_addresses, .inl (kJ, 3000, .inr (.inl f0_draft_bytes_addresses))), (r0_draft_bytes_values, .inl (kI, 3000, .inl f0_draft_bytes_values)), (r0_draft_bytes_heldAddresses, .inl (kJ, 256, .inr (.inl f0_draft_bytes_heldAddresses))), (r0_draft_bytes_heldValues, .inl (kI, 256, .inl f0_draft_bytes_heldValues)), (r0_colonReader, .inr (1, [.long f0_colonReader_base, .int f0_colonReader_segmented])), (r0_sReader, .inr (4, [.int f0_sReader_dataRecords])), (r0_teller, .inr (5, [.ref r0_teller_told, .int f0_teller_toldLength, .int f0_teller_at, .int f0_teller_writing, .int f0_teller_sum, .long f0_teller_upperHalf])), (r0_teller_told, .inl (kB, 12000, .inl f0_teller_told))] sz)) 0 0 (va_A [(r0, .inr (0, [.ref r0_image, .ref r0_typed, .ref r0_draft, .ref r0_colonReader, .ref r0_sReader, .ref r0_teller, .long f0_startAddress, .int f0_faultPlace])), (r0_image, .inr (3, [.ref r0_image_addresses, .ref r0_image_values, .ref r0_image_heldAddresses, .ref r0_image_heldValues, .int f0_image_size])), (r0_image_addresses, .inl (kJ, 3000, .inr (.inl f0_image_addresses))), (r0_image_values, .inl (kI, 3000, .inl f0_image_values)), (r0_image_heldAddresses, .inl (kJ, 256, .inr (.inl f0_image_heldAddresses))), (r0_image_heldValues, .inl (kI, 256, .inl f0_image_heldValues)), (r0_typed, .inr (6, [.ref r0_typed_characters, .int f0_typed_length, .int f0_typed_first, .int f0_typed_behind, .int f0_typed_digitsFrom])), (r0_typed_characters, .inl (kB, 8000, .inl f0_typed_characters)), (r0_draft, .inr (2, [.ref r0_draft_bytes, .int f0_draft_more, .long f0_draft_start, .int f0_draft_ended])), (r0_draft_bytes, .inr (3, [.ref r0_draft_bytes_addresses, .ref r0_draft_bytes_values, .ref r0_draft_bytes_heldAddresses, .ref r0_draft_bytes_heldValues, .int f0_draft_bytes_size])), (r0_draft_bytes_addresses, .inl (kJ, 3000, .inr (.inl f0_draft_bytes_addresses))), (r0_draft_bytes_values, .inl (kI, 3000, .inl f0_draft_bytes_values)), (r0_draft_bytes_heldAddresses, .inl (kJ, 256, .inr (.inl f0_draft_bytes_heldAddresses))), (r0_draft_bytes_heldValues, .inl (kI, 256, .inl f0_draft_bytes_heldValues)), (r0_colonReader, .inr (1, [.long f0_colonReader_base, .int f0_colonReader_segmented])), (r0_sReader, .inr (4, [.int f0_sReader_dataRecords])), (r0_teller, .inr (5, [.ref r0_teller_told, .int f0_teller_toldLength, .int f0_teller_at, .int f0_teller_writing, .int f0_teller_sum, .long f0_teller_upperHalf])), (r0_teller_told, .inl (kB, 12000, .inl f0_teller_told))] sz) := by
  refine hx_ofWi (S := (Nat → Int32) × Int32) (post := fun r (u : (Nat → Int32) × Int32) => match u with | (f0_typed_characters, f0_typed_length) => Q r f0_typed_characters f0_typed_length) (B := fun u => match u with | (f0_typed_characters, f0_typed_length) => [(r0, .inr (0, [.ref r0_image, .ref r0_typed, .ref r0_draft, .ref r0_colonReader, .ref r0_sReader, .ref r0_teller, .long f0_startAddress, .int f0_faultPlace])), (r0_image, .inr (3, [.ref r0_image_addresses, .ref r0_image_values, .ref r0_image_heldAddresses, .ref r0_image_heldValues, .int f0_image_size])), (r0_image_addresses, .inl (kJ, 3000, .inr (.inl f0_image_addresses))), (r0_image_values, .inl (kI, 3000, .inl f0_image_values)), (r0_image_heldAddresses, .inl (kJ, 256, .inr (.inl f0_image_heldAddresses))), (r0_image_heldValues, .inl (kI, 256, .inl f0_image_heldValues)), (r0_typed, .inr (6, [.ref r0_typed_characters, .int f0_typed_length, .int f0_typed_first, .int f0_typed_behind, .int f0_typed_digitsFrom])), (r0_typed_characters, .inl (kB, 8000, .inl f0_typed_characters)), (r0_draft, .inr (2, [.ref r0_draft_bytes, .int f0_draft_more, .long f0_draft_start, .int f0_draft_ended])), (r0_draft_bytes, .inr (3, [.ref r0_draft_bytes_addresses, .ref r0_draft_bytes_values, .ref r0_draft_bytes_heldAddresses, .ref r0_draft_bytes_heldValues, .int f0_draft_bytes_size])), (r0_draft_bytes_addresses, .inl (kJ, 3000, .inr (.inl f0_draft_bytes_addresses))), (r0_draft_bytes_values, .inl (kI, 3000, .inl f0_draft_bytes_values)), (r0_draft_bytes_heldAddresses, .inl (kJ, 256, .inr (.inl f0_draft_bytes_heldAddresses))), (r0_draft_bytes_heldValues, .inl (kI, 256, .inl f0_draft_bytes_heldValues)), (r0_colonReader, .inr (1, [.long f0_colonReader_base, .int f0_colonReader_segmented])), (r0_sReader, .inr (4, [.int f0_sReader_dataRecords])), (r0_teller, .inr (5, [.ref r0_teller_told, .int f0_teller_toldLength, .int f0_teller_at, .int f0_teller_writing, .int f0_teller_sum, .long f0_teller_upperHalf])), (r0_teller_told, .inl (kB, 12000, .inl f0_teller_told))]) (by decide) (Nat.le_of_ble_eq_true rfl) ?_
  intro p e s m below meth c ls A Qf H locs F hK hZ hA hret hl V
  have hx := F.1
  have hb := F.2.1
  have hl : lv_has ls 4 [(0, .ref r0), (1, .long a1), (3, .int a2)] := hl
  unfold hx_v_Loom_type at h
  refine lv_aload_n hx hb hx_d_Loom_type_0 rfl (lv_at hl 0 rfl) ?_
  refine hx_get (v := .ref r0_typed) F hK V hx_f_Loom_19 0 rfl rfl hx_d_Loom_type_1 ?_
  refine lv_lload_n hx hb hx_d_Loom_type_4 rfl (lv_at hl 1 rfl) ?_
  refine lv_iload_n hx hb hx_d_Loom_type_5 rfl (lv_at hl 2 rfl) ?_
  have K : hx_Cut [(r0, .inr (0, [.ref r0_image, .ref r0_typed, .ref r0_draft, .ref r0_colonReader, .ref r0_sReader, .ref r0_teller, .long f0_startAddress, .int f0_faultPlace])), (r0_image, .inr (3, [.ref r0_image_addresses, .ref r0_image_values, .ref r0_image_heldAddresses, .ref r0_image_heldValues, .int f0_image_size])), (r0_image_addresses, .inl (kJ, 3000, .inr (.inl f0_image_addresses))), (r0_image_values, .inl (kI, 3000, .inl f0_image_values)), (r0_image_heldAddresses, .inl (kJ, 256, .inr (.inl f0_image_heldAddresses))), (r0_image_heldValues, .inl (kI, 256, .inl f0_image_heldValues)), (r0_typed, .inr (6, [.ref r0_typed_characters, .int f0_typed_length, .int f0_typed_first, .int f0_typed_behind, .int f0_typed_digitsFrom])), (r0_typed_characters, .inl (kB, 8000, .inl f0_typed_characters)), (r0_draft, .inr (2, [.ref r0_draft_bytes, .int f0_draft_more, .long f0_draft_start, .int f0_draft_ended])), (r0_draft_bytes, .inr (3, [.ref r0_draft_bytes_addresses, .ref r0_draft_bytes_values, .ref r0_draft_bytes_heldAddresses, .ref r0_draft_bytes_heldValues, .int f0_draft_bytes_size])), (r0_draft_bytes_addresses, .inl (kJ, 3000, .inr (.inl f0_draft_bytes_addresses))), (r0_draft_bytes_values, .inl (kI, 3000, .inl f0_draft_bytes_values)), (r0_draft_bytes_heldAddresses, .inl (kJ, 256, .inr (.inl f0_draft_bytes_heldAddresses))), (r0_draft_bytes_heldValues, .inl (kI, 256, .inl f0_draft_bytes_heldValues)), (r0_colonReader, .inr (1, [.long f0_colonReader_base, .int f0_colonReader_segmented])), (r0_sReader, .inr (4, [.int f0_sReader_dataRecords])), (r0_teller, .inr (5, [.ref r0_teller_told, .int f0_teller_toldLength, .int f0_teller_at, .int f0_teller_writing, .int f0_teller_sum, .long f0_teller_upperHalf])), (r0_teller_told, .inl (kB, 12000, .inl f0_teller_told))] [(r0_typed, .inr (6, [.ref r0_typed_characters, .int f0_typed_length, .int f0_typed_first, .int f0_typed_behind, .int f0_typed_digitsFrom])), (r0_typed_characters, .inl (kB, 8000, .inl f0_typed_characters))] [(r0, .inr (0, [.ref r0_image, .ref r0_typed, .ref r0_draft, .ref r0_colonReader, .ref r0_sReader, .ref r0_teller, .long f0_startAddress, .int f0_faultPlace])), (r0_image, .inr (3, [.ref r0_image_addresses, .ref r0_image_values, .ref r0_image_heldAddresses, .ref r0_image_heldValues, .int f0_image_size])), (r0_image_addresses, .inl (kJ, 3000, .inr (.inl f0_image_addresses))), (r0_image_values, .inl (kI, 3000, .inl f0_image_values)), (r0_image_heldAddresses, .inl (kJ, 256, .inr (.inl f0_image_heldAddresses))), (r0_image_heldValues, .inl (kI, 256, .inl f0_image_heldValues)), (r0_draft, .inr (2, [.ref r0_draft_bytes, .int f0_draft_more, .long f0_draft_start, .int f0_draft_ended])), (r0_draft_bytes, .inr (3, [.ref r0_draft_bytes_addresses, .ref r0_draft_bytes_values, .ref r0_draft_bytes_heldAddresses, .ref r0_draft_bytes_heldValues, .int f0_draft_bytes_size])), (r0_draft_bytes_addresses, .inl (kJ, 3000, .inr (.inl f0_draft_bytes_addresses))), (r0_draft_bytes_values, .inl (kI, 3000, .inl f0_draft_bytes_values)), (r0_draft_bytes_heldAddresses, .inl (kJ, 256, .inr (.inl f0_draft_bytes_heldAddresses))), (r0_draft_bytes_heldValues, .inl (kI, 256, .inl f0_draft_bytes_heldValues)), (r0_colonReader, .inr (1, [.long f0_colonReader_base, .int f0_colonReader_segmented])), (r0_sReader, .inr (4, [.int f0_sReader_dataRecords])), (r0_teller, .inr (5, [.ref r0_teller_told, .int f0_teller_toldLength, .int f0_teller_at, .int f0_teller_writing, .int f0_teller_sum, .long f0_teller_upperHalf])), (r0_teller_told, .inl (kB, 12000, .inl f0_teller_told))] [6, 7] [0, 1, 2, 3, 4, 5, 8, 9, 10, 11, 12, 13, 14, 15, 16, 17] := ⟨rfl, rfl, rfl, rfl, by decide⟩
  refine hx_ci hA V K (hx_rV (As := [.long a1, .int a2]) (rest := []) F hK hZ hA V K hx_jV_Loom_61 (hx_q_Typed_append l D kJ kI kB tC tS H.size r0_typed r0_typed_characters a1 a2 f0_typed_characters f0_typed_length f0_typed_first f0_typed_behind f0_typed_digitsFrom h) rfl rfl ⟨Nat.le_of_ble_eq_true rfl, Nat.le_of_ble_eq_true rfl⟩ (q0 := 6) rfl rfl rfl rfl hl.1 rfl (Nat.le_of_ble_eq_true rfl) hx_d_Loom_type_6 ⟨Nat.le_of_ble_eq_true rfl, Nat.le_of_ble_eq_true rfl⟩) (fun c6 u H locs h V => ?_)
  obtain ⟨f0_typed_characters, f0_typed_length⟩ := u
  have V : hx_V D A s.heap H locs [(r0, .inr (0, [.ref r0_image, .ref r0_typed, .ref r0_draft, .ref r0_colonReader, .ref r0_sReader, .ref r0_teller, .long f0_startAddress, .int f0_faultPlace])), (r0_image, .inr (3, [.ref r0_image_addresses, .ref r0_image_values, .ref r0_image_heldAddresses, .ref r0_image_heldValues, .int f0_image_size])), (r0_image_addresses, .inl (kJ, 3000, .inr (.inl f0_image_addresses))), (r0_image_values, .inl (kI, 3000, .inl f0_image_values)), (r0_image_heldAddresses, .inl (kJ, 256, .inr (.inl f0_image_heldAddresses))), (r0_image_heldValues, .inl (kI, 256, .inl f0_image_heldValues)), (r0_draft, .inr (2, [.ref r0_draft_bytes, .int f0_draft_more, .long f0_draft_start, .int f0_draft_ended])), (r0_draft_bytes, .inr (3, [.ref r0_draft_bytes_addresses, .ref r0_draft_bytes_values, .ref r0_draft_bytes_heldAddresses, .ref r0_draft_bytes_heldValues, .int f0_draft_bytes_size])), (r0_draft_bytes_addresses, .inl (kJ, 3000, .inr (.inl f0_draft_bytes_addresses))), (r0_draft_bytes_values, .inl (kI, 3000, .inl f0_draft_bytes_values)), (r0_draft_bytes_heldAddresses, .inl (kJ, 256, .inr (.inl f0_draft_bytes_heldAddresses))), (r0_draft_bytes_heldValues, .inl (kI, 256, .inl f0_draft_bytes_heldValues)), (r0_colonReader, .inr (1, [.long f0_colonReader_base, .int f0_colonReader_segmented])), (r0_sReader, .inr (4, [.int f0_sReader_dataRecords])), (r0_teller, .inr (5, [.ref r0_teller_told, .int f0_teller_toldLength, .int f0_teller_at, .int f0_teller_writing, .int f0_teller_sum, .long f0_teller_upperHalf])), (r0_teller_told, .inl (kB, 12000, .inl f0_teller_told)), (r0_typed, .inr (6, [.ref r0_typed_characters, .int f0_typed_length, .int f0_typed_first, .int f0_typed_behind, .int f0_typed_digitsFrom])), (r0_typed_characters, .inl (kB, 8000, .inl f0_typed_characters))] := V
  exact hret c6 (f0_typed_characters, f0_typed_length) H locs _ ls hx_d_Loom_type_9 h (V.sub (ws' := [(r0, .inr (0, [.ref r0_image, .ref r0_typed, .ref r0_draft, .ref r0_colonReader, .ref r0_sReader, .ref r0_teller, .long f0_startAddress, .int f0_faultPlace])), (r0_image, .inr (3, [.ref r0_image_addresses, .ref r0_image_values, .ref r0_image_heldAddresses, .ref r0_image_heldValues, .int f0_image_size])), (r0_image_addresses, .inl (kJ, 3000, .inr (.inl f0_image_addresses))), (r0_image_values, .inl (kI, 3000, .inl f0_image_values)), (r0_image_heldAddresses, .inl (kJ, 256, .inr (.inl f0_image_heldAddresses))), (r0_image_heldValues, .inl (kI, 256, .inl f0_image_heldValues)), (r0_typed, .inr (6, [.ref r0_typed_characters, .int f0_typed_length, .int f0_typed_first, .int f0_typed_behind, .int f0_typed_digitsFrom])), (r0_typed_characters, .inl (kB, 8000, .inl f0_typed_characters)), (r0_draft, .inr (2, [.ref r0_draft_bytes, .int f0_draft_more, .long f0_draft_start, .int f0_draft_ended])), (r0_draft_bytes, .inr (3, [.ref r0_draft_bytes_addresses, .ref r0_draft_bytes_values, .ref r0_draft_bytes_heldAddresses, .ref r0_draft_bytes_heldValues, .int f0_draft_bytes_size])), (r0_draft_bytes_addresses, .inl (kJ, 3000, .inr (.inl f0_draft_bytes_addresses))), (r0_draft_bytes_values, .inl (kI, 3000, .inl f0_draft_bytes_values)), (r0_draft_bytes_heldAddresses, .inl (kJ, 256, .inr (.inl f0_draft_bytes_heldAddresses))), (r0_draft_bytes_heldValues, .inl (kI, 256, .inl f0_draft_bytes_heldValues)), (r0_colonReader, .inr (1, [.long f0_colonReader_base, .int f0_colonReader_segmented])), (r0_sReader, .inr (4, [.int f0_sReader_dataRecords])), (r0_teller, .inr (5, [.ref r0_teller_told, .int f0_teller_toldLength, .int f0_teller_at, .int f0_teller_writing, .int f0_teller_sum, .long f0_teller_upperHalf])), (r0_teller_told, .inl (kB, 12000, .inl f0_teller_told))]) [0, 1, 2, 3, 4, 5, 16, 17, 6, 7, 8, 9, 10, 11, 12, 13, 14, 15] rfl rfl)

def hx_v_Image_forget (Q : Int32 → Prop) : Prop :=
  
  Q (0 : Int32)
set_option maxHeartbeats 4000000 in
set_option maxRecDepth 100000 in
theorem hx_q_Image_forget (l : Launch) (D : va_G) (kJ kI kB : ClassId) (tC tS : Nat) (sz : Nat) (r0 r0_addresses r0_values r0_heldAddresses r0_heldValues : Nat) (f0_addresses : Nat → Int64) (f0_values : Nat → Int32) (f0_heldAddresses : Nat → Int64) (f0_heldValues : Nat → Int32) (f0_size : Int32) {Q : Int32 → Prop} (h : hx_v_Image_forget  Q) :
    Met l hx_y_Image_forget (.code hx_y_Image_forget hx_c_Image_forget 1 none :: hx_B) (hx_rm 0 0) (va_Pc [.ref r0] (hx_I D kJ kI kB tC tS [(r0, .inr (3, [.ref r0_addresses, .ref r0_values, .ref r0_heldAddresses, .ref r0_heldValues, .int f0_size])), (r0_addresses, .inl (kJ, 3000, .inr (.inl f0_addresses))), (r0_values, .inl (kI, 3000, .inl f0_values)), (r0_heldAddresses, .inl (kJ, 256, .inr (.inl f0_heldAddresses))), (r0_heldValues, .inl (kI, 256, .inl f0_heldValues))] sz))
      (va_Qv (S := Int32) (fun (u : Int32) => Q u) (fun u t => va_P D vwCl ((fun f0_size => [(r0, .inr (3, [.ref r0_addresses, .ref r0_values, .ref r0_heldAddresses, .ref r0_heldValues, .int f0_size])), (r0_addresses, .inl (kJ, 3000, .inr (.inl f0_addresses))), (r0_values, .inl (kI, 3000, .inl f0_values)), (r0_heldAddresses, .inl (kJ, 256, .inr (.inl f0_heldAddresses))), (r0_heldValues, .inl (kI, 256, .inl f0_heldValues))]) u) t.heap ∧ va_D (va_A [(r0, .inr (3, [.ref r0_addresses, .ref r0_values, .ref r0_heldAddresses, .ref r0_heldValues, .int f0_size])), (r0_addresses, .inl (kJ, 3000, .inr (.inl f0_addresses))), (r0_values, .inl (kI, 3000, .inl f0_values)), (r0_heldAddresses, .inl (kJ, 256, .inr (.inl f0_heldAddresses))), (r0_heldValues, .inl (kI, 256, .inl f0_heldValues))] sz) ((fun f0_size => [(r0, .inr (3, [.ref r0_addresses, .ref r0_values, .ref r0_heldAddresses, .ref r0_heldValues, .int f0_size])), (r0_addresses, .inl (kJ, 3000, .inr (.inl f0_addresses))), (r0_values, .inl (kI, 3000, .inl f0_values)), (r0_heldAddresses, .inl (kJ, 256, .inr (.inl f0_heldAddresses))), (r0_heldValues, .inl (kI, 256, .inl f0_heldValues))]) u)) (va_A [(r0, .inr (3, [.ref r0_addresses, .ref r0_values, .ref r0_heldAddresses, .ref r0_heldValues, .int f0_size])), (r0_addresses, .inl (kJ, 3000, .inr (.inl f0_addresses))), (r0_values, .inl (kI, 3000, .inl f0_values)), (r0_heldAddresses, .inl (kJ, 256, .inr (.inl f0_heldAddresses))), (r0_heldValues, .inl (kI, 256, .inl f0_heldValues))] sz)) 0 0 (va_A [(r0, .inr (3, [.ref r0_addresses, .ref r0_values, .ref r0_heldAddresses, .ref r0_heldValues, .int f0_size])), (r0_addresses, .inl (kJ, 3000, .inr (.inl f0_addresses))), (r0_values, .inl (kI, 3000, .inl f0_values)), (r0_heldAddresses, .inl (kJ, 256, .inr (.inl f0_heldAddresses))), (r0_heldValues, .inl (kI, 256, .inl f0_heldValues))] sz) := by
  refine hx_ofWv (S := Int32) (post := fun (u : Int32) => Q u) (B := fun f0_size => [(r0, .inr (3, [.ref r0_addresses, .ref r0_values, .ref r0_heldAddresses, .ref r0_heldValues, .int f0_size])), (r0_addresses, .inl (kJ, 3000, .inr (.inl f0_addresses))), (r0_values, .inl (kI, 3000, .inl f0_values)), (r0_heldAddresses, .inl (kJ, 256, .inr (.inl f0_heldAddresses))), (r0_heldValues, .inl (kI, 256, .inl f0_heldValues))]) (by decide) (Nat.le_of_ble_eq_true rfl) ?_
  intro p e s m below meth c ls A Qf H locs F hK hZ hA hnm hret hl V
  have hx := F.1
  have hb := F.2.1
  have hl : lv_has ls 1 [(0, .ref r0)] := hl
  unfold hx_v_Image_forget at h
  refine lv_aload_n hx hb hx_d_Image_forget_0 rfl (lv_at hl 0 rfl) ?_
  refine lv_iconst (v := 0) hx hb hx_d_Image_forget_1 (by decide) ?_
  refine hx_put (v := .int (0 : Int32)) (ws' := [(r0, .inr (3, [.ref r0_addresses, .ref r0_values, .ref r0_heldAddresses, .ref r0_heldValues, .int (0 : Int32)])), (r0_addresses, .inl (kJ, 3000, .inr (.inl f0_addresses))), (r0_values, .inl (kI, 3000, .inl f0_values)), (r0_heldAddresses, .inl (kJ, 256, .inr (.inl f0_heldAddresses))), (r0_heldValues, .inl (kI, 256, .inl f0_heldValues))]) F hK V hx_f_Image_25 0 rfl rfl rfl (Nat.le_of_ble_eq_true rfl) rfl hx_d_Image_forget_2 (fun H locs V => ?_)
  exact hret (0 : Int32) H locs _ ls hx_d_Image_forget_5 h V

def hx_v_Draft_restart (Q : Int32 → Int32 → Int64 → Int32 → Prop) : Prop :=
  
  hx_v_Image_forget  (fun f0_bytes_size => Q f0_bytes_size (0 : Int32) (-1 : Int64) (0 : Int32))
set_option maxHeartbeats 4000000 in
set_option maxRecDepth 100000 in
theorem hx_q_Draft_restart (l : Launch) (D : va_G) (kJ kI kB : ClassId) (tC tS : Nat) (sz : Nat) (r0 r0_bytes r0_bytes_addresses r0_bytes_values r0_bytes_heldAddresses r0_bytes_heldValues : Nat) (f0_bytes_addresses : Nat → Int64) (f0_bytes_values : Nat → Int32) (f0_bytes_heldAddresses : Nat → Int64) (f0_bytes_heldValues : Nat → Int32) (f0_bytes_size : Int32) (f0_more : Int32) (f0_start : Int64) (f0_ended : Int32) {Q : Int32 → Int32 → Int64 → Int32 → Prop} (h : hx_v_Draft_restart  Q) :
    Met l hx_y_Draft_restart (.code hx_y_Draft_restart hx_c_Draft_restart 1 none :: hx_B) (hx_rm 1 20) (va_Pc [.ref r0] (hx_I D kJ kI kB tC tS [(r0, .inr (2, [.ref r0_bytes, .int f0_more, .long f0_start, .int f0_ended])), (r0_bytes, .inr (3, [.ref r0_bytes_addresses, .ref r0_bytes_values, .ref r0_bytes_heldAddresses, .ref r0_bytes_heldValues, .int f0_bytes_size])), (r0_bytes_addresses, .inl (kJ, 3000, .inr (.inl f0_bytes_addresses))), (r0_bytes_values, .inl (kI, 3000, .inl f0_bytes_values)), (r0_bytes_heldAddresses, .inl (kJ, 256, .inr (.inl f0_bytes_heldAddresses))), (r0_bytes_heldValues, .inl (kI, 256, .inl f0_bytes_heldValues))] sz))
      (va_Qv (S := Int32 × Int32 × Int64 × Int32) (fun (u : Int32 × Int32 × Int64 × Int32) => match u with | (f0_bytes_size, f0_more, f0_start, f0_ended) => Q f0_bytes_size f0_more f0_start f0_ended) (fun u t => va_P D vwCl ((fun u => match u with | (f0_bytes_size, f0_more, f0_start, f0_ended) => [(r0, .inr (2, [.ref r0_bytes, .int f0_more, .long f0_start, .int f0_ended])), (r0_bytes, .inr (3, [.ref r0_bytes_addresses, .ref r0_bytes_values, .ref r0_bytes_heldAddresses, .ref r0_bytes_heldValues, .int f0_bytes_size])), (r0_bytes_addresses, .inl (kJ, 3000, .inr (.inl f0_bytes_addresses))), (r0_bytes_values, .inl (kI, 3000, .inl f0_bytes_values)), (r0_bytes_heldAddresses, .inl (kJ, 256, .inr (.inl f0_bytes_heldAddresses))), (r0_bytes_heldValues, .inl (kI, 256, .inl f0_bytes_heldValues))]) u) t.heap ∧ va_D (va_A [(r0, .inr (2, [.ref r0_bytes, .int f0_more, .long f0_start, .int f0_ended])), (r0_bytes, .inr (3, [.ref r0_bytes_addresses, .ref r0_bytes_values, .ref r0_bytes_heldAddresses, .ref r0_bytes_heldValues, .int f0_bytes_size])), (r0_bytes_addresses, .inl (kJ, 3000, .inr (.inl f0_bytes_addresses))), (r0_bytes_values, .inl (kI, 3000, .inl f0_bytes_values)), (r0_bytes_heldAddresses, .inl (kJ, 256, .inr (.inl f0_bytes_heldAddresses))), (r0_bytes_heldValues, .inl (kI, 256, .inl f0_bytes_heldValues))] sz) ((fun u => match u with | (f0_bytes_size, f0_more, f0_start, f0_ended) => [(r0, .inr (2, [.ref r0_bytes, .int f0_more, .long f0_start, .int f0_ended])), (r0_bytes, .inr (3, [.ref r0_bytes_addresses, .ref r0_bytes_values, .ref r0_bytes_heldAddresses, .ref r0_bytes_heldValues, .int f0_bytes_size])), (r0_bytes_addresses, .inl (kJ, 3000, .inr (.inl f0_bytes_addresses))), (r0_bytes_values, .inl (kI, 3000, .inl f0_bytes_values)), (r0_bytes_heldAddresses, .inl (kJ, 256, .inr (.inl f0_bytes_heldAddresses))), (r0_bytes_heldValues, .inl (kI, 256, .inl f0_bytes_heldValues))]) u)) (va_A [(r0, .inr (2, [.ref r0_bytes, .int f0_more, .long f0_start, .int f0_ended])), (r0_bytes, .inr (3, [.ref r0_bytes_addresses, .ref r0_bytes_values, .ref r0_bytes_heldAddresses, .ref r0_bytes_heldValues, .int f0_bytes_size])), (r0_bytes_addresses, .inl (kJ, 3000, .inr (.inl f0_bytes_addresses))), (r0_bytes_values, .inl (kI, 3000, .inl f0_bytes_values)), (r0_bytes_heldAddresses, .inl (kJ, 256, .inr (.inl f0_bytes_heldAddresses))), (r0_bytes_heldValues, .inl (kI, 256, .inl f0_bytes_heldValues))] sz)) 0 0 (va_A [(r0, .inr (2, [.ref r0_bytes, .int f0_more, .long f0_start, .int f0_ended])), (r0_bytes, .inr (3, [.ref r0_bytes_addresses, .ref r0_bytes_values, .ref r0_bytes_heldAddresses, .ref r0_bytes_heldValues, .int f0_bytes_size])), (r0_bytes_addresses, .inl (kJ, 3000, .inr (.inl f0_bytes_addresses))), (r0_bytes_values, .inl (kI, 3000, .inl f0_bytes_values)), (r0_bytes_heldAddresses, .inl (kJ, 256, .inr (.inl f0_bytes_heldAddresses))), (r0_bytes_heldValues, .inl (kI, 256, .inl f0_bytes_heldValues))] sz) := by
  refine hx_ofWv (S := Int32 × Int32 × Int64 × Int32) (post := fun (u : Int32 × Int32 × Int64 × Int32) => match u with | (f0_bytes_size, f0_more, f0_start, f0_ended) => Q f0_bytes_size f0_more f0_start f0_ended) (B := fun u => match u with | (f0_bytes_size, f0_more, f0_start, f0_ended) => [(r0, .inr (2, [.ref r0_bytes, .int f0_more, .long f0_start, .int f0_ended])), (r0_bytes, .inr (3, [.ref r0_bytes_addresses, .ref r0_bytes_values, .ref r0_bytes_heldAddresses, .ref r0_bytes_heldValues, .int f0_bytes_size])), (r0_bytes_addresses, .inl (kJ, 3000, .inr (.inl f0_bytes_addresses))), (r0_bytes_values, .inl (kI, 3000, .inl f0_bytes_values)), (r0_bytes_heldAddresses, .inl (kJ, 256, .inr (.inl f0_bytes_heldAddresses))), (r0_bytes_heldValues, .inl (kI, 256, .inl f0_bytes_heldValues))]) (by decide) (Nat.le_of_ble_eq_true rfl) ?_
  intro p e s m below meth c ls A Qf H locs F hK hZ hA hnm hret hl V
  have hx := F.1
  have hb := F.2.1
  have hl : lv_has ls 1 [(0, .ref r0)] := hl
  unfold hx_v_Draft_restart at h
  refine lv_aload_n hx hb hx_d_Draft_restart_0 rfl (lv_at hl 0 rfl) ?_
  refine hx_get (v := .ref r0_bytes) F hK V hx_f_Draft_12 0 rfl rfl hx_d_Draft_restart_1 ?_
  have K : hx_Cut [(r0, .inr (2, [.ref r0_bytes, .int f0_more, .long f0_start, .int f0_ended])), (r0_bytes, .inr (3, [.ref r0_bytes_addresses, .ref r0_bytes_values, .ref r0_bytes_heldAddresses, .ref r0_bytes_heldValues, .int f0_bytes_size])), (r0_bytes_addresses, .inl (kJ, 3000, .inr (.inl f0_bytes_addresses))), (r0_bytes_values, .inl (kI, 3000, .inl f0_bytes_values)), (r0_bytes_heldAddresses, .inl (kJ, 256, .inr (.inl f0_bytes_heldAddresses))), (r0_bytes_heldValues, .inl (kI, 256, .inl f0_bytes_heldValues))] [(r0_bytes, .inr (3, [.ref r0_bytes_addresses, .ref r0_bytes_values, .ref r0_bytes_heldAddresses, .ref r0_bytes_heldValues, .int f0_bytes_size])), (r0_bytes_addresses, .inl (kJ, 3000, .inr (.inl f0_bytes_addresses))), (r0_bytes_values, .inl (kI, 3000, .inl f0_bytes_values)), (r0_bytes_heldAddresses, .inl (kJ, 256, .inr (.inl f0_bytes_heldAddresses))), (r0_bytes_heldValues, .inl (kI, 256, .inl f0_bytes_heldValues))] [(r0, .inr (2, [.ref r0_bytes, .int f0_more, .long f0_start, .int f0_ended]))] [1, 2, 3, 4, 5] [0] := ⟨rfl, rfl, rfl, rfl, by decide⟩
  refine hx_cv hA V K (hx_rV (As := []) (rest := []) F hK hZ hA V K hx_jV_Draft_21 (hx_q_Image_forget l D kJ kI kB tC tS H.size r0_bytes r0_bytes_addresses r0_bytes_values r0_bytes_heldAddresses r0_bytes_heldValues f0_bytes_addresses f0_bytes_values f0_bytes_heldAddresses f0_bytes_heldValues f0_bytes_size h) rfl rfl ⟨Nat.le_of_ble_eq_true rfl, Nat.le_of_ble_eq_true rfl⟩ (q0 := 1) rfl rfl rfl rfl hl.1 rfl (Nat.le_of_ble_eq_true rfl) hx_d_Draft_restart_4 ⟨Nat.le_of_ble_eq_true rfl, Nat.le_of_ble_eq_true rfl⟩) (fun u H locs h V => ?_)
  obtain ⟨f0_bytes_size, rfl⟩ : ∃ z, z = u := ⟨_, rfl⟩
  have V : hx_V D A s.heap H locs [(r0, .inr (2, [.ref r0_bytes, .int f0_more, .long f0_start, .int f0_ended])), (r0_bytes, .inr (3, [.ref r0_bytes_addresses, .ref r0_bytes_values, .ref r0_bytes_heldAddresses, .ref r0_bytes_heldValues, .int f0_bytes_size])), (r0_bytes_addresses, .inl (kJ, 3000, .inr (.inl f0_bytes_addresses))), (r0_bytes_values, .inl (kI, 3000, .inl f0_bytes_values)), (r0_bytes_heldAddresses, .inl (kJ, 256, .inr (.inl f0_bytes_heldAddresses))), (r0_bytes_heldValues, .inl (kI, 256, .inl f0_bytes_heldValues))] := V
  refine lv_aload_n hx hb hx_d_Draft_restart_7 rfl (lv_at hl 0 rfl) ?_
  refine lv_iconst (v := 0) hx hb hx_d_Draft_restart_8 (by decide) ?_
  refine hx_put (v := .int (0 : Int32)) (ws' := [(r0, .inr (2, [.ref r0_bytes, .int (0 : Int32), .long f0_start, .int f0_ended])), (r0_bytes, .inr (3, [.ref r0_bytes_addresses, .ref r0_bytes_values, .ref r0_bytes_heldAddresses, .ref r0_bytes_heldValues, .int f0_bytes_size])), (r0_bytes_addresses, .inl (kJ, 3000, .inr (.inl f0_bytes_addresses))), (r0_bytes_values, .inl (kI, 3000, .inl f0_bytes_values)), (r0_bytes_heldAddresses, .inl (kJ, 256, .inr (.inl f0_bytes_heldAddresses))), (r0_bytes_heldValues, .inl (kI, 256, .inl f0_bytes_heldValues))]) F hK V hx_f_Draft_24 0 rfl rfl rfl (Nat.le_of_ble_eq_true rfl) rfl hx_d_Draft_restart_9 (fun H locs V => ?_)
  refine lv_aload_n hx hb hx_d_Draft_restart_12 rfl (lv_at hl 0 rfl) ?_
  refine lv_ldc2 (v := (-1)) hx hb F.2.2.2.1 (F.2.2.2.2 _ hx_m_87) hx_d_Draft_restart_13 ?_
  refine hx_put (v := .long (-1 : Int64)) (ws' := [(r0, .inr (2, [.ref r0_bytes, .int (0 : Int32), .long (-1 : Int64), .int f0_ended])), (r0_bytes, .inr (3, [.ref r0_bytes_addresses, .ref r0_bytes_values, .ref r0_bytes_heldAddresses, .ref r0_bytes_heldValues, .int f0_bytes_size])), (r0_bytes_addresses, .inl (kJ, 3000, .inr (.inl f0_bytes_addresses))), (r0_bytes_values, .inl (kI, 3000, .inl f0_bytes_values)), (r0_bytes_heldAddresses, .inl (kJ, 256, .inr (.inl f0_bytes_heldAddresses))), (r0_bytes_heldValues, .inl (kI, 256, .inl f0_bytes_heldValues))]) F hK V hx_f_Draft_30 0 rfl rfl rfl (Nat.le_of_ble_eq_true rfl) rfl hx_d_Draft_restart_16 (fun H locs V => ?_)
  refine lv_aload_n hx hb hx_d_Draft_restart_19 rfl (lv_at hl 0 rfl) ?_
  refine lv_iconst (v := 0) hx hb hx_d_Draft_restart_20 (by decide) ?_
  refine hx_put (v := .int (0 : Int32)) (ws' := [(r0, .inr (2, [.ref r0_bytes, .int (0 : Int32), .long (-1 : Int64), .int (0 : Int32)])), (r0_bytes, .inr (3, [.ref r0_bytes_addresses, .ref r0_bytes_values, .ref r0_bytes_heldAddresses, .ref r0_bytes_heldValues, .int f0_bytes_size])), (r0_bytes_addresses, .inl (kJ, 3000, .inr (.inl f0_bytes_addresses))), (r0_bytes_values, .inl (kI, 3000, .inl f0_bytes_values)), (r0_bytes_heldAddresses, .inl (kJ, 256, .inr (.inl f0_bytes_heldAddresses))), (r0_bytes_heldValues, .inl (kI, 256, .inl f0_bytes_heldValues))]) F hK V hx_f_Draft_34 0 rfl rfl rfl (Nat.le_of_ble_eq_true rfl) rfl hx_d_Draft_restart_21 (fun H locs V => ?_)
  exact hret (f0_bytes_size, (0 : Int32), (-1 : Int64), (0 : Int32)) H locs _ ls hx_d_Draft_restart_24 h V

def hx_v_SRead_restart (Q : Int32 → Prop) : Prop :=
  
  Q (0 : Int32)
set_option maxHeartbeats 4000000 in
set_option maxRecDepth 100000 in
theorem hx_q_SRead_restart (l : Launch) (D : va_G) (kJ kI kB : ClassId) (tC tS : Nat) (sz : Nat) (r0 : Nat) (f0_dataRecords : Int32) {Q : Int32 → Prop} (h : hx_v_SRead_restart  Q) :
    Met l hx_y_SRead_restart (.code hx_y_SRead_restart hx_c_SRead_restart 1 none :: hx_B) (hx_rm 0 0) (va_Pc [.ref r0] (hx_I D kJ kI kB tC tS [(r0, .inr (4, [.int f0_dataRecords]))] sz))
      (va_Qv (S := Int32) (fun (u : Int32) => Q u) (fun u t => va_P D vwCl ((fun f0_dataRecords => [(r0, .inr (4, [.int f0_dataRecords]))]) u) t.heap ∧ va_D (va_A [(r0, .inr (4, [.int f0_dataRecords]))] sz) ((fun f0_dataRecords => [(r0, .inr (4, [.int f0_dataRecords]))]) u)) (va_A [(r0, .inr (4, [.int f0_dataRecords]))] sz)) 0 0 (va_A [(r0, .inr (4, [.int f0_dataRecords]))] sz) := by
  refine hx_ofWv (S := Int32) (post := fun (u : Int32) => Q u) (B := fun f0_dataRecords => [(r0, .inr (4, [.int f0_dataRecords]))]) (by decide) (Nat.le_of_ble_eq_true rfl) ?_
  intro p e s m below meth c ls A Qf H locs F hK hZ hA hnm hret hl V
  have hx := F.1
  have hb := F.2.1
  have hl : lv_has ls 1 [(0, .ref r0)] := hl
  unfold hx_v_SRead_restart at h
  refine lv_aload_n hx hb hx_d_SRead_restart_0 rfl (lv_at hl 0 rfl) ?_
  refine lv_iconst (v := 0) hx hb hx_d_SRead_restart_1 (by decide) ?_
  refine hx_put (v := .int (0 : Int32)) (ws' := [(r0, .inr (4, [.int (0 : Int32)]))]) F hK V hx_f_SRead_9 0 rfl rfl rfl (Nat.le_of_ble_eq_true rfl) rfl hx_d_SRead_restart_2 (fun H locs V => ?_)
  exact hret (0 : Int32) H locs _ ls hx_d_SRead_restart_5 h V

def hx_v_Typed_rewind (Q : Int32 → Int32 → Int32 → Prop) : Prop :=
  
  Q (0 : Int32) (0 : Int32) (0 : Int32)
set_option maxHeartbeats 4000000 in
set_option maxRecDepth 100000 in
theorem hx_q_Typed_rewind (l : Launch) (D : va_G) (kJ kI kB : ClassId) (tC tS : Nat) (sz : Nat) (r0 r0_characters : Nat) (f0_characters : Nat → Int32) (f0_length : Int32) (f0_first : Int32) (f0_behind : Int32) (f0_digitsFrom : Int32) {Q : Int32 → Int32 → Int32 → Prop} (h : hx_v_Typed_rewind  Q) :
    Met l hx_y_Typed_rewind (.code hx_y_Typed_rewind hx_c_Typed_rewind 1 none :: hx_B) (hx_rm 0 0) (va_Pc [.ref r0] (hx_I D kJ kI kB tC tS [(r0, .inr (6, [.ref r0_characters, .int f0_length, .int f0_first, .int f0_behind, .int f0_digitsFrom])), (r0_characters, .inl (kB, 8000, .inl f0_characters))] sz))
      (va_Qv (S := Int32 × Int32 × Int32) (fun (u : Int32 × Int32 × Int32) => match u with | (f0_first, f0_behind, f0_digitsFrom) => Q f0_first f0_behind f0_digitsFrom) (fun u t => va_P D vwCl ((fun u => match u with | (f0_first, f0_behind, f0_digitsFrom) => [(r0, .inr (6, [.ref r0_characters, .int f0_length, .int f0_first, .int f0_behind, .int f0_digitsFrom])), (r0_characters, .inl (kB, 8000, .inl f0_characters))]) u) t.heap ∧ va_D (va_A [(r0, .inr (6, [.ref r0_characters, .int f0_length, .int f0_first, .int f0_behind, .int f0_digitsFrom])), (r0_characters, .inl (kB, 8000, .inl f0_characters))] sz) ((fun u => match u with | (f0_first, f0_behind, f0_digitsFrom) => [(r0, .inr (6, [.ref r0_characters, .int f0_length, .int f0_first, .int f0_behind, .int f0_digitsFrom])), (r0_characters, .inl (kB, 8000, .inl f0_characters))]) u)) (va_A [(r0, .inr (6, [.ref r0_characters, .int f0_length, .int f0_first, .int f0_behind, .int f0_digitsFrom])), (r0_characters, .inl (kB, 8000, .inl f0_characters))] sz)) 0 0 (va_A [(r0, .inr (6, [.ref r0_characters, .int f0_length, .int f0_first, .int f0_behind, .int f0_digitsFrom])), (r0_characters, .inl (kB, 8000, .inl f0_characters))] sz) := by
  refine hx_ofWv (S := Int32 × Int32 × Int32) (post := fun (u : Int32 × Int32 × Int32) => match u with | (f0_first, f0_behind, f0_digitsFrom) => Q f0_first f0_behind f0_digitsFrom) (B := fun u => match u with | (f0_first, f0_behind, f0_digitsFrom) => [(r0, .inr (6, [.ref r0_characters, .int f0_length, .int f0_first, .int f0_behind, .int f0_digitsFrom])), (r0_characters, .inl (kB, 8000, .inl f0_characters))]) (by decide) (Nat.le_of_ble_eq_true rfl) ?_
  intro p e s m below meth c ls A Qf H locs F hK hZ hA hnm hret hl V
  have hx := F.1
  have hb := F.2.1
  have hl : lv_has ls 1 [(0, .ref r0)] := hl
  unfold hx_v_Typed_rewind at h
  refine lv_aload_n hx hb hx_d_Typed_rewind_0 rfl (lv_at hl 0 rfl) ?_
  refine lv_iconst (v := 0) hx hb hx_d_Typed_rewind_1 (by decide) ?_
  refine hx_put (v := .int (0 : Int32)) (ws' := [(r0, .inr (6, [.ref r0_characters, .int f0_length, .int (0 : Int32), .int f0_behind, .int f0_digitsFrom])), (r0_characters, .inl (kB, 8000, .inl f0_characters))]) F hK V hx_f_Typed_26 0 rfl rfl rfl (Nat.le_of_ble_eq_true rfl) rfl hx_d_Typed_rewind_2 (fun H locs V => ?_)
  refine lv_aload_n hx hb hx_d_Typed_rewind_5 rfl (lv_at hl 0 rfl) ?_
  refine lv_iconst (v := 0) hx hb hx_d_Typed_rewind_6 (by decide) ?_
  refine hx_put (v := .int (0 : Int32)) (ws' := [(r0, .inr (6, [.ref r0_characters, .int f0_length, .int (0 : Int32), .int (0 : Int32), .int f0_digitsFrom])), (r0_characters, .inl (kB, 8000, .inl f0_characters))]) F hK V hx_f_Typed_29 0 rfl rfl rfl (Nat.le_of_ble_eq_true rfl) rfl hx_d_Typed_rewind_7 (fun H locs V => ?_)
  refine lv_aload_n hx hb hx_d_Typed_rewind_10 rfl (lv_at hl 0 rfl) ?_
  refine lv_iconst (v := 0) hx hb hx_d_Typed_rewind_11 (by decide) ?_
  refine hx_put (v := .int (0 : Int32)) (ws' := [(r0, .inr (6, [.ref r0_characters, .int f0_length, .int (0 : Int32), .int (0 : Int32), .int (0 : Int32)])), (r0_characters, .inl (kB, 8000, .inl f0_characters))]) F hK V hx_f_Typed_32 0 rfl rfl rfl (Nat.le_of_ble_eq_true rfl) rfl hx_d_Typed_rewind_12 (fun H locs V => ?_)
  exact hret ((0 : Int32), (0 : Int32), (0 : Int32)) H locs _ ls hx_d_Typed_rewind_15 h V

def hx_v_Typed_toNextRecord (f0_characters : Nat → Int32) (f0_length : Int32) (f0_behind : Int32) (f0_digitsFrom : Int32) (Q : Int32 → Int32 → Int32 → Int32 → Prop) : Prop :=
  ∀ P8 : Int32 → Int32 → Int32 → Prop, ∀ P46 : Int32 → Int32 → Int32 → Prop, ∀ P54 : Int32 → Int32 → Int32 → Prop, ∀ P92 : Int32 → Int32 → Int32 → Prop, 
  (∀ (f0_first : Int32) (f0_behind : Int32) (f0_digitsFrom : Int32), ((f0_length ≤ f0_first → (P46 f0_first f0_behind f0_digitsFrom)) ∧ ((¬ f0_length ≤ f0_first) → (vp_in f0_first 8000 ∧ ((¬ (f0_characters f0_first.toNatClampNeg) = (32 : Int32)) → (P46 f0_first f0_behind f0_digitsFrom)) ∧ ((f0_characters f0_first.toNatClampNeg) = (32 : Int32) → (P8 (f0_first + (1 : Int32)) f0_behind f0_digitsFrom))))) → P8 f0_first f0_behind f0_digitsFrom) →
  (∀ (f0_first : Int32) (f0_behind : Int32) (f0_digitsFrom : Int32), (P54 f0_first f0_first f0_digitsFrom) → P46 f0_first f0_behind f0_digitsFrom) →
  (∀ (f0_first : Int32) (f0_behind : Int32) (f0_digitsFrom : Int32), ((f0_length ≤ f0_behind → (P92 f0_first f0_behind f0_digitsFrom)) ∧ ((¬ f0_length ≤ f0_behind) → (vp_in f0_behind 8000 ∧ ((f0_characters f0_behind.toNatClampNeg) = (32 : Int32) → (P92 f0_first f0_behind f0_digitsFrom)) ∧ ((¬ (f0_characters f0_behind.toNatClampNeg) = (32 : Int32)) → (P54 f0_first (f0_behind + (1 : Int32)) f0_digitsFrom))))) → P54 f0_first f0_behind f0_digitsFrom) →
  (∀ (f0_first : Int32) (f0_behind : Int32) (f0_digitsFrom : Int32), ((f0_behind ≤ f0_first → (Q (0 : Int32) f0_first f0_behind f0_behind)) ∧ ((¬ f0_behind ≤ f0_first) → (Q (1 : Int32) f0_first f0_behind f0_behind))) → P92 f0_first f0_behind f0_digitsFrom) →
  (P8 f0_behind f0_behind f0_digitsFrom)
set_option maxHeartbeats 4000000 in
set_option maxRecDepth 100000 in
theorem hx_q_Typed_toNextRecord (l : Launch) (D : va_G) (kJ kI kB : ClassId) (tC tS : Nat) (sz : Nat) (r0 r0_characters : Nat) (f0_characters : Nat → Int32) (f0_length : Int32) (f0_first : Int32) (f0_behind : Int32) (f0_digitsFrom : Int32) {Q : Int32 → Int32 → Int32 → Int32 → Prop} (h : hx_v_Typed_toNextRecord f0_characters f0_length f0_behind f0_digitsFrom Q) :
    Met l hx_y_Typed_toNextRecord (.code hx_y_Typed_toNextRecord hx_c_Typed_toNextRecord 1 (some .boolean) :: hx_B) (hx_rm 0 0) (va_Pc [.ref r0] (hx_I D kJ kI kB tC tS [(r0, .inr (6, [.ref r0_characters, .int f0_length, .int f0_first, .int f0_behind, .int f0_digitsFrom])), (r0_characters, .inl (kB, 8000, .inl f0_characters))] sz))
      (va_Qi (S := Int32 × Int32 × Int32) (fun r (u : Int32 × Int32 × Int32) => match u with | (f0_first, f0_behind, f0_digitsFrom) => Q r f0_first f0_behind f0_digitsFrom) (fun u t => va_P D vwCl ((fun u => match u with | (f0_first, f0_behind, f0_digitsFrom) => [(r0, .inr (6, [.ref r0_characters, .int f0_length, .int f0_first, .int f0_behind, .int f0_digitsFrom])), (r0_characters, .inl (kB, 8000, .inl f0_characters))]) u) t.heap ∧ va_D (va_A [(r0, .inr (6, [.ref r0_characters, .int f0_length, .int f0_first, .int f0_behind, .int f0_digitsFrom])), (r0_characters, .inl (kB, 8000, .inl f0_characters))] sz) ((fun u => match u with | (f0_first, f0_behind, f0_digitsFrom) => [(r0, .inr (6, [.ref r0_characters, .int f0_length, .int f0_first, .int f0_behind, .int f0_digitsFrom])), (r0_characters, .inl (kB, 8000, .inl f0_characters))]) u)) (va_A [(r0, .inr (6, [.ref r0_characters, .int f0_length, .int f0_first, .int f0_behind, .int f0_digitsFrom])), (r0_characters, .inl (kB, 8000, .inl f0_characters))] sz)) 0 0 (va_A [(r0, .inr (6, [.ref r0_characters, .int f0_length, .int f0_first, .int f0_behind, .int f0_digitsFrom])), (r0_characters, .inl (kB, 8000, .inl f0_characters))] sz) := by
  refine hx_ofWz (S := Int32 × Int32 × Int32) (post := fun r (u : Int32 × Int32 × Int32) => match u with | (f0_first, f0_behind, f0_digitsFrom) => Q r f0_first f0_behind f0_digitsFrom) (B := fun u => match u with | (f0_first, f0_behind, f0_digitsFrom) => [(r0, .inr (6, [.ref r0_characters, .int f0_length, .int f0_first, .int f0_behind, .int f0_digitsFrom])), (r0_characters, .inl (kB, 8000, .inl f0_characters))]) (by decide) (Nat.le_of_ble_eq_true rfl) ?_
  intro p e s m below meth c ls A Qf H locs F hK hZ hA hret hl V
  have hx := F.1
  have hb := F.2.1
  have hl : lv_has ls 1 [(0, .ref r0)] := hl
  unfold hx_v_Typed_toNextRecord at h
  have h := h (fun (f0_first : Int32) (f0_behind : Int32) (f0_digitsFrom : Int32) => ∀ (ls : Array Slot) (H : Heap) (locs : List Loc), lv_has ls 1 [(0, .ref r0)] → hx_V D A s.heap H locs [(r0, .inr (6, [.ref r0_characters, .int f0_length, .int f0_first, .int f0_behind, .int f0_digitsFrom])), (r0_characters, .inl (kB, 8000, .inl f0_characters))] → W p l e (hx_rm 0 0) s m ([.ref r0] : List Value).toArray below meth c H locs 0 0 Qf (F0 m 8 ls []))
  have h := h (fun (f0_first : Int32) (f0_behind : Int32) (f0_digitsFrom : Int32) => ∀ (ls : Array Slot) (H : Heap) (locs : List Loc), lv_has ls 1 [(0, .ref r0)] → hx_V D A s.heap H locs [(r0, .inr (6, [.ref r0_characters, .int f0_length, .int f0_first, .int f0_behind, .int f0_digitsFrom])), (r0_characters, .inl (kB, 8000, .inl f0_characters))] → W p l e (hx_rm 0 0) s m ([.ref r0] : List Value).toArray below meth c H locs 0 0 Qf (F0 m 46 ls []))
  have h := h (fun (f0_first : Int32) (f0_behind : Int32) (f0_digitsFrom : Int32) => ∀ (ls : Array Slot) (H : Heap) (locs : List Loc), lv_has ls 1 [(0, .ref r0)] → hx_V D A s.heap H locs [(r0, .inr (6, [.ref r0_characters, .int f0_length, .int f0_first, .int f0_behind, .int f0_digitsFrom])), (r0_characters, .inl (kB, 8000, .inl f0_characters))] → W p l e (hx_rm 0 0) s m ([.ref r0] : List Value).toArray below meth c H locs 0 0 Qf (F0 m 54 ls []))
  have h := h (fun (f0_first : Int32) (f0_behind : Int32) (f0_digitsFrom : Int32) => ∀ (ls : Array Slot) (H : Heap) (locs : List Loc), lv_has ls 1 [(0, .ref r0)] → hx_V D A s.heap H locs [(r0, .inr (6, [.ref r0_characters, .int f0_length, .int f0_first, .int f0_behind, .int f0_digitsFrom])), (r0_characters, .inl (kB, 8000, .inl f0_characters))] → W p l e (hx_rm 0 0) s m ([.ref r0] : List Value).toArray below meth c H locs 0 0 Qf (F0 m 92 ls []))
  have h := h (by
    intro f0_first f0_behind f0_digitsFrom h ls H locs hl V
    refine lv_aload_n hx hb hx_d_Typed_toNextRecord_8 rfl (lv_at hl 0 rfl) ?_
    refine hx_get (v := .int f0_first) F hK V hx_f_Typed_26 0 rfl rfl hx_d_Typed_toNextRecord_9 ?_
    refine lv_aload_n hx hb hx_d_Typed_toNextRecord_12 rfl (lv_at hl 0 rfl) ?_
    refine hx_get (v := .int f0_length) F hK V hx_f_Typed_15 0 rfl rfl hx_d_Typed_toNextRecord_13 ?_
    refine lv_icmp_ge (tgt := 46) hx hb hx_d_Typed_toNextRecord_16 rfl (fun b => ?_) (fun b => ?_)
    · have h := h.1 b
      exact h ls H locs (lv_sub hl [0] rfl) V
    · have h := h.2 b
      refine lv_aload_n hx hb hx_d_Typed_toNextRecord_19 rfl (lv_at hl 0 rfl) ?_
      refine hx_get (v := .ref r0_characters) F hK V hx_f_Typed_9 0 rfl rfl hx_d_Typed_toNextRecord_20 ?_
      refine lv_aload_n hx hb hx_d_Typed_toNextRecord_23 rfl (lv_at hl 0 rfl) ?_
      refine hx_get (v := .int f0_first) F hK V hx_f_Typed_26 0 rfl rfl hx_d_Typed_toNextRecord_24 ?_
      refine hx_bald F hK V 1 rfl h.1 hx_d_Typed_toNextRecord_27 ?_
      have h := h.2
      refine lv_bipush (v := 32) hx hb hx_d_Typed_toNextRecord_28 (by decide) ?_
      refine lv_icmp_ne (tgt := 46) hx hb hx_d_Typed_toNextRecord_30 rfl (fun b => ?_) (fun b => ?_)
      · have h := h.1 b
        exact h ls H locs (lv_sub hl [0] rfl) V
      · have h := h.2 b
        refine lv_aload_n hx hb hx_d_Typed_toNextRecord_33 rfl (lv_at hl 0 rfl) ?_
        refine lv_dup hx hb hx_d_Typed_toNextRecord_34 rfl ?_
        refine hx_get (v := .int f0_first) F hK V hx_f_Typed_26 0 rfl rfl hx_d_Typed_toNextRecord_35 ?_
        refine lv_iconst (v := 1) hx hb hx_d_Typed_toNextRecord_38 (by decide) ?_
        refine lv_iadd hx hb hx_d_Typed_toNextRecord_39 ?_
        refine hx_put (v := .int (f0_first + (1 : Int32))) (ws' := [(r0, .inr (6, [.ref r0_characters, .int f0_length, .int (f0_first + (1 : Int32)), .int f0_behind, .int f0_digitsFrom])), (r0_characters, .inl (kB, 8000, .inl f0_characters))]) F hK V hx_f_Typed_26 0 rfl rfl rfl (Nat.le_of_ble_eq_true rfl) rfl hx_d_Typed_toNextRecord_40 (fun H locs V => ?_)
        refine lv_goto (tgt := 8) hx hb hx_d_Typed_toNextRecord_43 rfl ?_
        exact h ls H locs (lv_sub hl [0] rfl) V)
  have h := h (by
    intro f0_first f0_behind f0_digitsFrom h ls H locs hl V
    refine lv_aload_n hx hb hx_d_Typed_toNextRecord_46 rfl (lv_at hl 0 rfl) ?_
    refine lv_aload_n hx hb hx_d_Typed_toNextRecord_47 rfl (lv_at hl 0 rfl) ?_
    refine hx_get (v := .int f0_first) F hK V hx_f_Typed_26 0 rfl rfl hx_d_Typed_toNextRecord_48 ?_
    refine hx_put (v := .int f0_first) (ws' := [(r0, .inr (6, [.ref r0_characters, .int f0_length, .int f0_first, .int f0_first, .int f0_digitsFrom])), (r0_characters, .inl (kB, 8000, .inl f0_characters))]) F hK V hx_f_Typed_29 0 rfl rfl rfl (Nat.le_of_ble_eq_true rfl) rfl hx_d_Typed_toNextRecord_51 (fun H locs V => ?_)
    exact h ls H locs (lv_sub hl [0] rfl) V)
  have h := h (by
    intro f0_first f0_behind f0_digitsFrom h ls H locs hl V
    refine lv_aload_n hx hb hx_d_Typed_toNextRecord_54 rfl (lv_at hl 0 rfl) ?_
    refine hx_get (v := .int f0_behind) F hK V hx_f_Typed_29 0 rfl rfl hx_d_Typed_toNextRecord_55 ?_
    refine lv_aload_n hx hb hx_d_Typed_toNextRecord_58 rfl (lv_at hl 0 rfl) ?_
    refine hx_get (v := .int f0_length) F hK V hx_f_Typed_15 0 rfl rfl hx_d_Typed_toNextRecord_59 ?_
    refine lv_icmp_ge (tgt := 92) hx hb hx_d_Typed_toNextRecord_62 rfl (fun b => ?_) (fun b => ?_)
    · have h := h.1 b
      exact h ls H locs (lv_sub hl [0] rfl) V
    · have h := h.2 b
      refine lv_aload_n hx hb hx_d_Typed_toNextRecord_65 rfl (lv_at hl 0 rfl) ?_
      refine hx_get (v := .ref r0_characters) F hK V hx_f_Typed_9 0 rfl rfl hx_d_Typed_toNextRecord_66 ?_
      refine lv_aload_n hx hb hx_d_Typed_toNextRecord_69 rfl (lv_at hl 0 rfl) ?_
      refine hx_get (v := .int f0_behind) F hK V hx_f_Typed_29 0 rfl rfl hx_d_Typed_toNextRecord_70 ?_
      refine hx_bald F hK V 1 rfl h.1 hx_d_Typed_toNextRecord_73 ?_
      have h := h.2
      refine lv_bipush (v := 32) hx hb hx_d_Typed_toNextRecord_74 (by decide) ?_
      refine lv_icmp_eq (tgt := 92) hx hb hx_d_Typed_toNextRecord_76 rfl (fun b => ?_) (fun b => ?_)
      · have h := h.1 b
        exact h ls H locs (lv_sub hl [0] rfl) V
      · have h := h.2 b
        refine lv_aload_n hx hb hx_d_Typed_toNextRecord_79 rfl (lv_at hl 0 rfl) ?_
        refine lv_dup hx hb hx_d_Typed_toNextRecord_80 rfl ?_
        refine hx_get (v := .int f0_behind) F hK V hx_f_Typed_29 0 rfl rfl hx_d_Typed_toNextRecord_81 ?_
        refine lv_iconst (v := 1) hx hb hx_d_Typed_toNextRecord_84 (by decide) ?_
        refine lv_iadd hx hb hx_d_Typed_toNextRecord_85 ?_
        refine hx_put (v := .int (f0_behind + (1 : Int32))) (ws' := [(r0, .inr (6, [.ref r0_characters, .int f0_length, .int f0_first, .int (f0_behind + (1 : Int32)), .int f0_digitsFrom])), (r0_characters, .inl (kB, 8000, .inl f0_characters))]) F hK V hx_f_Typed_29 0 rfl rfl rfl (Nat.le_of_ble_eq_true rfl) rfl hx_d_Typed_toNextRecord_86 (fun H locs V => ?_)
        refine lv_goto (tgt := 54) hx hb hx_d_Typed_toNextRecord_89 rfl ?_
        exact h ls H locs (lv_sub hl [0] rfl) V)
  have h := h (by
    intro f0_first f0_behind f0_digitsFrom h ls H locs hl V
    refine lv_aload_n hx hb hx_d_Typed_toNextRecord_92 rfl (lv_at hl 0 rfl) ?_
    refine lv_aload_n hx hb hx_d_Typed_toNextRecord_93 rfl (lv_at hl 0 rfl) ?_
    refine hx_get (v := .int f0_behind) F hK V hx_f_Typed_29 0 rfl rfl hx_d_Typed_toNextRecord_94 ?_
    refine hx_put (v := .int f0_behind) (ws' := [(r0, .inr (6, [.ref r0_characters, .int f0_length, .int f0_first, .int f0_behind, .int f0_behind])), (r0_characters, .inl (kB, 8000, .inl f0_characters))]) F hK V hx_f_Typed_32 0 rfl rfl rfl (Nat.le_of_ble_eq_true rfl) rfl hx_d_Typed_toNextRecord_97 (fun H locs V => ?_)
    refine lv_aload_n hx hb hx_d_Typed_toNextRecord_100 rfl (lv_at hl 0 rfl) ?_
    refine hx_get (v := .int f0_first) F hK V hx_f_Typed_26 0 rfl rfl hx_d_Typed_toNextRecord_101 ?_
    refine lv_aload_n hx hb hx_d_Typed_toNextRecord_104 rfl (lv_at hl 0 rfl) ?_
    refine hx_get (v := .int f0_behind) F hK V hx_f_Typed_29 0 rfl rfl hx_d_Typed_toNextRecord_105 ?_
    refine lv_icmp_ge (tgt := 115) hx hb hx_d_Typed_toNextRecord_108 rfl (fun b => ?_) (fun b => ?_)
    · have h := h.1 b
      refine lv_iconst (v := 0) hx hb hx_d_Typed_toNextRecord_115 (by decide) ?_
      exact hret (0 : Int32) (f0_first, f0_behind, f0_behind) H locs _ ls rfl hx_d_Typed_toNextRecord_116 h V
    · have h := h.2 b
      refine lv_iconst (v := 1) hx hb hx_d_Typed_toNextRecord_111 (by decide) ?_
      refine lv_goto (tgt := 116) hx hb hx_d_Typed_toNextRecord_112 rfl ?_
      exact hret (1 : Int32) (f0_first, f0_behind, f0_behind) H locs _ ls rfl hx_d_Typed_toNextRecord_116 h V)
  refine lv_aload_n hx hb hx_d_Typed_toNextRecord_0 rfl (lv_at hl 0 rfl) ?_
  refine lv_aload_n hx hb hx_d_Typed_toNextRecord_1 rfl (lv_at hl 0 rfl) ?_
  refine hx_get (v := .int f0_behind) F hK V hx_f_Typed_29 0 rfl rfl hx_d_Typed_toNextRecord_2 ?_
  refine hx_put (v := .int f0_behind) (ws' := [(r0, .inr (6, [.ref r0_characters, .int f0_length, .int f0_behind, .int f0_behind, .int f0_digitsFrom])), (r0_characters, .inl (kB, 8000, .inl f0_characters))]) F hK V hx_f_Typed_26 0 rfl rfl rfl (Nat.le_of_ble_eq_true rfl) rfl hx_d_Typed_toNextRecord_5 (fun H locs V => ?_)
  exact h ls H locs (lv_sub hl [0] rfl) V
