def hx_v_Colon_restart (Q : Int64 → Int32 → Prop) : Prop :=
  
  Q (0 : Int64) (0 : Int32)
set_option maxHeartbeats 4000000 in
set_option maxRecDepth 100000 in
theorem hx_q_Colon_restart (l : Launch) (D : va_G) (kJ kI kB : ClassId) (tC tS : Nat) (sz : Nat) (r0 : Nat) (f0_base : Int64) (f0_segmented : Int32) {Q : Int64 → Int32 → Prop} (h : hx_v_Colon_restart  Q) :
    Met l hx_y_Colon_restart (.code hx_y_Colon_restart hx_c_Colon_restart 1 none :: hx_B) (hx_rm 0 0) (va_Pc [.ref r0] (hx_I D kJ kI kB tC tS [(r0, .inr (1, [.long f0_base, .int f0_segmented]))] sz))
      (va_Qv (S := Int64 × Int32) (fun (u : Int64 × Int32) => match u with | (f0_base, f0_segmented) => Q f0_base f0_segmented) (fun u t => va_P D vwCl ((fun u => match u with | (f0_base, f0_segmented) => [(r0, .inr (1, [.long f0_base, .int f0_segmented]))]) u) t.heap ∧ va_D (va_A [(r0, .inr (1, [.long f0_base, .int f0_segmented]))] sz) ((fun u => match u with | (f0_base, f0_segmented) => [(r0, .inr (1, [.long f0_base, .int f0_segmented]))]) u)) (va_A [(r0, .inr (1, [.long f0_base, .int f0_segmented]))] sz)) 0 0 (va_A [(r0, .inr (1, [.long f0_base, .int f0_segmented]))] sz) := by
  refine hx_ofWv (S := Int64 × Int32) (post := fun (u : Int64 × Int32) => match u with | (f0_base, f0_segmented) => Q f0_base f0_segmented) (B := fun u => match u with | (f0_base, f0_segmented) => [(r0, .inr (1, [.long f0_base, .int f0_segmented]))]) (by decide) (Nat.le_of_ble_eq_true rfl) ?_
  intro p e s m below meth c ls A Qf H locs F hK hZ hA hnm hret hl V
  have hx := F.1
  have hb := F.2.1
  have hl : lv_has ls 1 [(0, .ref r0)] := hl
  unfold hx_v_Colon_restart at h
  refine lv_aload_n hx hb hx_d_Colon_restart_0 rfl (lv_at hl 0 rfl) ?_
  refine lv_lconst (v := 0) hx hb hx_d_Colon_restart_1 (by decide) ?_
  refine hx_put (v := .long (0 : Int64)) (ws' := [(r0, .inr (1, [.long (0 : Int64), .int f0_segmented]))]) F hK V hx_f_Colon_9 0 rfl rfl rfl (Nat.le_of_ble_eq_true rfl) rfl hx_d_Colon_restart_2 (fun H locs V => ?_)
  refine lv_aload_n hx hb hx_d_Colon_restart_5 rfl (lv_at hl 0 rfl) ?_
  refine lv_iconst (v := 0) hx hb hx_d_Colon_restart_6 (by decide) ?_
  refine hx_put (v := .int (0 : Int32)) (ws' := [(r0, .inr (1, [.long (0 : Int64), .int (0 : Int32)]))]) F hK V hx_f_Colon_15 0 rfl rfl rfl (Nat.le_of_ble_eq_true rfl) rfl hx_d_Colon_restart_7 (fun H locs V => ?_)
  exact hret ((0 : Int64), (0 : Int32)) H locs _ ls hx_d_Colon_restart_10 h V

def hx_v_Colon_typeHas (a1 : Int32) (a2 : Int32) (Q : Int32 → Prop) : Prop :=
  
  (a1 < (0 : Int32) → (Q (0 : Int32))) ∧ ((¬ a1 < (0 : Int32)) → ((a1 < (6 : Int32) → (vp_in a1 6 ∧ ((hx_iC a1.toNatClampNeg) < (0 : Int32) → (Q (1 : Int32))) ∧ ((¬ (hx_iC a1.toNatClampNeg) < (0 : Int32)) → (vp_in a1 6 ∧ ((¬ (hx_iC a1.toNatClampNeg) = a2) → (Q (0 : Int32))) ∧ ((hx_iC a1.toNatClampNeg) = a2 → (Q (1 : Int32))))))) ∧ ((¬ a1 < (6 : Int32)) → (Q (0 : Int32)))))
set_option maxHeartbeats 4000000 in
set_option maxRecDepth 100000 in
theorem hx_q_Colon_typeHas (l : Launch) (D : va_G) (kJ kI kB : ClassId) (tC tS : Nat) (sz : Nat) (a1 : Int32) (a2 : Int32) {Q : Int32 → Prop} (h : hx_v_Colon_typeHas a1 a2 Q) :
    Met l hx_y_Colon_typeHas (.code hx_y_Colon_typeHas hx_c_Colon_typeHas 2 (some .boolean) :: hx_B) (hx_rm 0 0) (va_Pc [.int a1, .int a2] (hx_I D kJ kI kB tC tS [] sz))
      (va_Qi (S := Unit) (fun r _ => Q r) (fun u t => va_P D vwCl ((fun _ => []) u) t.heap ∧ va_D (va_A [] sz) ((fun _ => []) u)) (va_A [] sz)) 0 0 (va_A [] sz) := by
  refine hx_ofWz (S := Unit) (post := fun r _ => Q r) (B := fun _ => []) (by decide) (Nat.le_of_ble_eq_true rfl) ?_
  intro p e s m below meth c ls A Qf H locs F hK hZ hA hret hl V
  have hx := F.1
  have hb := F.2.1
  have hl : lv_has ls 2 [(0, .int a1), (1, .int a2)] := hl
  unfold hx_v_Colon_typeHas at h
  refine lv_iload_n hx hb hx_d_Colon_typeHas_0 rfl (lv_at hl 0 rfl) ?_
  refine lv_if_lt (tgt := 12) hx hb hx_d_Colon_typeHas_1 rfl (fun b => ?_) (fun b => ?_)
  · have h := h.1 b
    refine lv_iconst (v := 0) hx hb hx_d_Colon_typeHas_12 (by decide) ?_
    exact hret (0 : Int32) () H locs _ ls rfl hx_d_Colon_typeHas_13 h V
  · have h := h.2 b
    refine lv_iload_n hx hb hx_d_Colon_typeHas_4 rfl (lv_at hl 0 rfl) ?_
    refine va_gets hx hb hZ.1.1 V.2.2 F.2.2.2.1 (F.2.2.2.2 _ hx_m_262) (fun _ h => h) hx_d_Colon_typeHas_5 ?_
    refine va_tlen (v := 6) hx hb hZ.1.2 V.2.2 rfl hx_d_Colon_typeHas_8 ?_
    refine lv_icmp_lt (tgt := 14) hx hb hx_d_Colon_typeHas_9 rfl (fun b => ?_) (fun b => ?_)
    · have h := h.1 b
      refine va_gets hx hb hZ.1.1 V.2.2 F.2.2.2.1 (F.2.2.2.2 _ hx_m_262) (fun _ h => h) hx_d_Colon_typeHas_14 ?_
      refine lv_iload_n hx hb hx_d_Colon_typeHas_17 rfl (lv_at hl 0 rfl) ?_
      refine va_ti (v := .int (hx_iC a1.toNatClampNeg)) hx hb hZ.1.2 V.2.2 h.1 rfl hx_d_Colon_typeHas_18 ?_
      have h := h.2
      refine lv_if_lt (tgt := 31) hx hb hx_d_Colon_typeHas_19 rfl (fun b => ?_) (fun b => ?_)
      · have h := h.1 b
        refine lv_iconst (v := 1) hx hb hx_d_Colon_typeHas_31 (by decide) ?_
        refine lv_goto (tgt := 36) hx hb hx_d_Colon_typeHas_32 rfl ?_
        exact hret (1 : Int32) () H locs _ ls rfl hx_d_Colon_typeHas_36 h V
      · have h := h.2 b
        refine va_gets hx hb hZ.1.1 V.2.2 F.2.2.2.1 (F.2.2.2.2 _ hx_m_262) (fun _ h => h) hx_d_Colon_typeHas_22 ?_
        refine lv_iload_n hx hb hx_d_Colon_typeHas_25 rfl (lv_at hl 0 rfl) ?_
        refine va_ti (v := .int (hx_iC a1.toNatClampNeg)) hx hb hZ.1.2 V.2.2 h.1 rfl hx_d_Colon_typeHas_26 ?_
        have h := h.2
        refine lv_iload_n hx hb hx_d_Colon_typeHas_27 rfl (lv_at hl 1 rfl) ?_
        refine lv_icmp_ne (tgt := 35) hx hb hx_d_Colon_typeHas_28 rfl (fun b => ?_) (fun b => ?_)
        · have h := h.1 b
          refine lv_iconst (v := 0) hx hb hx_d_Colon_typeHas_35 (by decide) ?_
          exact hret (0 : Int32) () H locs _ ls rfl hx_d_Colon_typeHas_36 h V
        · have h := h.2 b
          refine lv_iconst (v := 1) hx hb hx_d_Colon_typeHas_31 (by decide) ?_
          refine lv_goto (tgt := 36) hx hb hx_d_Colon_typeHas_32 rfl ?_
          exact hret (1 : Int32) () H locs _ ls rfl hx_d_Colon_typeHas_36 h V
    · have h := h.2 b
      refine lv_iconst (v := 0) hx hb hx_d_Colon_typeHas_12 (by decide) ?_
      exact hret (0 : Int32) () H locs _ ls rfl hx_d_Colon_typeHas_13 h V

def hx_v_Colon_faultOfForm (f1_characters : Nat → Int32) (f1_first : Int32) (f1_behind : Int32) (f1_digitsFrom : Int32) (Q : Int32 → Int32 → Prop) : Prop :=
  
  hx_v_Typed_beginsWith (58 : Int32) f1_characters f1_first f1_behind (fun c3 => ((¬ c3 = (0 : Int32)) → (hx_v_Typed_takeBytesFrom (1 : Int32) f1_characters f1_first f1_behind (fun c13 f1_digitsFrom => ((¬ c13 = (0 : Int32)) → (hx_v_Typed_bytes f1_first f1_behind f1_digitsFrom (fun c22 => hx_v_Typed_hasHalfByte f1_first f1_behind f1_digitsFrom (fun c27 => ((¬ c27 = (0 : Int32)) → (Q (3 : Int32) f1_digitsFrom)) ∧ (c27 = (0 : Int32) → ((c22 < (5 : Int32) → (Q (3 : Int32) f1_digitsFrom)) ∧ ((¬ c22 < (5 : Int32)) → (hx_v_Typed_byteAt (0 : Int32) f1_characters f1_first f1_behind f1_digitsFrom (fun c41 => (c22 = (c41 + (5 : Int32)) → (hx_v_Typed_byteAt (3 : Int32) f1_characters f1_first f1_behind f1_digitsFrom (fun c53 => hx_v_Typed_byteAt (0 : Int32) f1_characters f1_first f1_behind f1_digitsFrom (fun c58 => hx_v_Colon_typeHas c53 c58 (fun c61 => ((¬ c61 = (0 : Int32)) → (hx_v_Typed_sumOfBytes f1_characters f1_first f1_behind f1_digitsFrom (fun c70 => ((¬ c70 = (0 : Int32)) → (Q (5 : Int32) f1_digitsFrom)) ∧ (c70 = (0 : Int32) → (Q (0 : Int32) f1_digitsFrom))))) ∧ (c61 = (0 : Int32) → (Q (4 : Int32) f1_digitsFrom))))))) ∧ ((¬ c22 = (c41 + (5 : Int32))) → (Q (3 : Int32) f1_digitsFrom))))))))))) ∧ (c13 = (0 : Int32) → (Q (2 : Int32) f1_digitsFrom))))) ∧ (c3 = (0 : Int32) → (Q (1 : Int32) f1_digitsFrom)))
set_option maxHeartbeats 4000000 in
set_option maxRecDepth 100000 in
theorem hx_q_Colon_faultOfForm (l : Launch) (D : va_G) (kJ kI kB : ClassId) (tC tS : Nat) (sz : Nat) (r1 r1_characters : Nat) (f1_characters : Nat → Int32) (f1_length : Int32) (f1_first : Int32) (f1_behind : Int32) (f1_digitsFrom : Int32) {Q : Int32 → Int32 → Prop} (h : hx_v_Colon_faultOfForm f1_characters f1_first f1_behind f1_digitsFrom Q) :
    Met l hx_y_Colon_faultOfForm (.code hx_y_Colon_faultOfForm hx_c_Colon_faultOfForm 2 (some .int) :: hx_B) (hx_rm 3 67) (va_Pc [.ref r1] (hx_I D kJ kI kB tC tS [(r1, .inr (6, [.ref r1_characters, .int f1_length, .int f1_first, .int f1_behind, .int f1_digitsFrom])), (r1_characters, .inl (kB, 8000, .inl f1_characters))] sz))
      (va_Qi (S := Int32) (fun r (u : Int32) => Q r u) (fun u t => va_P D vwCl ((fun f1_digitsFrom => [(r1, .inr (6, [.ref r1_characters, .int f1_length, .int f1_first, .int f1_behind, .int f1_digitsFrom])), (r1_characters, .inl (kB, 8000, .inl f1_characters))]) u) t.heap ∧ va_D (va_A [(r1, .inr (6, [.ref r1_characters, .int f1_length, .int f1_first, .int f1_behind, .int f1_digitsFrom])), (r1_characters, .inl (kB, 8000, .inl f1_characters))] sz) ((fun f1_digitsFrom => [(r1, .inr (6, [.ref r1_characters, .int f1_length, .int f1_first, .int f1_behind, .int f1_digitsFrom])), (r1_characters, .inl (kB, 8000, .inl f1_characters))]) u)) (va_A [(r1, .inr (6, [.ref r1_characters, .int f1_length, .int f1_first, .int f1_behind, .int f1_digitsFrom])), (r1_characters, .inl (kB, 8000, .inl f1_characters))] sz)) 0 0 (va_A [(r1, .inr (6, [.ref r1_characters, .int f1_length, .int f1_first, .int f1_behind, .int f1_digitsFrom])), (r1_characters, .inl (kB, 8000, .inl f1_characters))] sz) := by
  refine hx_ofWi (S := Int32) (post := fun r (u : Int32) => Q r u) (B := fun f1_digitsFrom => [(r1, .inr (6, [.ref r1_characters, .int f1_length, .int f1_first, .int f1_behind, .int f1_digitsFrom])), (r1_characters, .inl (kB, 8000, .inl f1_characters))]) (by decide) (Nat.le_of_ble_eq_true rfl) ?_
  intro p e s m below meth c ls A Qf H locs F hK hZ hA hret hl V
  have hx := F.1
  have hb := F.2.1
  have hl : lv_has ls 2 [(0, .ref r1)] := hl
  unfold hx_v_Colon_faultOfForm at h
  refine lv_aload_n hx hb hx_d_Colon_faultOfForm_0 rfl (lv_at hl 0 rfl) ?_
  refine lv_bipush (v := 58) hx hb hx_d_Colon_faultOfForm_1 (by decide) ?_
  have K : hx_Cut [(r1, .inr (6, [.ref r1_characters, .int f1_length, .int f1_first, .int f1_behind, .int f1_digitsFrom])), (r1_characters, .inl (kB, 8000, .inl f1_characters))] [(r1, .inr (6, [.ref r1_characters, .int f1_length, .int f1_first, .int f1_behind, .int f1_digitsFrom])), (r1_characters, .inl (kB, 8000, .inl f1_characters))] [] [0, 1] [] := ⟨rfl, rfl, rfl, rfl, by decide⟩
  refine hx_ci hA V K (hx_rV (As := [.int 58]) (rest := []) F hK hZ hA V K hx_jV_Colon_46 (hx_q_Typed_beginsWith l D kJ kI kB tC tS H.size r1 r1_characters (58 : Int32) f1_characters f1_length f1_first f1_behind f1_digitsFrom h) rfl rfl ⟨Nat.le_of_ble_eq_true rfl, Nat.le_of_ble_eq_true rfl⟩ (q0 := 0) rfl rfl rfl rfl hl.1 rfl (Nat.le_of_ble_eq_true rfl) hx_d_Colon_faultOfForm_3 ⟨Nat.le_of_ble_eq_true rfl, Nat.le_of_ble_eq_true rfl⟩) (fun c3 u H locs h V => ?_)
  have V : hx_V D A s.heap H locs [(r1, .inr (6, [.ref r1_characters, .int f1_length, .int f1_first, .int f1_behind, .int f1_digitsFrom])), (r1_characters, .inl (kB, 8000, .inl f1_characters))] := V
  refine lv_if_ne (tgt := 11) hx hb hx_d_Colon_faultOfForm_6 rfl (fun b => ?_) (fun b => ?_)
  · have h := h.1 b
    refine lv_aload_n hx hb hx_d_Colon_faultOfForm_11 rfl (lv_at hl 0 rfl) ?_
    refine lv_iconst (v := 1) hx hb hx_d_Colon_faultOfForm_12 (by decide) ?_
    have K : hx_Cut [(r1, .inr (6, [.ref r1_characters, .int f1_length, .int f1_first, .int f1_behind, .int f1_digitsFrom])), (r1_characters, .inl (kB, 8000, .inl f1_characters))] [(r1, .inr (6, [.ref r1_characters, .int f1_length, .int f1_first, .int f1_behind, .int f1_digitsFrom])), (r1_characters, .inl (kB, 8000, .inl f1_characters))] [] [0, 1] [] := ⟨rfl, rfl, rfl, rfl, by decide⟩
    refine hx_ci hA V K (hx_rV (As := [.int 1]) (rest := []) F hK hZ hA V K hx_jV_Colon_50 (hx_q_Typed_takeBytesFrom l D kJ kI kB tC tS H.size r1 r1_characters (1 : Int32) f1_characters f1_length f1_first f1_behind f1_digitsFrom h) rfl rfl ⟨Nat.le_of_ble_eq_true rfl, Nat.le_of_ble_eq_true rfl⟩ (q0 := 0) rfl rfl rfl rfl hl.1 rfl (Nat.le_of_ble_eq_true rfl) hx_d_Colon_faultOfForm_13 ⟨Nat.le_of_ble_eq_true rfl, Nat.le_of_ble_eq_true rfl⟩) (fun c13 u H locs h V => ?_)
    obtain ⟨f1_digitsFrom, rfl⟩ : ∃ z, z = u := ⟨_, rfl⟩
    have V : hx_V D A s.heap H locs [(r1, .inr (6, [.ref r1_characters, .int f1_length, .int f1_first, .int f1_behind, .int f1_digitsFrom])), (r1_characters, .inl (kB, 8000, .inl f1_characters))] := V
    refine lv_if_ne (tgt := 21) hx hb hx_d_Colon_faultOfForm_16 rfl (fun b => ?_) (fun b => ?_)
    · have h := h.1 b
      refine lv_aload_n hx hb hx_d_Colon_faultOfForm_21 rfl (lv_at hl 0 rfl) ?_
      have K : hx_Cut [(r1, .inr (6, [.ref r1_characters, .int f1_length, .int f1_first, .int f1_behind, .int f1_digitsFrom])), (r1_characters, .inl (kB, 8000, .inl f1_characters))] [(r1, .inr (6, [.ref r1_characters, .int f1_length, .int f1_first, .int f1_behind, .int f1_digitsFrom])), (r1_characters, .inl (kB, 8000, .inl f1_characters))] [] [0, 1] [] := ⟨rfl, rfl, rfl, rfl, by decide⟩
      refine hx_ci hA V K (hx_rV (As := []) (rest := []) F hK hZ hA V K hx_jV_Colon_54 (hx_q_Typed_bytes l D kJ kI kB tC tS H.size r1 r1_characters f1_characters f1_length f1_first f1_behind f1_digitsFrom h) rfl rfl ⟨Nat.le_of_ble_eq_true rfl, Nat.le_of_ble_eq_true rfl⟩ (q0 := 0) rfl rfl rfl rfl hl.1 rfl (Nat.le_of_ble_eq_true rfl) hx_d_Colon_faultOfForm_22 ⟨Nat.le_of_ble_eq_true rfl, Nat.le_of_ble_eq_true rfl⟩) (fun c22 u H locs h V => ?_)
      have V : hx_V D A s.heap H locs [(r1, .inr (6, [.ref r1_characters, .int f1_length, .int f1_first, .int f1_behind, .int f1_digitsFrom])), (r1_characters, .inl (kB, 8000, .inl f1_characters))] := V
      refine lv_istore_n (lv' := [(1, .int c22), (0, .ref r1)]) hx hb hx_d_Colon_faultOfForm_25 rfl hl (Nat.le_of_ble_eq_true rfl) rfl (fun ls hl => ?_)
      refine lv_aload_n hx hb hx_d_Colon_faultOfForm_26 rfl (lv_at hl 1 rfl) ?_
      have K : hx_Cut [(r1, .inr (6, [.ref r1_characters, .int f1_length, .int f1_first, .int f1_behind, .int f1_digitsFrom])), (r1_characters, .inl (kB, 8000, .inl f1_characters))] [(r1, .inr (6, [.ref r1_characters, .int f1_length, .int f1_first, .int f1_behind, .int f1_digitsFrom])), (r1_characters, .inl (kB, 8000, .inl f1_characters))] [] [0, 1] [] := ⟨rfl, rfl, rfl, rfl, by decide⟩
      refine hx_ci hA V K (hx_rV (As := []) (rest := []) F hK hZ hA V K hx_jV_Colon_58 (hx_q_Typed_hasHalfByte l D kJ kI kB tC tS H.size r1 r1_characters f1_characters f1_length f1_first f1_behind f1_digitsFrom h) rfl rfl ⟨Nat.le_of_ble_eq_true rfl, Nat.le_of_ble_eq_true rfl⟩ (q0 := 0) rfl rfl rfl rfl hl.1 rfl (Nat.le_of_ble_eq_true rfl) hx_d_Colon_faultOfForm_27 ⟨Nat.le_of_ble_eq_true rfl, Nat.le_of_ble_eq_true rfl⟩) (fun c27 u H locs h V => ?_)
      have V : hx_V D A s.heap H locs [(r1, .inr (6, [.ref r1_characters, .int f1_length, .int f1_first, .int f1_behind, .int f1_digitsFrom])), (r1_characters, .inl (kB, 8000, .inl f1_characters))] := V
      refine lv_if_ne (tgt := 49) hx hb hx_d_Colon_faultOfForm_30 rfl (fun b => ?_) (fun b => ?_)
      · have h := h.1 b
        refine lv_iconst (v := 3) hx hb hx_d_Colon_faultOfForm_49 (by decide) ?_
        exact hret (3 : Int32) f1_digitsFrom H locs _ ls hx_d_Colon_faultOfForm_50 h V
      · have h := h.2 b
        refine lv_iload_n hx hb hx_d_Colon_faultOfForm_33 rfl (lv_at hl 0 rfl) ?_
        refine lv_iconst (v := 5) hx hb hx_d_Colon_faultOfForm_34 (by decide) ?_
        refine lv_icmp_lt (tgt := 49) hx hb hx_d_Colon_faultOfForm_35 rfl (fun b => ?_) (fun b => ?_)
        · have h := h.1 b
          refine lv_iconst (v := 3) hx hb hx_d_Colon_faultOfForm_49 (by decide) ?_
          exact hret (3 : Int32) f1_digitsFrom H locs _ ls hx_d_Colon_faultOfForm_50 h V
        · have h := h.2 b
          refine lv_iload_n hx hb hx_d_Colon_faultOfForm_38 rfl (lv_at hl 0 rfl) ?_
          refine lv_aload_n hx hb hx_d_Colon_faultOfForm_39 rfl (lv_at hl 1 rfl) ?_
          refine lv_iconst (v := 0) hx hb hx_d_Colon_faultOfForm_40 (by decide) ?_
          have K : hx_Cut [(r1, .inr (6, [.ref r1_characters, .int f1_length, .int f1_first, .int f1_behind, .int f1_digitsFrom])), (r1_characters, .inl (kB, 8000, .inl f1_characters))] [(r1, .inr (6, [.ref r1_characters, .int f1_length, .int f1_first, .int f1_behind, .int f1_digitsFrom])), (r1_characters, .inl (kB, 8000, .inl f1_characters))] [] [0, 1] [] := ⟨rfl, rfl, rfl, rfl, by decide⟩
          refine hx_ci hA V K (hx_rV (As := [.int 0]) (rest := [.int c22]) F hK hZ hA V K hx_jV_Colon_28 (hx_q_Typed_byteAt l D kJ kI kB tC tS H.size r1 r1_characters (0 : Int32) f1_characters f1_length f1_first f1_behind f1_digitsFrom h) rfl rfl ⟨Nat.le_of_ble_eq_true rfl, Nat.le_of_ble_eq_true rfl⟩ (q0 := 0) rfl rfl rfl rfl hl.1 rfl (Nat.le_of_ble_eq_true rfl) hx_d_Colon_faultOfForm_41 ⟨Nat.le_of_ble_eq_true rfl, Nat.le_of_ble_eq_true rfl⟩) (fun c41 u H locs h V => ?_)
          have V : hx_V D A s.heap H locs [(r1, .inr (6, [.ref r1_characters, .int f1_length, .int f1_first, .int f1_behind, .int f1_digitsFrom])), (r1_characters, .inl (kB, 8000, .inl f1_characters))] := V
          refine lv_iconst (v := 5) hx hb hx_d_Colon_faultOfForm_44 (by decide) ?_
          refine lv_iadd hx hb hx_d_Colon_faultOfForm_45 ?_
          refine lv_icmp_eq (tgt := 51) hx hb hx_d_Colon_faultOfForm_46 rfl (fun b => ?_) (fun b => ?_)
          · have h := h.1 b
            refine lv_aload_n hx hb hx_d_Colon_faultOfForm_51 rfl (lv_at hl 1 rfl) ?_
            refine lv_iconst (v := 3) hx hb hx_d_Colon_faultOfForm_52 (by decide) ?_
            have K : hx_Cut [(r1, .inr (6, [.ref r1_characters, .int f1_length, .int f1_first, .int f1_behind, .int f1_digitsFrom])), (r1_characters, .inl (kB, 8000, .inl f1_characters))] [(r1, .inr (6, [.ref r1_characters, .int f1_length, .int f1_first, .int f1_behind, .int f1_digitsFrom])), (r1_characters, .inl (kB, 8000, .inl f1_characters))] [] [0, 1] [] := ⟨rfl, rfl, rfl, rfl, by decide⟩
            refine hx_ci hA V K (hx_rV (As := [.int 3]) (rest := []) F hK hZ hA V K hx_jV_Colon_28 (hx_q_Typed_byteAt l D kJ kI kB tC tS H.size r1 r1_characters (3 : Int32) f1_characters f1_length f1_first f1_behind f1_digitsFrom h) rfl rfl ⟨Nat.le_of_ble_eq_true rfl, Nat.le_of_ble_eq_true rfl⟩ (q0 := 0) rfl rfl rfl rfl hl.1 rfl (Nat.le_of_ble_eq_true rfl) hx_d_Colon_faultOfForm_53 ⟨Nat.le_of_ble_eq_true rfl, Nat.le_of_ble_eq_true rfl⟩) (fun c53 u H locs h V => ?_)
            have V : hx_V D A s.heap H locs [(r1, .inr (6, [.ref r1_characters, .int f1_length, .int f1_first, .int f1_behind, .int f1_digitsFrom])), (r1_characters, .inl (kB, 8000, .inl f1_characters))] := V
            refine lv_aload_n hx hb hx_d_Colon_faultOfForm_56 rfl (lv_at hl 1 rfl) ?_
            refine lv_iconst (v := 0) hx hb hx_d_Colon_faultOfForm_57 (by decide) ?_
            have K : hx_Cut [(r1, .inr (6, [.ref r1_characters, .int f1_length, .int f1_first, .int f1_behind, .int f1_digitsFrom])), (r1_characters, .inl (kB, 8000, .inl f1_characters))] [(r1, .inr (6, [.ref r1_characters, .int f1_length, .int f1_first, .int f1_behind, .int f1_digitsFrom])), (r1_characters, .inl (kB, 8000, .inl f1_characters))] [] [0, 1] [] := ⟨rfl, rfl, rfl, rfl, by decide⟩
            refine hx_ci hA V K (hx_rV (As := [.int 0]) (rest := [.int c53]) F hK hZ hA V K hx_jV_Colon_28 (hx_q_Typed_byteAt l D kJ kI kB tC tS H.size r1 r1_characters (0 : Int32) f1_characters f1_length f1_first f1_behind f1_digitsFrom h) rfl rfl ⟨Nat.le_of_ble_eq_true rfl, Nat.le_of_ble_eq_true rfl⟩ (q0 := 0) rfl rfl rfl rfl hl.1 rfl (Nat.le_of_ble_eq_true rfl) hx_d_Colon_faultOfForm_58 ⟨Nat.le_of_ble_eq_true rfl, Nat.le_of_ble_eq_true rfl⟩) (fun c58 u H locs h V => ?_)
            have V : hx_V D A s.heap H locs [(r1, .inr (6, [.ref r1_characters, .int f1_length, .int f1_first, .int f1_behind, .int f1_digitsFrom])), (r1_characters, .inl (kB, 8000, .inl f1_characters))] := V
            have K : hx_Cut [(r1, .inr (6, [.ref r1_characters, .int f1_length, .int f1_first, .int f1_behind, .int f1_digitsFrom])), (r1_characters, .inl (kB, 8000, .inl f1_characters))] [] [(r1, .inr (6, [.ref r1_characters, .int f1_length, .int f1_first, .int f1_behind, .int f1_digitsFrom])), (r1_characters, .inl (kB, 8000, .inl f1_characters))] [] [0, 1] := ⟨rfl, rfl, rfl, rfl, by decide⟩
            refine hx_ci hA V K (hx_rS (As := [.int c53, .int c58]) (rest := []) F hK hZ hA V K hx_jS_Colon_62 (hx_q_Colon_typeHas l D kJ kI kB tC tS H.size c53 c58 h) rfl rfl ⟨Nat.le_of_ble_eq_true rfl, Nat.le_of_ble_eq_true rfl⟩ rfl hl.1 rfl (Nat.le_of_ble_eq_true rfl) hx_d_Colon_faultOfForm_61 ⟨Nat.le_of_ble_eq_true rfl, Nat.le_of_ble_eq_true rfl⟩) (fun c61 u H locs h V => ?_)
            have V : hx_V D A s.heap H locs [(r1, .inr (6, [.ref r1_characters, .int f1_length, .int f1_first, .int f1_behind, .int f1_digitsFrom])), (r1_characters, .inl (kB, 8000, .inl f1_characters))] := V
            refine lv_if_ne (tgt := 69) hx hb hx_d_Colon_faultOfForm_64 rfl (fun b => ?_) (fun b => ?_)
            · have h := h.1 b
              refine lv_aload_n hx hb hx_d_Colon_faultOfForm_69 rfl (lv_at hl 1 rfl) ?_
              have K : hx_Cut [(r1, .inr (6, [.ref r1_characters, .int f1_length, .int f1_first, .int f1_behind, .int f1_digitsFrom])), (r1_characters, .inl (kB, 8000, .inl f1_characters))] [(r1, .inr (6, [.ref r1_characters, .int f1_length, .int f1_first, .int f1_behind, .int f1_digitsFrom])), (r1_characters, .inl (kB, 8000, .inl f1_characters))] [] [0, 1] [] := ⟨rfl, rfl, rfl, rfl, by decide⟩
              refine hx_ci hA V K (hx_rV (As := []) (rest := []) F hK hZ hA V K hx_jV_Colon_66 (hx_q_Typed_sumOfBytes l D kJ kI kB tC tS H.size r1 r1_characters f1_characters f1_length f1_first f1_behind f1_digitsFrom h) rfl rfl ⟨Nat.le_of_ble_eq_true rfl, Nat.le_of_ble_eq_true rfl⟩ (q0 := 0) rfl rfl rfl rfl hl.1 rfl (Nat.le_of_ble_eq_true rfl) hx_d_Colon_faultOfForm_70 ⟨Nat.le_of_ble_eq_true rfl, Nat.le_of_ble_eq_true rfl⟩) (fun c70 u H locs h V => ?_)
              have V : hx_V D A s.heap H locs [(r1, .inr (6, [.ref r1_characters, .int f1_length, .int f1_first, .int f1_behind, .int f1_digitsFrom])), (r1_characters, .inl (kB, 8000, .inl f1_characters))] := V
              refine lv_if_ne (tgt := 80) hx hb hx_d_Colon_faultOfForm_73 rfl (fun b => ?_) (fun b => ?_)
              · have h := h.1 b
                refine lv_iconst (v := 5) hx hb hx_d_Colon_faultOfForm_80 (by decide) ?_
                exact hret (5 : Int32) f1_digitsFrom H locs _ ls hx_d_Colon_faultOfForm_81 h V
              · have h := h.2 b
                refine lv_iconst (v := 0) hx hb hx_d_Colon_faultOfForm_76 (by decide) ?_
                refine lv_goto (tgt := 81) hx hb hx_d_Colon_faultOfForm_77 rfl ?_
                exact hret (0 : Int32) f1_digitsFrom H locs _ ls hx_d_Colon_faultOfForm_81 h V
            · have h := h.2 b
              refine lv_iconst (v := 4) hx hb hx_d_Colon_faultOfForm_67 (by decide) ?_
              exact hret (4 : Int32) f1_digitsFrom H locs _ ls hx_d_Colon_faultOfForm_68 h V
          · have h := h.2 b
            refine lv_iconst (v := 3) hx hb hx_d_Colon_faultOfForm_49 (by decide) ?_
            exact hret (3 : Int32) f1_digitsFrom H locs _ ls hx_d_Colon_faultOfForm_50 h V
    · have h := h.2 b
      refine lv_iconst (v := 2) hx hb hx_d_Colon_faultOfForm_19 (by decide) ?_
      exact hret (2 : Int32) f1_digitsFrom H locs _ ls hx_d_Colon_faultOfForm_20 h V
  · have h := h.2 b
    refine lv_iconst (v := 1) hx hb hx_d_Colon_faultOfForm_9 (by decide) ?_
    exact hret (1 : Int32) f1_digitsFrom H locs _ ls hx_d_Colon_faultOfForm_10 h V

def hx_v_Colon_takeOther (a1 : Int32) (f0_base : Int64) (f0_segmented : Int32) (f2_characters : Nat → Int32) (f2_first : Int32) (f2_behind : Int32) (f2_digitsFrom : Int32) (f3_start : Int64) (f3_ended : Int32) (Q : Int64 → Int32 → Int64 → Int32 → Prop) : Prop :=
  
  (a1 = 1 → (Q f0_base f0_segmented f3_start (1 : Int32))) ∧ (a1 = 2 → (hx_v_Typed_numberAt (4 : Int32) (2 : Int32) f2_characters f2_first f2_behind f2_digitsFrom (fun c48 => Q (c48 * (16 : Int64)) (1 : Int32) f3_start f3_ended))) ∧ (a1 = 3 → (hx_v_Typed_numberAt (4 : Int32) (2 : Int32) f2_characters f2_first f2_behind f2_digitsFrom (fun c70 => hx_v_Typed_numberAt (6 : Int32) (2 : Int32) f2_characters f2_first f2_behind f2_digitsFrom (fun c81 => Q f0_base f0_segmented ((c70 * (16 : Int64)) + c81) f3_ended)))) ∧ (a1 = 4 → (hx_v_Typed_numberAt (4 : Int32) (2 : Int32) f2_characters f2_first f2_behind f2_digitsFrom (fun c95 => Q (c95 <<< ((16 : Int32).toInt64 &&& 63)) (0 : Int32) f3_start f3_ended))) ∧ (a1 = 5 → (hx_v_Typed_numberAt (4 : Int32) (4 : Int32) f2_characters f2_first f2_behind f2_digitsFrom (fun c116 => Q f0_base f0_segmented c116 f3_ended))) ∧ ((¬ a1 = 1) → (¬ a1 = 2) → (¬ a1 = 3) → (¬ a1 = 4) → (¬ a1 = 5) → (Q f0_base f0_segmented f3_start f3_ended))
set_option maxHeartbeats 4000000 in
set_option maxRecDepth 100000 in
theorem hx_q_Colon_takeOther (l : Launch) (D : va_G) (kJ kI kB : ClassId) (tC tS : Nat) (sz : Nat) (r0 r2 r2_characters r3 r3_bytes r3_bytes_addresses r3_bytes_values r3_bytes_heldAddresses r3_bytes_heldValues : Nat) (a1 : Int32) (f0_base : Int64) (f0_segmented : Int32) (f2_characters : Nat → Int32) (f2_length : Int32) (f2_first : Int32) (f2_behind : Int32) (f2_digitsFrom : Int32) (f3_bytes_addresses : Nat → Int64) (f3_bytes_values : Nat → Int32) (f3_bytes_heldAddresses : Nat → Int64) (f3_bytes_heldValues : Nat → Int32) (f3_bytes_size : Int32) (f3_more : Int32) (f3_start : Int64) (f3_ended : Int32) {Q : Int64 → Int32 → Int64 → Int32 → Prop} (h : hx_v_Colon_takeOther a1 f0_base f0_segmented f2_characters f2_first f2_behind f2_digitsFrom f3_start f3_ended Q) :
    Met l hx_y_Colon_takeOther (.code hx_y_Colon_takeOther hx_c_Colon_takeOther 4 none :: hx_B) (hx_rm 3 70) (va_Pc [.ref r0, .int a1, .ref r2, .ref r3] (hx_I D kJ kI kB tC tS [(r0, .inr (1, [.long f0_base, .int f0_segmented])), (r2, .inr (6, [.ref r2_characters, .int f2_length, .int f2_first, .int f2_behind, .int f2_digitsFrom])), (r2_characters, .inl (kB, 8000, .inl f2_characters)), (r3, .inr (2, [.ref r3_bytes, .int f3_more, .long f3_start, .int f3_ended])), (r3_bytes, .inr (3, [.ref r3_bytes_addresses, .ref r3_bytes_values, .ref r3_bytes_heldAddresses, .ref r3_bytes_heldValues, .int f3_bytes_size])), (r3_bytes_addresses, .inl (kJ, 3000, .inr (.inl f3_bytes_addresses))), (r3_bytes_values, .inl (kI, 3000, .inl f3_bytes_values)), (r3_bytes_heldAddresses, .inl (kJ, 256, .inr (.inl f3_bytes_heldAddresses))), (r3_bytes_heldValues, .inl (kI, 256, .inl f3_bytes_heldValues))] sz))
      (va_Qv (S := Int64 × Int32 × Int64 × Int32) (fun (u : Int64 × Int32 × Int64 × Int32) => match u with | (f0_base, f0_segmented, f3_start, f3_ended) => Q f0_base f0_segmented f3_start f3_ended) (fun u t => va_P D vwCl ((fun u => match u with | (f0_base, f0_segmented, f3_start, f3_ended) => [(r0, .inr (1, [.long f0_base, .int f0_segmented])), (r2, .inr (6, [.ref r2_characters, .int f2_length, .int f2_first, .int f2_behind, .int f2_digitsFrom])), (r2_characters, .inl (kB, 8000, .inl f2_characters)), (r3, .inr (2, [.ref r3_bytes, .int f3_more, .long f3_start, .int f3_ended])), (r3_bytes, .inr (3, [.ref r3_bytes_addresses, .ref r3_bytes_values, .ref r3_bytes_heldAddresses, .ref r3_bytes_heldValues, .int f3_bytes_size])), (r3_bytes_addresses, .inl (kJ, 3000, .inr (.inl f3_bytes_addresses))), (r3_bytes_values, .inl (kI, 3000, .inl f3_bytes_values)), (r3_bytes_heldAddresses, .inl (kJ, 256, .inr (.inl f3_bytes_heldAddresses))), (r3_bytes_heldValues, .inl (kI, 256, .inl f3_bytes_heldValues))]) u) t.heap ∧ va_D (va_A [(r0, .inr (1, [.long f0_base, .int f0_segmented])), (r2, .inr (6, [.ref r2_characters, .int f2_length, .int f2_first, .int f2_behind, .int f2_digitsFrom])), (r2_characters, .inl (kB, 8000, .inl f2_characters)), (r3, .inr (2, [.ref r3_bytes, .int f3_more, .long f3_start, .int f3_ended])), (r3_bytes, .inr (3, [.ref r3_bytes_addresses, .ref r3_bytes_values, .ref r3_bytes_heldAddresses, .ref r3_bytes_heldValues, .int f3_bytes_size])), (r3_bytes_addresses, .inl (kJ, 3000, .inr (.inl f3_bytes_addresses))), (r3_bytes_values, .inl (kI, 3000, .inl f3_bytes_values)), (r3_bytes_heldAddresses, .inl (kJ, 256, .inr (.inl f3_bytes_heldAddresses))), (r3_bytes_heldValues, .inl (kI, 256, .inl f3_bytes_heldValues))] sz) ((fun u => match u with | (f0_base, f0_segmented, f3_start, f3_ended) => [(r0, .inr (1, [.long f0_base, .int f0_segmented])), (r2, .inr (6, [.ref r2_characters, .int f2_length, .int f2_first, .int f2_behind, .int f2_digitsFrom])), (r2_characters, .inl (kB, 8000, .inl f2_characters)), (r3, .inr (2, [.ref r3_bytes, .int f3_more, .long f3_start, .int f3_ended])), (r3_bytes, .inr (3, [.ref r3_bytes_addresses, .ref r3_bytes_values, .ref r3_bytes_heldAddresses, .ref r3_bytes_heldValues, .int f3_bytes_size])), (r3_bytes_addresses, .inl (kJ, 3000, .inr (.inl f3_bytes_addresses))), (r3_bytes_values, .inl (kI, 3000, .inl f3_bytes_values)), (r3_bytes_heldAddresses, .inl (kJ, 256, .inr (.inl f3_bytes_heldAddresses))), (r3_bytes_heldValues, .inl (kI, 256, .inl f3_bytes_heldValues))]) u)) (va_A [(r0, .inr (1, [.long f0_base, .int f0_segmented])), (r2, .inr (6, [.ref r2_characters, .int f2_length, .int f2_first, .int f2_behind, .int f2_digitsFrom])), (r2_characters, .inl (kB, 8000, .inl f2_characters)), (r3, .inr (2, [.ref r3_bytes, .int f3_more, .long f3_start, .int f3_ended])), (r3_bytes, .inr (3, [.ref r3_bytes_addresses, .ref r3_bytes_values, .ref r3_bytes_heldAddresses, .ref r3_bytes_heldValues, .int f3_bytes_size])), (r3_bytes_addresses, .inl (kJ, 3000, .inr (.inl f3_bytes_addresses))), (r3_bytes_values, .inl (kI, 3000, .inl f3_bytes_values)), (r3_bytes_heldAddresses, .inl (kJ, 256, .inr (.inl f3_bytes_heldAddresses))), (r3_bytes_heldValues, .inl (kI, 256, .inl f3_bytes_heldValues))] sz)) 0 0 (va_A [(r0, .inr (1, [.long f0_base, .int f0_segmented])), (r2, .inr (6, [.ref r2_characters, .int f2_length, .int f2_first, .int f2_behind, .int f2_digitsFrom])), (r2_characters, .inl (kB, 8000, .inl f2_characters)), (r3, .inr (2, [.ref r3_bytes, .int f3_more, .long f3_start, .int f3_ended])), (r3_bytes, .inr (3, [.ref r3_bytes_addresses, .ref r3_bytes_values, .ref r3_bytes_heldAddresses, .ref r3_bytes_heldValues, .int f3_bytes_size])), (r3_bytes_addresses, .inl (kJ, 3000, .inr (.inl f3_bytes_addresses))), (r3_bytes_values, .inl (kI, 3000, .inl f3_bytes_values)), (r3_bytes_heldAddresses, .inl (kJ, 256, .inr (.inl f3_bytes_heldAddresses))), (r3_bytes_heldValues, .inl (kI, 256, .inl f3_bytes_heldValues))] sz) := by
  refine hx_ofWv (S := Int64 × Int32 × Int64 × Int32) (post := fun (u : Int64 × Int32 × Int64 × Int32) => match u with | (f0_base, f0_segmented, f3_start, f3_ended) => Q f0_base f0_segmented f3_start f3_ended) (B := fun u => match u with | (f0_base, f0_segmented, f3_start, f3_ended) => [(r0, .inr (1, [.long f0_base, .int f0_segmented])), (r2, .inr (6, [.ref r2_characters, .int f2_length, .int f2_first, .int f2_behind, .int f2_digitsFrom])), (r2_characters, .inl (kB, 8000, .inl f2_characters)), (r3, .inr (2, [.ref r3_bytes, .int f3_more, .long f3_start, .int f3_ended])), (r3_bytes, .inr (3, [.ref r3_bytes_addresses, .ref r3_bytes_values, .ref r3_bytes_heldAddresses, .ref r3_bytes_heldValues, .int f3_bytes_size])), (r3_bytes_addresses, .inl (kJ, 3000, .inr (.inl f3_bytes_addresses))), (r3_bytes_values, .inl (kI, 3000, .inl f3_bytes_values)), (r3_bytes_heldAddresses, .inl (kJ, 256, .inr (.inl f3_bytes_heldAddresses))), (r3_bytes_heldValues, .inl (kI, 256, .inl f3_bytes_heldValues))]) (by decide) (Nat.le_of_ble_eq_true rfl) ?_
  intro p e s m below meth c ls A Qf H locs F hK hZ hA hnm hret hl V
  have hx := F.1
  have hb := F.2.1
  have hl : lv_has ls 4 [(0, .ref r0), (1, .int a1), (2, .ref r2), (3, .ref r3)] := hl
  unfold hx_v_Colon_takeOther at h
  refine lv_iload_n hx hb hx_d_Colon_takeOther_0 rfl (lv_at hl 1 rfl) ?_
  by_cases b0 : a1 = 1
  · have h := h.1 b0
    refine lv_tableIn (tgt := 36) (off := 35) hx hb hx_d_Colon_takeOther_1 (by rw [b0]; decide) (by rw [b0]; decide) (by rw [b0]; rfl) rfl ?_
    refine lv_aload_n hx hb hx_d_Colon_takeOther_36 rfl (lv_at hl 3 rfl) ?_
    refine lv_iconst (v := 1) hx hb hx_d_Colon_takeOther_37 (by decide) ?_
    refine hx_put (v := .int (1 : Int32)) (ws' := [(r0, .inr (1, [.long f0_base, .int f0_segmented])), (r2, .inr (6, [.ref r2_characters, .int f2_length, .int f2_first, .int f2_behind, .int f2_digitsFrom])), (r2_characters, .inl (kB, 8000, .inl f2_characters)), (r3, .inr (2, [.ref r3_bytes, .int f3_more, .long f3_start, .int (1 : Int32)])), (r3_bytes, .inr (3, [.ref r3_bytes_addresses, .ref r3_bytes_values, .ref r3_bytes_heldAddresses, .ref r3_bytes_heldValues, .int f3_bytes_size])), (r3_bytes_addresses, .inl (kJ, 3000, .inr (.inl f3_bytes_addresses))), (r3_bytes_values, .inl (kI, 3000, .inl f3_bytes_values)), (r3_bytes_heldAddresses, .inl (kJ, 256, .inr (.inl f3_bytes_heldAddresses))), (r3_bytes_heldValues, .inl (kI, 256, .inl f3_bytes_heldValues))]) F hK V hx_f_Colon_23 3 rfl rfl rfl (Nat.le_of_ble_eq_true rfl) rfl hx_d_Colon_takeOther_38 (fun H locs V => ?_)
    refine lv_goto (tgt := 125) hx hb hx_d_Colon_takeOther_41 rfl ?_
    exact hret (f0_base, f0_segmented, f3_start, (1 : Int32)) H locs _ ls hx_d_Colon_takeOther_125 h V
  by_cases b1 : a1 = 2
  · have h := h.2.1 b1
    refine lv_tableIn (tgt := 44) (off := 43) hx hb hx_d_Colon_takeOther_1 (by rw [b1]; decide) (by rw [b1]; decide) (by rw [b1]; rfl) rfl ?_
    refine lv_aload_n hx hb hx_d_Colon_takeOther_44 rfl (lv_at hl 0 rfl) ?_
    refine lv_aload_n hx hb hx_d_Colon_takeOther_45 rfl (lv_at hl 2 rfl) ?_
    refine lv_iconst (v := 4) hx hb hx_d_Colon_takeOther_46 (by decide) ?_
    refine lv_iconst (v := 2) hx hb hx_d_Colon_takeOther_47 (by decide) ?_
    have K : hx_Cut [(r0, .inr (1, [.long f0_base, .int f0_segmented])), (r2, .inr (6, [.ref r2_characters, .int f2_length, .int f2_first, .int f2_behind, .int f2_digitsFrom])), (r2_characters, .inl (kB, 8000, .inl f2_characters)), (r3, .inr (2, [.ref r3_bytes, .int f3_more, .long f3_start, .int f3_ended])), (r3_bytes, .inr (3, [.ref r3_bytes_addresses, .ref r3_bytes_values, .ref r3_bytes_heldAddresses, .ref r3_bytes_heldValues, .int f3_bytes_size])), (r3_bytes_addresses, .inl (kJ, 3000, .inr (.inl f3_bytes_addresses))), (r3_bytes_values, .inl (kI, 3000, .inl f3_bytes_values)), (r3_bytes_heldAddresses, .inl (kJ, 256, .inr (.inl f3_bytes_heldAddresses))), (r3_bytes_heldValues, .inl (kI, 256, .inl f3_bytes_heldValues))] [(r2, .inr (6, [.ref r2_characters, .int f2_length, .int f2_first, .int f2_behind, .int f2_digitsFrom])), (r2_characters, .inl (kB, 8000, .inl f2_characters))] [(r0, .inr (1, [.long f0_base, .int f0_segmented])), (r3, .inr (2, [.ref r3_bytes, .int f3_more, .long f3_start, .int f3_ended])), (r3_bytes, .inr (3, [.ref r3_bytes_addresses, .ref r3_bytes_values, .ref r3_bytes_heldAddresses, .ref r3_bytes_heldValues, .int f3_bytes_size])), (r3_bytes_addresses, .inl (kJ, 3000, .inr (.inl f3_bytes_addresses))), (r3_bytes_values, .inl (kI, 3000, .inl f3_bytes_values)), (r3_bytes_heldAddresses, .inl (kJ, 256, .inr (.inl f3_bytes_heldAddresses))), (r3_bytes_heldValues, .inl (kI, 256, .inl f3_bytes_heldValues))] [1, 2] [0, 3, 4, 5, 6, 7, 8] := ⟨rfl, rfl, rfl, rfl, by decide⟩
    refine hx_cl hA V K (hx_rV (As := [.int 4, .int 2]) (rest := [.ref r0]) F hK hZ hA V K hx_jV_Colon_34 (hx_q_Typed_numberAt l D kJ kI kB tC tS H.size r2 r2_characters (4 : Int32) (2 : Int32) f2_characters f2_length f2_first f2_behind f2_digitsFrom h) rfl rfl ⟨Nat.le_of_ble_eq_true rfl, Nat.le_of_ble_eq_true rfl⟩ (q0 := 1) rfl rfl rfl rfl hl.1 rfl (Nat.le_of_ble_eq_true rfl) hx_d_Colon_takeOther_48 ⟨Nat.le_of_ble_eq_true rfl, Nat.le_of_ble_eq_true rfl⟩) (fun c48 u H locs h V => ?_)
    have V : hx_V D A s.heap H locs [(r0, .inr (1, [.long f0_base, .int f0_segmented])), (r3, .inr (2, [.ref r3_bytes, .int f3_more, .long f3_start, .int f3_ended])), (r3_bytes, .inr (3, [.ref r3_bytes_addresses, .ref r3_bytes_values, .ref r3_bytes_heldAddresses, .ref r3_bytes_heldValues, .int f3_bytes_size])), (r3_bytes_addresses, .inl (kJ, 3000, .inr (.inl f3_bytes_addresses))), (r3_bytes_values, .inl (kI, 3000, .inl f3_bytes_values)), (r3_bytes_heldAddresses, .inl (kJ, 256, .inr (.inl f3_bytes_heldAddresses))), (r3_bytes_heldValues, .inl (kI, 256, .inl f3_bytes_heldValues)), (r2, .inr (6, [.ref r2_characters, .int f2_length, .int f2_first, .int f2_behind, .int f2_digitsFrom])), (r2_characters, .inl (kB, 8000, .inl f2_characters))] := V
    refine lv_ldc2 (v := 16) hx hb F.2.2.2.1 (F.2.2.2.2 _ hx_m_327) hx_d_Colon_takeOther_51 ?_
    refine lv_lmul hx hb hx_d_Colon_takeOther_54 ?_
    refine hx_put (v := .long (c48 * (16 : Int64))) (ws' := [(r0, .inr (1, [.long (c48 * (16 : Int64)), .int f0_segmented])), (r3, .inr (2, [.ref r3_bytes, .int f3_more, .long f3_start, .int f3_ended])), (r3_bytes, .inr (3, [.ref r3_bytes_addresses, .ref r3_bytes_values, .ref r3_bytes_heldAddresses, .ref r3_bytes_heldValues, .int f3_bytes_size])), (r3_bytes_addresses, .inl (kJ, 3000, .inr (.inl f3_bytes_addresses))), (r3_bytes_values, .inl (kI, 3000, .inl f3_bytes_values)), (r3_bytes_heldAddresses, .inl (kJ, 256, .inr (.inl f3_bytes_heldAddresses))), (r3_bytes_heldValues, .inl (kI, 256, .inl f3_bytes_heldValues)), (r2, .inr (6, [.ref r2_characters, .int f2_length, .int f2_first, .int f2_behind, .int f2_digitsFrom])), (r2_characters, .inl (kB, 8000, .inl f2_characters))]) F hK V hx_f_Colon_9 0 rfl rfl rfl (Nat.le_of_ble_eq_true rfl) rfl hx_d_Colon_takeOther_55 (fun H locs V => ?_)
    refine lv_aload_n hx hb hx_d_Colon_takeOther_58 rfl (lv_at hl 0 rfl) ?_
    refine lv_iconst (v := 1) hx hb hx_d_Colon_takeOther_59 (by decide) ?_
    refine hx_put (v := .int (1 : Int32)) (ws' := [(r0, .inr (1, [.long (c48 * (16 : Int64)), .int (1 : Int32)])), (r3, .inr (2, [.ref r3_bytes, .int f3_more, .long f3_start, .int f3_ended])), (r3_bytes, .inr (3, [.ref r3_bytes_addresses, .ref r3_bytes_values, .ref r3_bytes_heldAddresses, .ref r3_bytes_heldValues, .int f3_bytes_size])), (r3_bytes_addresses, .inl (kJ, 3000, .inr (.inl f3_bytes_addresses))), (r3_bytes_values, .inl (kI, 3000, .inl f3_bytes_values)), (r3_bytes_heldAddresses, .inl (kJ, 256, .inr (.inl f3_bytes_heldAddresses))), (r3_bytes_heldValues, .inl (kI, 256, .inl f3_bytes_heldValues)), (r2, .inr (6, [.ref r2_characters, .int f2_length, .int f2_first, .int f2_behind, .int f2_digitsFrom])), (r2_characters, .inl (kB, 8000, .inl f2_characters))]) F hK V hx_f_Colon_15 0 rfl rfl rfl (Nat.le_of_ble_eq_true rfl) rfl hx_d_Colon_takeOther_60 (fun H locs V => ?_)
    refine lv_goto (tgt := 125) hx hb hx_d_Colon_takeOther_63 rfl ?_
    exact hret ((c48 * (16 : Int64)), (1 : Int32), f3_start, f3_ended) H locs _ ls hx_d_Colon_takeOther_125 h (V.sub (ws' := [(r0, .inr (1, [.long (c48 * (16 : Int64)), .int (1 : Int32)])), (r2, .inr (6, [.ref r2_characters, .int f2_length, .int f2_first, .int f2_behind, .int f2_digitsFrom])), (r2_characters, .inl (kB, 8000, .inl f2_characters)), (r3, .inr (2, [.ref r3_bytes, .int f3_more, .long f3_start, .int f3_ended])), (r3_bytes, .inr (3, [.ref r3_bytes_addresses, .ref r3_bytes_values, .ref r3_bytes_heldAddresses, .ref r3_bytes_heldValues, .int f3_bytes_size])), (r3_bytes_addresses, .inl (kJ, 3000, .inr (.inl f3_bytes_addresses))), (r3_bytes_values, .inl (kI, 3000, .inl f3_bytes_values)), (r3_bytes_heldAddresses, .inl (kJ, 256, .inr (.inl f3_bytes_heldAddresses))), (r3_bytes_heldValues, .inl (kI, 256, .inl f3_bytes_heldValues))]) [0, 7, 8, 1, 2, 3, 4, 5, 6] rfl rfl)
  by_cases b2 : a1 = 3
  · have h := h.2.2.1 b2
    refine lv_tableIn (tgt := 66) (off := 65) hx hb hx_d_Colon_takeOther_1 (by rw [b2]; decide) (by rw [b2]; decide) (by rw [b2]; rfl) rfl ?_
    refine lv_aload_n hx hb hx_d_Colon_takeOther_66 rfl (lv_at hl 3 rfl) ?_
    refine lv_aload_n hx hb hx_d_Colon_takeOther_67 rfl (lv_at hl 2 rfl) ?_
    refine lv_iconst (v := 4) hx hb hx_d_Colon_takeOther_68 (by decide) ?_
    refine lv_iconst (v := 2) hx hb hx_d_Colon_takeOther_69 (by decide) ?_
    have K : hx_Cut [(r0, .inr (1, [.long f0_base, .int f0_segmented])), (r2, .inr (6, [.ref r2_characters, .int f2_length, .int f2_first, .int f2_behind, .int f2_digitsFrom])), (r2_characters, .inl (kB, 8000, .inl f2_characters)), (r3, .inr (2, [.ref r3_bytes, .int f3_more, .long f3_start, .int f3_ended])), (r3_bytes, .inr (3, [.ref r3_bytes_addresses, .ref r3_bytes_values, .ref r3_bytes_heldAddresses, .ref r3_bytes_heldValues, .int f3_bytes_size])), (r3_bytes_addresses, .inl (kJ, 3000, .inr (.inl f3_bytes_addresses))), (r3_bytes_values, .inl (kI, 3000, .inl f3_bytes_values)), (r3_bytes_heldAddresses, .inl (kJ, 256, .inr (.inl f3_bytes_heldAddresses))), (r3_bytes_heldValues, .inl (kI, 256, .inl f3_bytes_heldValues))] [(r2, .inr (6, [.ref r2_characters, .int f2_length, .int f2_first, .int f2_behind, .int f2_digitsFrom])), (r2_characters, .inl (kB, 8000, .inl f2_characters))] [(r0, .inr (1, [.long f0_base, .int f0_segmented])), (r3, .inr (2, [.ref r3_bytes, .int f3_more, .long f3_start, .int f3_ended])), (r3_bytes, .inr (3, [.ref r3_bytes_addresses, .ref r3_bytes_values, .ref r3_bytes_heldAddresses, .ref r3_bytes_heldValues, .int f3_bytes_size])), (r3_bytes_addresses, .inl (kJ, 3000, .inr (.inl f3_bytes_addresses))), (r3_bytes_values, .inl (kI, 3000, .inl f3_bytes_values)), (r3_bytes_heldAddresses, .inl (kJ, 256, .inr (.inl f3_bytes_heldAddresses))), (r3_bytes_heldValues, .inl (kI, 256, .inl f3_bytes_heldValues))] [1, 2] [0, 3, 4, 5, 6, 7, 8] := ⟨rfl, rfl, rfl, rfl, by decide⟩
    refine hx_cl hA V K (hx_rV (As := [.int 4, .int 2]) (rest := [.ref r3]) F hK hZ hA V K hx_jV_Colon_34 (hx_q_Typed_numberAt l D kJ kI kB tC tS H.size r2 r2_characters (4 : Int32) (2 : Int32) f2_characters f2_length f2_first f2_behind f2_digitsFrom h) rfl rfl ⟨Nat.le_of_ble_eq_true rfl, Nat.le_of_ble_eq_true rfl⟩ (q0 := 1) rfl rfl rfl rfl hl.1 rfl (Nat.le_of_ble_eq_true rfl) hx_d_Colon_takeOther_70 ⟨Nat.le_of_ble_eq_true rfl, Nat.le_of_ble_eq_true rfl⟩) (fun c70 u H locs h V => ?_)
    have V : hx_V D A s.heap H locs [(r0, .inr (1, [.long f0_base, .int f0_segmented])), (r3, .inr (2, [.ref r3_bytes, .int f3_more, .long f3_start, .int f3_ended])), (r3_bytes, .inr (3, [.ref r3_bytes_addresses, .ref r3_bytes_values, .ref r3_bytes_heldAddresses, .ref r3_bytes_heldValues, .int f3_bytes_size])), (r3_bytes_addresses, .inl (kJ, 3000, .inr (.inl f3_bytes_addresses))), (r3_bytes_values, .inl (kI, 3000, .inl f3_bytes_values)), (r3_bytes_heldAddresses, .inl (kJ, 256, .inr (.inl f3_bytes_heldAddresses))), (r3_bytes_heldValues, .inl (kI, 256, .inl f3_bytes_heldValues)), (r2, .inr (6, [.ref r2_characters, .int f2_length, .int f2_first, .int f2_behind, .int f2_digitsFrom])), (r2_characters, .inl (kB, 8000, .inl f2_characters))] := V
    refine lv_ldc2 (v := 16) hx hb F.2.2.2.1 (F.2.2.2.2 _ hx_m_327) hx_d_Colon_takeOther_73 ?_
    refine lv_lmul hx hb hx_d_Colon_takeOther_76 ?_
    refine lv_aload_n hx hb hx_d_Colon_takeOther_77 rfl (lv_at hl 2 rfl) ?_
    refine lv_bipush (v := 6) hx hb hx_d_Colon_takeOther_78 (by decide) ?_
    refine lv_iconst (v := 2) hx hb hx_d_Colon_takeOther_80 (by decide) ?_
    have K : hx_Cut [(r0, .inr (1, [.long f0_base, .int f0_segmented])), (r3, .inr (2, [.ref r3_bytes, .int f3_more, .long f3_start, .int f3_ended])), (r3_bytes, .inr (3, [.ref r3_bytes_addresses, .ref r3_bytes_values, .ref r3_bytes_heldAddresses, .ref r3_bytes_heldValues, .int f3_bytes_size])), (r3_bytes_addresses, .inl (kJ, 3000, .inr (.inl f3_bytes_addresses))), (r3_bytes_values, .inl (kI, 3000, .inl f3_bytes_values)), (r3_bytes_heldAddresses, .inl (kJ, 256, .inr (.inl f3_bytes_heldAddresses))), (r3_bytes_heldValues, .inl (kI, 256, .inl f3_bytes_heldValues)), (r2, .inr (6, [.ref r2_characters, .int f2_length, .int f2_first, .int f2_behind, .int f2_digitsFrom])), (r2_characters, .inl (kB, 8000, .inl f2_characters))] [(r2, .inr (6, [.ref r2_characters, .int f2_length, .int f2_first, .int f2_behind, .int f2_digitsFrom])), (r2_characters, .inl (kB, 8000, .inl f2_characters))] [(r0, .inr (1, [.long f0_base, .int f0_segmented])), (r3, .inr (2, [.ref r3_bytes, .int f3_more, .long f3_start, .int f3_ended])), (r3_bytes, .inr (3, [.ref r3_bytes_addresses, .ref r3_bytes_values, .ref r3_bytes_heldAddresses, .ref r3_bytes_heldValues, .int f3_bytes_size])), (r3_bytes_addresses, .inl (kJ, 3000, .inr (.inl f3_bytes_addresses))), (r3_bytes_values, .inl (kI, 3000, .inl f3_bytes_values)), (r3_bytes_heldAddresses, .inl (kJ, 256, .inr (.inl f3_bytes_heldAddresses))), (r3_bytes_heldValues, .inl (kI, 256, .inl f3_bytes_heldValues))] [7, 8] [0, 1, 2, 3, 4, 5, 6] := ⟨rfl, rfl, rfl, rfl, by decide⟩
    refine hx_cl hA V K (hx_rV (As := [.int 6, .int 2]) (rest := [.long (c70 * (16 : Int64)), .ref r3]) F hK hZ hA V K hx_jV_Colon_34 (hx_q_Typed_numberAt l D kJ kI kB tC tS H.size r2 r2_characters (6 : Int32) (2 : Int32) f2_characters f2_length f2_first f2_behind f2_digitsFrom h) rfl rfl ⟨Nat.le_of_ble_eq_true rfl, Nat.le_of_ble_eq_true rfl⟩ (q0 := 7) rfl rfl rfl rfl hl.1 rfl (Nat.le_of_ble_eq_true rfl) hx_d_Colon_takeOther_81 ⟨Nat.le_of_ble_eq_true rfl, Nat.le_of_ble_eq_true rfl⟩) (fun c81 u H locs h V => ?_)
    have V : hx_V D A s.heap H locs [(r0, .inr (1, [.long f0_base, .int f0_segmented])), (r3, .inr (2, [.ref r3_bytes, .int f3_more, .long f3_start, .int f3_ended])), (r3_bytes, .inr (3, [.ref r3_bytes_addresses, .ref r3_bytes_values, .ref r3_bytes_heldAddresses, .ref r3_bytes_heldValues, .int f3_bytes_size])), (r3_bytes_addresses, .inl (kJ, 3000, .inr (.inl f3_bytes_addresses))), (r3_bytes_values, .inl (kI, 3000, .inl f3_bytes_values)), (r3_bytes_heldAddresses, .inl (kJ, 256, .inr (.inl f3_bytes_heldAddresses))), (r3_bytes_heldValues, .inl (kI, 256, .inl f3_bytes_heldValues)), (r2, .inr (6, [.ref r2_characters, .int f2_length, .int f2_first, .int f2_behind, .int f2_digitsFrom])), (r2_characters, .inl (kB, 8000, .inl f2_characters))] := V
    refine lv_ladd hx hb hx_d_Colon_takeOther_84 ?_
    refine hx_put (v := .long ((c70 * (16 : Int64)) + c81)) (ws' := [(r0, .inr (1, [.long f0_base, .int f0_segmented])), (r3, .inr (2, [.ref r3_bytes, .int f3_more, .long ((c70 * (16 : Int64)) + c81), .int f3_ended])), (r3_bytes, .inr (3, [.ref r3_bytes_addresses, .ref r3_bytes_values, .ref r3_bytes_heldAddresses, .ref r3_bytes_heldValues, .int f3_bytes_size])), (r3_bytes_addresses, .inl (kJ, 3000, .inr (.inl f3_bytes_addresses))), (r3_bytes_values, .inl (kI, 3000, .inl f3_bytes_values)), (r3_bytes_heldAddresses, .inl (kJ, 256, .inr (.inl f3_bytes_heldAddresses))), (r3_bytes_heldValues, .inl (kI, 256, .inl f3_bytes_heldValues)), (r2, .inr (6, [.ref r2_characters, .int f2_length, .int f2_first, .int f2_behind, .int f2_digitsFrom])), (r2_characters, .inl (kB, 8000, .inl f2_characters))]) F hK V hx_f_Colon_75 1 rfl rfl rfl (Nat.le_of_ble_eq_true rfl) rfl hx_d_Colon_takeOther_85 (fun H locs V => ?_)
    refine lv_goto (tgt := 125) hx hb hx_d_Colon_takeOther_88 rfl ?_
    exact hret (f0_base, f0_segmented, ((c70 * (16 : Int64)) + c81), f3_ended) H locs _ ls hx_d_Colon_takeOther_125 h (V.sub (ws' := [(r0, .inr (1, [.long f0_base, .int f0_segmented])), (r2, .inr (6, [.ref r2_characters, .int f2_length, .int f2_first, .int f2_behind, .int f2_digitsFrom])), (r2_characters, .inl (kB, 8000, .inl f2_characters)), (r3, .inr (2, [.ref r3_bytes, .int f3_more, .long ((c70 * (16 : Int64)) + c81), .int f3_ended])), (r3_bytes, .inr (3, [.ref r3_bytes_addresses, .ref r3_bytes_values, .ref r3_bytes_heldAddresses, .ref r3_bytes_heldValues, .int f3_bytes_size])), (r3_bytes_addresses, .inl (kJ, 3000, .inr (.inl f3_bytes_addresses))), (r3_bytes_values, .inl (kI, 3000, .inl f3_bytes_values)), (r3_bytes_heldAddresses, .inl (kJ, 256, .inr (.inl f3_bytes_heldAddresses))), (r3_bytes_heldValues, .inl (kI, 256, .inl f3_bytes_heldValues))]) [0, 7, 8, 1, 2, 3, 4, 5, 6] rfl rfl)
  by_cases b3 : a1 = 4
  · have h := h.2.2.2.1 b3
    refine lv_tableIn (tgt := 91) (off := 90) hx hb hx_d_Colon_takeOther_1 (by rw [b3]; decide) (by rw [b3]; decide) (by rw [b3]; rfl) rfl ?_
    refine lv_aload_n hx hb hx_d_Colon_takeOther_91 rfl (lv_at hl 0 rfl) ?_
    refine lv_aload_n hx hb hx_d_Colon_takeOther_92 rfl (lv_at hl 2 rfl) ?_
    refine lv_iconst (v := 4) hx hb hx_d_Colon_takeOther_93 (by decide) ?_
    refine lv_iconst (v := 2) hx hb hx_d_Colon_takeOther_94 (by decide) ?_
    have K : hx_Cut [(r0, .inr (1, [.long f0_base, .int f0_segmented])), (r2, .inr (6, [.ref r2_characters, .int f2_length, .int f2_first, .int f2_behind, .int f2_digitsFrom])), (r2_characters, .inl (kB, 8000, .inl f2_characters)), (r3, .inr (2, [.ref r3_bytes, .int f3_more, .long f3_start, .int f3_ended])), (r3_bytes, .inr (3, [.ref r3_bytes_addresses, .ref r3_bytes_values, .ref r3_bytes_heldAddresses, .ref r3_bytes_heldValues, .int f3_bytes_size])), (r3_bytes_addresses, .inl (kJ, 3000, .inr (.inl f3_bytes_addresses))), (r3_bytes_values, .inl (kI, 3000, .inl f3_bytes_values)), (r3_bytes_heldAddresses, .inl (kJ, 256, .inr (.inl f3_bytes_heldAddresses))), (r3_bytes_heldValues, .inl (kI, 256, .inl f3_bytes_heldValues))] [(r2, .inr (6, [.ref r2_characters, .int f2_length, .int f2_first, .int f2_behind, .int f2_digitsFrom])), (r2_characters, .inl (kB, 8000, .inl f2_characters))] [(r0, .inr (1, [.long f0_base, .int f0_segmented])), (r3, .inr (2, [.ref r3_bytes, .int f3_more, .long f3_start, .int f3_ended])), (r3_bytes, .inr (3, [.ref r3_bytes_addresses, .ref r3_bytes_values, .ref r3_bytes_heldAddresses, .ref r3_bytes_heldValues, .int f3_bytes_size])), (r3_bytes_addresses, .inl (kJ, 3000, .inr (.inl f3_bytes_addresses))), (r3_bytes_values, .inl (kI, 3000, .inl f3_bytes_values)), (r3_bytes_heldAddresses, .inl (kJ, 256, .inr (.inl f3_bytes_heldAddresses))), (r3_bytes_heldValues, .inl (kI, 256, .inl f3_bytes_heldValues))] [1, 2] [0, 3, 4, 5, 6, 7, 8] := ⟨rfl, rfl, rfl, rfl, by decide⟩
    refine hx_cl hA V K (hx_rV (As := [.int 4, .int 2]) (rest := [.ref r0]) F hK hZ hA V K hx_jV_Colon_34 (hx_q_Typed_numberAt l D kJ kI kB tC tS H.size r2 r2_characters (4 : Int32) (2 : Int32) f2_characters f2_length f2_first f2_behind f2_digitsFrom h) rfl rfl ⟨Nat.le_of_ble_eq_true rfl, Nat.le_of_ble_eq_true rfl⟩ (q0 := 1) rfl rfl rfl rfl hl.1 rfl (Nat.le_of_ble_eq_true rfl) hx_d_Colon_takeOther_95 ⟨Nat.le_of_ble_eq_true rfl, Nat.le_of_ble_eq_true rfl⟩) (fun c95 u H locs h V => ?_)
    have V : hx_V D A s.heap H locs [(r0, .inr (1, [.long f0_base, .int f0_segmented])), (r3, .inr (2, [.ref r3_bytes, .int f3_more, .long f3_start, .int f3_ended])), (r3_bytes, .inr (3, [.ref r3_bytes_addresses, .ref r3_bytes_values, .ref r3_bytes_heldAddresses, .ref r3_bytes_heldValues, .int f3_bytes_size])), (r3_bytes_addresses, .inl (kJ, 3000, .inr (.inl f3_bytes_addresses))), (r3_bytes_values, .inl (kI, 3000, .inl f3_bytes_values)), (r3_bytes_heldAddresses, .inl (kJ, 256, .inr (.inl f3_bytes_heldAddresses))), (r3_bytes_heldValues, .inl (kI, 256, .inl f3_bytes_heldValues)), (r2, .inr (6, [.ref r2_characters, .int f2_length, .int f2_first, .int f2_behind, .int f2_digitsFrom])), (r2_characters, .inl (kB, 8000, .inl f2_characters))] := V
    refine lv_bipush (v := 16) hx hb hx_d_Colon_takeOther_98 (by decide) ?_
    refine lv_lshl hx hb hx_d_Colon_takeOther_100 rfl ?_
    refine hx_put (v := .long (c95 <<< ((16 : Int32).toInt64 &&& 63))) (ws' := [(r0, .inr (1, [.long (c95 <<< ((16 : Int32).toInt64 &&& 63)), .int f0_segmented])), (r3, .inr (2, [.ref r3_bytes, .int f3_more, .long f3_start, .int f3_ended])), (r3_bytes, .inr (3, [.ref r3_bytes_addresses, .ref r3_bytes_values, .ref r3_bytes_heldAddresses, .ref r3_bytes_heldValues, .int f3_bytes_size])), (r3_bytes_addresses, .inl (kJ, 3000, .inr (.inl f3_bytes_addresses))), (r3_bytes_values, .inl (kI, 3000, .inl f3_bytes_values)), (r3_bytes_heldAddresses, .inl (kJ, 256, .inr (.inl f3_bytes_heldAddresses))), (r3_bytes_heldValues, .inl (kI, 256, .inl f3_bytes_heldValues)), (r2, .inr (6, [.ref r2_characters, .int f2_length, .int f2_first, .int f2_behind, .int f2_digitsFrom])), (r2_characters, .inl (kB, 8000, .inl f2_characters))]) F hK V hx_f_Colon_9 0 rfl rfl rfl (Nat.le_of_ble_eq_true rfl) rfl hx_d_Colon_takeOther_101 (fun H locs V => ?_)
    refine lv_aload_n hx hb hx_d_Colon_takeOther_104 rfl (lv_at hl 0 rfl) ?_
    refine lv_iconst (v := 0) hx hb hx_d_Colon_takeOther_105 (by decide) ?_
    refine hx_put (v := .int (0 : Int32)) (ws' := [(r0, .inr (1, [.long (c95 <<< ((16 : Int32).toInt64 &&& 63)), .int (0 : Int32)])), (r3, .inr (2, [.ref r3_bytes, .int f3_more, .long f3_start, .int f3_ended])), (r3_bytes, .inr (3, [.ref r3_bytes_addresses, .ref r3_bytes_values, .ref r3_bytes_heldAddresses, .ref r3_bytes_heldValues, .int f3_bytes_size])), (r3_bytes_addresses, .inl (kJ, 3000, .inr (.inl f3_bytes_addresses))), (r3_bytes_values, .inl (kI, 3000, .inl f3_bytes_values)), (r3_bytes_heldAddresses, .inl (kJ, 256, .inr (.inl f3_bytes_heldAddresses))), (r3_bytes_heldValues, .inl (kI, 256, .inl f3_bytes_heldValues)), (r2, .inr (6, [.ref r2_characters, .int f2_length, .int f2_first, .int f2_behind, .int f2_digitsFrom])), (r2_characters, .inl (kB, 8000, .inl f2_characters))]) F hK V hx_f_Colon_15 0 rfl rfl rfl (Nat.le_of_ble_eq_true rfl) rfl hx_d_Colon_takeOther_106 (fun H locs V => ?_)
    refine lv_goto (tgt := 125) hx hb hx_d_Colon_takeOther_109 rfl ?_
    exact hret ((c95 <<< ((16 : Int32).toInt64 &&& 63)), (0 : Int32), f3_start, f3_ended) H locs _ ls hx_d_Colon_takeOther_125 h (V.sub (ws' := [(r0, .inr (1, [.long (c95 <<< ((16 : Int32).toInt64 &&& 63)), .int (0 : Int32)])), (r2, .inr (6, [.ref r2_characters, .int f2_length, .int f2_first, .int f2_behind, .int f2_digitsFrom])), (r2_characters, .inl (kB, 8000, .inl f2_characters)), (r3, .inr (2, [.ref r3_bytes, .int f3_more, .long f3_start, .int f3_ended])), (r3_bytes, .inr (3, [.ref r3_bytes_addresses, .ref r3_bytes_values, .ref r3_bytes_heldAddresses, .ref r3_bytes_heldValues, .int f3_bytes_size])), (r3_bytes_addresses, .inl (kJ, 3000, .inr (.inl f3_bytes_addresses))), (r3_bytes_values, .inl (kI, 3000, .inl f3_bytes_values)), (r3_bytes_heldAddresses, .inl (kJ, 256, .inr (.inl f3_bytes_heldAddresses))), (r3_bytes_heldValues, .inl (kI, 256, .inl f3_bytes_heldValues))]) [0, 7, 8, 1, 2, 3, 4, 5, 6] rfl rfl)
  by_cases b4 : a1 = 5
  · have h := h.2.2.2.2.1 b4
    refine lv_tableIn (tgt := 112) (off := 111) hx hb hx_d_Colon_takeOther_1 (by rw [b4]; decide) (by rw [b4]; decide) (by rw [b4]; rfl) rfl ?_
    refine lv_aload_n hx hb hx_d_Colon_takeOther_112 rfl (lv_at hl 3 rfl) ?_
    refine lv_aload_n hx hb hx_d_Colon_takeOther_113 rfl (lv_at hl 2 rfl) ?_
    refine lv_iconst (v := 4) hx hb hx_d_Colon_takeOther_114 (by decide) ?_
    refine lv_iconst (v := 4) hx hb hx_d_Colon_takeOther_115 (by decide) ?_
    have K : hx_Cut [(r0, .inr (1, [.long f0_base, .int f0_segmented])), (r2, .inr (6, [.ref r2_characters, .int f2_length, .int f2_first, .int f2_behind, .int f2_digitsFrom])), (r2_characters, .inl (kB, 8000, .inl f2_characters)), (r3, .inr (2, [.ref r3_bytes, .int f3_more, .long f3_start, .int f3_ended])), (r3_bytes, .inr (3, [.ref r3_bytes_addresses, .ref r3_bytes_values, .ref r3_bytes_heldAddresses, .ref r3_bytes_heldValues, .int f3_bytes_size])), (r3_bytes_addresses, .inl (kJ, 3000, .inr (.inl f3_bytes_addresses))), (r3_bytes_values, .inl (kI, 3000, .inl f3_bytes_values)), (r3_bytes_heldAddresses, .inl (kJ, 256, .inr (.inl f3_bytes_heldAddresses))), (r3_bytes_heldValues, .inl (kI, 256, .inl f3_bytes_heldValues))] [(r2, .inr (6, [.ref r2_characters, .int f2_length, .int f2_first, .int f2_behind, .int f2_digitsFrom])), (r2_characters, .inl (kB, 8000, .inl f2_characters))] [(r0, .inr (1, [.long f0_base, .int f0_segmented])), (r3, .inr (2, [.ref r3_bytes, .int f3_more, .long f3_start, .int f3_ended])), (r3_bytes, .inr (3, [.ref r3_bytes_addresses, .ref r3_bytes_values, .ref r3_bytes_heldAddresses, .ref r3_bytes_heldValues, .int f3_bytes_size])), (r3_bytes_addresses, .inl (kJ, 3000, .inr (.inl f3_bytes_addresses))), (r3_bytes_values, .inl (kI, 3000, .inl f3_bytes_values)), (r3_bytes_heldAddresses, .inl (kJ, 256, .inr (.inl f3_bytes_heldAddresses))), (r3_bytes_heldValues, .inl (kI, 256, .inl f3_bytes_heldValues))] [1, 2] [0, 3, 4, 5, 6, 7, 8] := ⟨rfl, rfl, rfl, rfl, by decide⟩
    refine hx_cl hA V K (hx_rV (As := [.int 4, .int 4]) (rest := [.ref r3]) F hK hZ hA V K hx_jV_Colon_34 (hx_q_Typed_numberAt l D kJ kI kB tC tS H.size r2 r2_characters (4 : Int32) (4 : Int32) f2_characters f2_length f2_first f2_behind f2_digitsFrom h) rfl rfl ⟨Nat.le_of_ble_eq_true rfl, Nat.le_of_ble_eq_true rfl⟩ (q0 := 1) rfl rfl rfl rfl hl.1 rfl (Nat.le_of_ble_eq_true rfl) hx_d_Colon_takeOther_116 ⟨Nat.le_of_ble_eq_true rfl, Nat.le_of_ble_eq_true rfl⟩) (fun c116 u H locs h V => ?_)
    have V : hx_V D A s.heap H locs [(r0, .inr (1, [.long f0_base, .int f0_segmented])), (r3, .inr (2, [.ref r3_bytes, .int f3_more, .long f3_start, .int f3_ended])), (r3_bytes, .inr (3, [.ref r3_bytes_addresses, .ref r3_bytes_values, .ref r3_bytes_heldAddresses, .ref r3_bytes_heldValues, .int f3_bytes_size])), (r3_bytes_addresses, .inl (kJ, 3000, .inr (.inl f3_bytes_addresses))), (r3_bytes_values, .inl (kI, 3000, .inl f3_bytes_values)), (r3_bytes_heldAddresses, .inl (kJ, 256, .inr (.inl f3_bytes_heldAddresses))), (r3_bytes_heldValues, .inl (kI, 256, .inl f3_bytes_heldValues)), (r2, .inr (6, [.ref r2_characters, .int f2_length, .int f2_first, .int f2_behind, .int f2_digitsFrom])), (r2_characters, .inl (kB, 8000, .inl f2_characters))] := V
    refine hx_put (v := .long c116) (ws' := [(r0, .inr (1, [.long f0_base, .int f0_segmented])), (r3, .inr (2, [.ref r3_bytes, .int f3_more, .long c116, .int f3_ended])), (r3_bytes, .inr (3, [.ref r3_bytes_addresses, .ref r3_bytes_values, .ref r3_bytes_heldAddresses, .ref r3_bytes_heldValues, .int f3_bytes_size])), (r3_bytes_addresses, .inl (kJ, 3000, .inr (.inl f3_bytes_addresses))), (r3_bytes_values, .inl (kI, 3000, .inl f3_bytes_values)), (r3_bytes_heldAddresses, .inl (kJ, 256, .inr (.inl f3_bytes_heldAddresses))), (r3_bytes_heldValues, .inl (kI, 256, .inl f3_bytes_heldValues)), (r2, .inr (6, [.ref r2_characters, .int f2_length, .int f2_first, .int f2_behind, .int f2_digitsFrom])), (r2_characters, .inl (kB, 8000, .inl f2_characters))]) F hK V hx_f_Colon_75 1 rfl rfl rfl (Nat.le_of_ble_eq_true rfl) rfl hx_d_Colon_takeOther_119 (fun H locs V => ?_)
    refine lv_goto (tgt := 125) hx hb hx_d_Colon_takeOther_122 rfl ?_
    exact hret (f0_base, f0_segmented, c116, f3_ended) H locs _ ls hx_d_Colon_takeOther_125 h (V.sub (ws' := [(r0, .inr (1, [.long f0_base, .int f0_segmented])), (r2, .inr (6, [.ref r2_characters, .int f2_length, .int f2_first, .int f2_behind, .int f2_digitsFrom])), (r2_characters, .inl (kB, 8000, .inl f2_characters)), (r3, .inr (2, [.ref r3_bytes, .int f3_more, .long c116, .int f3_ended])), (r3_bytes, .inr (3, [.ref r3_bytes_addresses, .ref r3_bytes_values, .ref r3_bytes_heldAddresses, .ref r3_bytes_heldValues, .int f3_bytes_size])), (r3_bytes_addresses, .inl (kJ, 3000, .inr (.inl f3_bytes_addresses))), (r3_bytes_values, .inl (kI, 3000, .inl f3_bytes_values)), (r3_bytes_heldAddresses, .inl (kJ, 256, .inr (.inl f3_bytes_heldAddresses))), (r3_bytes_heldValues, .inl (kI, 256, .inl f3_bytes_heldValues))]) [0, 7, 8, 1, 2, 3, 4, 5, 6] rfl rfl)
  have h := h.2.2.2.2.2 b0 b1 b2 b3 b4
  have n0 := lv_neT (a := 1) b0 rfl
  have n1 := lv_neT (a := 2) b1 rfl
  have n2 := lv_neT (a := 3) b2 rfl
  have n3 := lv_neT (a := 4) b3 rfl
  have n4 := lv_neT (a := 5) b4 rfl
  refine lv_tableOut (tgt := 125) hx hb hx_d_Colon_takeOther_1 (by omega) rfl ?_
  exact hret (f0_base, f0_segmented, f3_start, f3_ended) H locs _ ls hx_d_Colon_takeOther_125 h V

def hx_v_Colon_addressOfData (a1 : Int64) (a2 : Int32) (f0_base : Int64) (f0_segmented : Int32) (Q : Int64 → Prop) : Prop :=
  ∀ P22 : Int64 → Prop, 
  (∀ (y0 : Int64), (Q ((f0_base + y0) &&& (4294967295 : Int64))) → P22 y0) →
  ((f0_segmented = (0 : Int32) → (P22 (a1 + a2.toInt64))) ∧ ((¬ f0_segmented = (0 : Int32)) → (P22 ((a1 + a2.toInt64) &&& (65535 : Int64)))))
set_option maxHeartbeats 4000000 in
set_option maxRecDepth 100000 in
theorem hx_q_Colon_addressOfData (l : Launch) (D : va_G) (kJ kI kB : ClassId) (tC tS : Nat) (sz : Nat) (r0 : Nat) (a1 : Int64) (a2 : Int32) (f0_base : Int64) (f0_segmented : Int32) {Q : Int64 → Prop} (h : hx_v_Colon_addressOfData a1 a2 f0_base f0_segmented Q) :
    Met l hx_y_Colon_addressOfData (.code hx_y_Colon_addressOfData hx_c_Colon_addressOfData 6 (some .long) :: hx_B) (hx_rm 0 0) (va_Pc [.ref r0, .long a1, .int a2] (hx_I D kJ kI kB tC tS [(r0, .inr (1, [.long f0_base, .int f0_segmented]))] sz))
      (va_Ql (S := Unit) (fun r _ => Q r) (fun u t => va_P D vwCl ((fun _ => [(r0, .inr (1, [.long f0_base, .int f0_segmented]))]) u) t.heap ∧ va_D (va_A [(r0, .inr (1, [.long f0_base, .int f0_segmented]))] sz) ((fun _ => [(r0, .inr (1, [.long f0_base, .int f0_segmented]))]) u)) (va_A [(r0, .inr (1, [.long f0_base, .int f0_segmented]))] sz)) 0 0 (va_A [(r0, .inr (1, [.long f0_base, .int f0_segmented]))] sz) := by
  refine hx_ofWl (S := Unit) (post := fun r _ => Q r) (B := fun _ => [(r0, .inr (1, [.long f0_base, .int f0_segmented]))]) (by decide) (Nat.le_of_ble_eq_true rfl) ?_
  intro p e s m below meth c ls A Qf H locs F hK hZ hA hret hl V
  have hx := F.1
  have hb := F.2.1
  have hl : lv_has ls 6 [(0, .ref r0), (1, .long a1), (3, .int a2)] := hl
  unfold hx_v_Colon_addressOfData at h
  have h := h (fun (y0 : Int64) => ∀ (ls : Array Slot) (H : Heap) (locs : List Loc), lv_has ls 6 [(0, .ref r0)] → hx_V D A s.heap H locs [(r0, .inr (1, [.long f0_base, .int f0_segmented]))] → W p l e (hx_rm 0 0) s m ([.ref r0, .long a1, .int a2] : List Value).toArray below meth c H locs 0 0 Qf (F0 m 22 ls [.long y0]))
  have h := h (by
    intro y0 h ls H locs hl V
    refine lv_lstore (lv' := [(4, .long y0), (0, .ref r0)]) hx hb hx_d_Colon_addressOfData_22 hl (Nat.le_of_ble_eq_true rfl) rfl (fun ls hl => ?_)
    refine lv_aload_n hx hb hx_d_Colon_addressOfData_24 rfl (lv_at hl 1 rfl) ?_
    refine hx_get (v := .long f0_base) F hK V hx_f_Colon_9 0 rfl rfl hx_d_Colon_addressOfData_25 ?_
    refine lv_lload hx hb hx_d_Colon_addressOfData_28 (lv_at hl 0 rfl) ?_
    refine lv_ladd hx hb hx_d_Colon_addressOfData_30 ?_
    refine lv_ldc2 (v := 4294967295) hx hb F.2.2.2.1 (F.2.2.2.2 _ hx_m_287) hx_d_Colon_addressOfData_31 ?_
    refine lv_land hx hb hx_d_Colon_addressOfData_34 ?_
    exact hret ((f0_base + y0) &&& (4294967295 : Int64)) () H locs _ ls hx_d_Colon_addressOfData_35 h V)
  refine lv_aload_n hx hb hx_d_Colon_addressOfData_0 rfl (lv_at hl 0 rfl) ?_
  refine hx_get (v := .int f0_segmented) F hK V hx_f_Colon_15 0 rfl rfl hx_d_Colon_addressOfData_1 ?_
  refine lv_if_eq (tgt := 18) hx hb hx_d_Colon_addressOfData_4 rfl (fun b => ?_) (fun b => ?_)
  · have h := h.1 b
    refine lv_lload_n hx hb hx_d_Colon_addressOfData_18 rfl (lv_at hl 1 rfl) ?_
    refine lv_iload_n hx hb hx_d_Colon_addressOfData_19 rfl (lv_at hl 2 rfl) ?_
    refine lv_i2l hx hb hx_d_Colon_addressOfData_20 rfl ?_
    refine lv_ladd hx hb hx_d_Colon_addressOfData_21 ?_
    exact h ls H locs (lv_sub hl [0] rfl) V
  · have h := h.2 b
    refine lv_lload_n hx hb hx_d_Colon_addressOfData_7 rfl (lv_at hl 1 rfl) ?_
    refine lv_iload_n hx hb hx_d_Colon_addressOfData_8 rfl (lv_at hl 2 rfl) ?_
    refine lv_i2l hx hb hx_d_Colon_addressOfData_9 rfl ?_
    refine lv_ladd hx hb hx_d_Colon_addressOfData_10 ?_
    refine lv_ldc2 (v := 65535) hx hb F.2.2.2.1 (F.2.2.2.2 _ hx_m_286) hx_d_Colon_addressOfData_11 ?_
    refine lv_land hx hb hx_d_Colon_addressOfData_14 ?_
    refine lv_goto (tgt := 22) hx hb hx_d_Colon_addressOfData_15 rfl ?_
    exact h ls H locs (lv_sub hl [0] rfl) V
