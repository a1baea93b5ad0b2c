/-! the law: every call answers the same -/
theorem hp_R0 (a : Nat → Int64) (v : Nat → Int32) : hp_R a v 0 (fun _ => none) := ⟨fun _ => 0, fun _ => 0, fun j hj => absurd hj (Nat.not_lt_zero j), fun i j _ hj => absurd hj (Nat.not_lt_zero j), fun x y h => by cases h⟩
theorem hp_stop {L x : Nat} (hL : L ≤ 2048) (hx : x ≤ 100000) (h : L ≤ x) : (Int32.ofNat L) - (4 : Int32) < nI x := by
  rw [Int32.lt_iff_toInt_lt, show (Int32.ofNat L) - (4 : Int32) = nI L - nI 4 from rfl, pk_sub_toInt (by omega) (by omega), show (nI x).toInt = (x : Int) from nI_toInt (by omega)]
  omega
theorem hp_more {L x : Nat} (hL : L ≤ 2048 ∧ x ≤ 100000) (h : ¬ (Int32.ofNat L) - (4 : Int32) < nI x) : x + 4 ≤ L := by
  refine Nat.not_lt.mp fun q => h ?_
  rw [Int32.lt_iff_toInt_lt, show (Int32.ofNat L) - (4 : Int32) = nI L - nI 4 from rfl, pk_sub_toInt (by omega) (by omega), show (nI x).toInt = (x : Int) from nI_toInt (by omega)]
  omega
theorem hp_tx_mono {c : Nat} {tf mt : Nat → Int32} {tl ml : Int32} (h : hp_tx c tf tl mt ml) : hp_tx (c + 1) tf tl mt ml := by
  obtain ⟨len, T, h1, h2⟩ := h
  exact ⟨len, T, by omega, h2⟩
set_option maxRecDepth 100000 in
set_option maxHeartbeats 4000000 in
theorem hp_whole {L : Nat} (hL : L ≤ 2048) (xs : Nat → Int32) : hx_v_Law L xs := by
  unfold hx_v_Law
  intro P18 P590 h18 h590
  have key : ∀ (d c : Nat) {fx_image_addresses : Nat → Int64} {fx_image_values : Nat → Int32} {fx_image_heldAddresses : Nat → Int64} {fx_image_heldValues : Nat → Int32} {fx_image_size : Int32} {fx_typed_characters : Nat → Int32} {fx_typed_length : Int32} {fx_typed_first : Int32} {fx_typed_behind : Int32} {fx_typed_digitsFrom : Int32} {fx_draft_bytes_addresses : Nat → Int64} {fx_draft_bytes_values : Nat → Int32} {fx_draft_bytes_size : Int32} {fx_draft_more : Int32} {fx_draft_start : Int64} {fx_draft_ended : Int32} {fx_colonReader_base : Int64} {fx_colonReader_segmented : Int32} {fx_sReader_dataRecords : Int32} {fx_teller_told : Nat → Int32} {fx_teller_toldLength : Int32} {fx_teller_at : Int32} {fx_teller_writing : Int32} {fx_teller_sum : Int32} {fx_teller_upperHalf : Int64} {fx_startAddress : Int64} {fx_faultPlace : Int32} {fm_thrown : Int32} {fm_addresses : Nat → Int64} {fm_values : Nat → Int32} {fm_size : Int32} {fm_hasStart : Int32} {fm_start : Int64} {fm_text : Nat → Int32} {fm_length : Int32} {fm_place : Int32} {fm_newAddresses : Nat → Int64} {fm_newValues : Nat → Int32} {fm_newSize : Int32} {fm_fresh : Int32} {fm_ended : Int32} {fm_newHasStart : Int32} {fm_newStart : Int64} {fm_base : Int64} {fm_segment : Int32} {fm_records : Int32} {fm_bytes : Nat → Int32} {fm_byteCount : Int32} {fm_fault : Int32} {fm_copied : Nat → Int32} {fm_told : Nat → Int32} {fm_drafted : Nat → Int32} {fm_toldSize : Int32} {fm_draftedSize : Int32} {fm_sum : Int32}, c ≤ 512 → L ≤ 4 * c + 4 * d → hp_im fx_image_addresses fx_image_values fx_image_size fm_addresses fm_values fm_size → hp_tx c fx_typed_characters fx_typed_length fm_text fm_length → hp_sa fx_startAddress fm_hasStart fm_start → hp_to fx_teller_told fx_teller_toldLength fm_told fm_toldSize → fx_faultPlace = fm_place → P18 (nI (4 * c)) fx_image_addresses fx_image_values fx_image_heldAddresses fx_image_heldValues fx_image_size fx_typed_characters fx_typed_length fx_typed_first fx_typed_behind fx_typed_digitsFrom fx_draft_bytes_addresses fx_draft_bytes_values fx_draft_bytes_size fx_draft_more fx_draft_start fx_draft_ended fx_colonReader_base fx_colonReader_segmented fx_sReader_dataRecords fx_teller_told fx_teller_toldLength fx_teller_at fx_teller_writing fx_teller_sum fx_teller_upperHalf fx_startAddress fx_faultPlace fm_thrown fm_addresses fm_values fm_size fm_hasStart fm_start fm_text fm_length fm_place fm_newAddresses fm_newValues fm_newSize fm_fresh fm_ended fm_newHasStart fm_newStart fm_base fm_segment fm_records fm_bytes fm_byteCount fm_fault fm_copied fm_told fm_drafted fm_toldSize fm_draftedSize fm_sum := by
    intro d
    induction d with
    | zero =>
      intro c _ _ _ _ _ _ _ _ _ _ _ _ _ _ _ _ _ _ _ _ _ _ _ _ _ _ _ _ _ _ _ _ _ _ _ _ _ _ _ _ _ _ _ _ _ _ _ _ _ _ _ _ _ _ _ hcb hd I T S J F
      apply h18
      refine ⟨fun _ => trivial, fun q => absurd ?_ q⟩
      exact hp_stop (by omega) (by omega) (by omega)
    | succ d ih =>
      intro c _ _ _ _ _ _ _ _ _ _ _ _ _ _ _ _ _ _ _ _ _ _ _ _ _ _ _ _ _ _ _ _ _ _ _ _ _ _ _ _ _ _ _ _ _ _ _ _ _ _ _ _ _ _ _ hcb hd I T S J F
      apply h18
      refine ⟨fun _ => trivial, fun q => ?_⟩
      have h4 : 4 * c + 4 ≤ L := hp_more ⟨hL, by omega⟩ q
      have hc : c < 512 := by omega
      have V1 : vp_in (nI (4 * c) + (1 : Int32)) L := by
        rw [show (1 : Int32) = nI 1 from rfl, nI_add]
        exact vp_in_nI (by omega) (by omega)
      have V2 : vp_in (nI (4 * c) + (2 : Int32)) L := by
        rw [show (2 : Int32) = nI 2 from rfl, nI_add]
        exact vp_in_nI (by omega) (by omega)
      have V3 : vp_in (nI (4 * c) + (3 : Int32)) L := by
        rw [show (3 : Int32) = nI 3 from rfl, nI_add]
        exact vp_in_nI (by omega) (by omega)
      have fin : ∀ {fx_image_addresses : Nat → Int64} {fx_image_values : Nat → Int32} {fx_image_heldAddresses : Nat → Int64} {fx_image_heldValues : Nat → Int32} {fx_image_size : Int32} {fx_typed_characters : Nat → Int32} {fx_typed_length : Int32} {fx_typed_first : Int32} {fx_typed_behind : Int32} {fx_typed_digitsFrom : Int32} {fx_draft_bytes_addresses : Nat → Int64} {fx_draft_bytes_values : Nat → Int32} {fx_draft_bytes_size : Int32} {fx_draft_more : Int32} {fx_draft_start : Int64} {fx_draft_ended : Int32} {fx_colonReader_base : Int64} {fx_colonReader_segmented : Int32} {fx_sReader_dataRecords : Int32} {fx_teller_told : Nat → Int32} {fx_teller_toldLength : Int32} {fx_teller_at : Int32} {fx_teller_writing : Int32} {fx_teller_sum : Int32} {fx_teller_upperHalf : Int64} {fx_startAddress : Int64} {fx_faultPlace : Int32} {fm_thrown : Int32} {fm_addresses : Nat → Int64} {fm_values : Nat → Int32} {fm_size : Int32} {fm_hasStart : Int32} {fm_start : Int64} {fm_text : Nat → Int32} {fm_length : Int32} {fm_place : Int32} {fm_newAddresses : Nat → Int64} {fm_newValues : Nat → Int32} {fm_newSize : Int32} {fm_fresh : Int32} {fm_ended : Int32} {fm_newHasStart : Int32} {fm_newStart : Int64} {fm_base : Int64} {fm_segment : Int32} {fm_records : Int32} {fm_bytes : Nat → Int32} {fm_byteCount : Int32} {fm_fault : Int32} {fm_copied : Nat → Int32} {fm_told : Nat → Int32} {fm_drafted : Nat → Int32} {fm_toldSize : Int32} {fm_draftedSize : Int32} {fm_sum : Int32}, hp_im fx_image_addresses fx_image_values fx_image_size fm_addresses fm_values fm_size → hp_tx (c + 1) fx_typed_characters fx_typed_length fm_text fm_length → hp_sa fx_startAddress fm_hasStart fm_start → hp_to fx_teller_told fx_teller_toldLength fm_told fm_toldSize → fx_faultPlace = fm_place → P590 (nI (4 * c)) fx_image_addresses fx_image_values fx_image_heldAddresses fx_image_heldValues fx_image_size fx_typed_characters fx_typed_length fx_typed_first fx_typed_behind fx_typed_digitsFrom fx_draft_bytes_addresses fx_draft_bytes_values fx_draft_bytes_size fx_draft_more fx_draft_start fx_draft_ended fx_colonReader_base fx_colonReader_segmented fx_sReader_dataRecords fx_teller_told fx_teller_toldLength fx_teller_at fx_teller_writing fx_teller_sum fx_teller_upperHalf fx_startAddress fx_faultPlace fm_thrown fm_addresses fm_values fm_size fm_hasStart fm_start fm_text fm_length fm_place fm_newAddresses fm_newValues fm_newSize fm_fresh fm_ended fm_newHasStart fm_newStart fm_base fm_segment fm_records fm_bytes fm_byteCount fm_fault fm_copied fm_told fm_drafted fm_toldSize fm_draftedSize fm_sum := by
        intro _ _ _ _ _ _ _ _ _ _ _ _ _ _ _ _ _ _ _ _ _ _ _ _ _ _ _ _ _ _ _ _ _ _ _ _ _ _ _ _ _ _ _ _ _ _ _ _ _ _ _ _ _ _ _ I T S J F
        apply h590
        rw [show nI (4 * c) + 4 = nI (4 * (c + 1)) from nI_add (4 * c) 4]
        exact ih (c + 1) (by omega) (by omega) I T S J F
      refine ⟨vp_in_nI (by omega) (by omega), fun _ => ?_, fun _ => ?_, fun _ => ?_, fun _ => ?_, fun _ => ?_, fun _ => ?_, fun _ => ?_, fun _ => ?_, fun _ => ?_, fun _ => ?_, fun _ => ?_, fun _ => ?_, fun _ => ?_, fun _ => ?_, fun _ => ?_, fun _ => ?_, fun _ => ?_, fun _ _ _ _ _ _ _ _ _ _ _ _ _ _ _ _ _ => fin I (hp_tx_mono T) S J F⟩
      · exact ⟨V1, V2, V3, hp_case0 T hc V1 V2 V3 (fun r tf tl th mt ml T => ⟨fun _ => fin I T S J F, fun q => absurd rfl q⟩)⟩
      · exact ⟨V1, hp_case1 I T hc S F V1 (fun _ _ _ _ _ _ _ _ _ _ _ _ _ _ _ _ _ _ _ _ _ _ _ _ _ _ _ _ _ _ _ _ _ _ _ _ _ _ _ _ I T S F => ⟨fun _ => fin I (hp_tx_mono T) S J F, fun q => absurd rfl q⟩)⟩
      · show (_ = _ → P590 (nI (4 * c)) _ _ _ _ _ _ _ _ _ _ _ _ _ _ _ _ _ _ _ _ _ _ _ _ _ _ _ _ _ _ _ _ _ _ _ _ _ _ _ _ _ _ _ _ _ _ _ _ _ _ _ _ _ _ _ ) ∧ (¬ _ = _ → False)
        exact ⟨fun _ => fin I (hp_tx_mono T) S J F, fun q => absurd F q⟩
      · exact ⟨V1, V2, hp_case3 I V1 V2 (fun r xa xv xs th ma mv ms I => ⟨fun _ => fin I (hp_tx_mono T) S J F, fun q => absurd rfl q⟩)⟩
      · exact ⟨V1, hp_case4 I V1 (fun r xa xv xs th ma mv ms I => ⟨fun _ => fin I (hp_tx_mono T) S J F, fun q => absurd rfl q⟩)⟩
      · exact ⟨V1, hp_case5 I V1 (fun r th => ⟨fun _ => fin I (hp_tx_mono T) S J F, fun q => absurd rfl q⟩)⟩
      · exact ⟨V1, V2, V3, hp_case6 I V1 V2 V3 (fun r xa xv xs th ma mv ms I => ⟨fun _ => fin I (hp_tx_mono T) S J F, fun q => absurd rfl q⟩)⟩
      · exact ⟨V1, V2, V3, hp_case7 I V1 V2 V3 (fun r xa xv ha hv xs th ma mv ms cp I => ⟨fun _ => fin I (hp_tx_mono T) S J F, fun q => absurd rfl q⟩)⟩
      · exact hp_case8 I (fun r xs th ms I => ⟨fun _ => fin I (hp_tx_mono T) S J F, fun q => absurd rfl q⟩)
      · exact ⟨V1, V2, hp_case9 S V1 V2 (fun r st th mhs mst S => ⟨fun _ => fin I (hp_tx_mono T) S J F, fun q => absurd rfl q⟩)⟩
      · exact hp_case10 S (fun r th => ⟨fun _ => fin I (hp_tx_mono T) S J F, fun q => absurd rfl q⟩)
      · exact ⟨V1, hp_case11 I J V1 (fun r th => ⟨fun _ => fin I (hp_tx_mono T) S J F, fun q => absurd rfl q⟩)⟩
      · exact ⟨V1, V2, hp_case12 I V1 V2 (fun r th => ⟨fun _ => fin I (hp_tx_mono T) S J F, fun q => absurd rfl q⟩)⟩
      · exact ⟨V1, hp_case13 I V1 (fun r th => ⟨fun _ => fin I (hp_tx_mono T) S J F, fun q => absurd rfl q⟩)⟩
      · exact ⟨V1, V2, hp_case14 I J S V1 V2 (fun r told tn at1 wr sm up th mtold dr mtn ds msm J => ⟨fun _ => fin I (hp_tx_mono T) S J F, fun q => absurd rfl q⟩)⟩
      · exact ⟨V1, hp_case15 J V1 (fun r th => ⟨fun _ => fin I (hp_tx_mono T) S J F, fun q => absurd rfl q⟩)⟩
      · exact hp_case16 I (fun r th => ⟨fun _ => fin I (hp_tx_mono T) S J F, fun q => absurd rfl q⟩)
  have h0 : ∀ (a a2 : Nat → Int64) (v v2 : Nat → Int32), hp_im a v 0 a2 v2 0 := fun a a2 v v2 => ⟨0, 0, fun _ => none, by omega, by omega, hp_R0 _ _, hp_R0 _ _, rfl, rfl⟩
  exact key L 0 (by omega) (by omega) (h0 _ _ _ _) ⟨0, fun _ => 0, Nat.zero_le _, fun j hj => absurd hj (Nat.not_lt_zero j), fun j hj => absurd hj (Nat.not_lt_zero j), rfl, rfl⟩ ⟨none, rfl, Or.inl ⟨rfl, rfl⟩⟩ ⟨0, Nat.zero_le _, rfl, rfl, fun j hj => absurd hj (Nat.not_lt_zero j)⟩ rfl
