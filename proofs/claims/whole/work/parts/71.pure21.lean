/-! telling: records of the two kinds, of the class and of the reference -/
def hp_rc (E bs : List Nat) : List Nat := hp_sp E ++ [58] ++ hp_os bs ++ hp_o ((256 - hp_sl bs % 256) % 256)
def hp_rs (E : List Nat) (t : Nat) (bs : List Nat) : List Nat := hp_sp E ++ [83] ++ [48 + t] ++ hp_os bs ++ hp_o (255 - hp_sl bs % 256)
theorem hp_rc_ge (E bs : List Nat) : E.length ≤ (hp_rc E bs).length := by
  unfold hp_rc hp_sp
  simp only [List.length_append]
  omega
theorem hp_rs_ge (E : List Nat) (t : Nat) (bs : List Nat) : E.length ≤ (hp_rs E t bs).length := by
  unfold hp_rs hp_sp
  simp only [List.length_append]
  omega
theorem hp_rc_le (E bs : List Nat) : (hp_rc E bs).length ≤ E.length + 4 + 2 * bs.length := by
  unfold hp_rc
  have := hp_sp_len E
  simp only [List.length_append, hp_os_len]
  show (hp_sp E).length + 1 + 2 * bs.length + 2 ≤ _
  omega
theorem hp_rs_le (E : List Nat) (t : Nat) (bs : List Nat) : (hp_rs E t bs).length ≤ E.length + 5 + 2 * bs.length := by
  unfold hp_rs
  have := hp_sp_len E
  simp only [List.length_append, hp_os_len]
  show (hp_sp E).length + 1 + 1 + 2 * bs.length + 2 ≤ _
  omega
section HPY2
variable {w : Bool} {t0 told : Nat → Int32} {E bs : List Nat} {at' sm : Int32}
theorem hp_cat (E bs : List Nat) (x : Nat) : E ++ hp_os (bs ++ [x]) = E ++ hp_os bs ++ hp_o x := by
  rw [hp_os_app, List.append_assoc]
  rfl
theorem hp_YZ {x : Nat} (h : hp_Y w t0 E (bs ++ [x]) told at' sm) : hp_Z w t0 (E ++ hp_os bs ++ hp_o x) told at' := by
  obtain ⟨h1, h2, _⟩ := h
  rw [hp_cat] at h1 h2
  exact ⟨h1, h2⟩
theorem hp_sl40 (hb : hp_a8 bs) (hn : bs.length ≤ 40) : hp_sl bs < 10240 := by
  have := hp_sl_le bs hb
  omega
theorem hp_closeC (h : hp_Y w t0 E bs told at' sm) (hb : hp_a8 bs) (hn : bs.length ≤ 40) (hl : E.length ≤ 999000) {Q : (Nat → Int32) → Int32 → Int32 → Prop} (k : ∀ told' a' s', hp_Z w t0 (E ++ hp_os bs ++ hp_o ((256 - hp_sl bs % 256) % 256)) told' a' → Q told' a' s') : hx_v_Teller_closeColon told at' (hp_b w) sm Q := by
  unfold hx_v_Teller_closeColon
  rw [show sm = nI (hp_sl bs) from h.2.2, hp_c0 (hp_sl40 hb hn), ← show sm = nI (hp_sl bs) from h.2.2]
  exact hp_octetY h (by omega) (Nat.mod_lt _ (by decide)) (fun t a s hy => k t a s (hp_YZ hy))
theorem hp_closeS (h : hp_Y w t0 E bs told at' sm) (hb : hp_a8 bs) (hn : bs.length ≤ 40) (hl : E.length ≤ 999000) {Q : (Nat → Int32) → Int32 → Int32 → Prop} (k : ∀ told' a' s', hp_Z w t0 (E ++ hp_os bs ++ hp_o (255 - hp_sl bs % 256)) told' a' → Q told' a' s') : hx_v_Teller_closeS told at' (hp_b w) sm Q := by
  unfold hx_v_Teller_closeS
  rw [show sm = nI (hp_sl bs) from h.2.2, hp_c1 (hp_sl40 hb hn), ← show sm = nI (hp_sl bs) from h.2.2]
  exact hp_octetY h (by omega) (by omega) (fun t a s hy => k t a s (hp_YZ hy))
theorem hp_d0 {s : Nat} (h : s < 10240) : ∃ y, ((((0 : Int32) - nI s) - ((0 : Int32) - nI s) / (256 : Int32) * (256 : Int32)) + (256 : Int32)).toInt64 = lN y ∧ y < 2 ^ 64 ∧ y % 256 = (256 - s % 256) % 256 := by
  have := hp_d0' (s / 256) (by omega) (s % 256) (Nat.mod_lt _ (by decide))
  rw [Nat.div_add_mod] at this
  rw [this, hp_il (by omega)]
  exact ⟨_, rfl, by omega, by omega⟩
theorem hp_d1 {s : Nat} (h : s < 10240) : ∃ y, ((((255 : Int32) - nI s) - ((255 : Int32) - nI s) / (256 : Int32) * (256 : Int32)) + (256 : Int32)).toInt64 = lN y ∧ y < 2 ^ 64 ∧ y % 256 = 255 - s % 256 := by
  have := hp_d1' (s / 256) (by omega) (s % 256) (Nat.mod_lt _ (by decide))
  rw [Nat.div_add_mod] at this
  have hb : (if s / 256 = 0 then 511 - s % 256 else if s % 256 = 255 then 256 else 255 - s % 256) < 512 ∧ (if s / 256 = 0 then 511 - s % 256 else if s % 256 = 255 then 256 else 255 - s % 256) % 256 = 255 - s % 256 := by
    split
    · omega
    · split <;> omega
  rw [this, hp_il (by omega)]
  exact ⟨_, rfl, by omega, hb.2⟩
theorem hp_nbm {y : Nat} : hp_nb y 1 = [y % 256] := by
  show [y / 2 ^ 0 % 256] = [y % 256]
  rw [Nat.pow_zero, Nat.div_one]
theorem hp_closeM0 (h : hp_Y true t0 E bs told at' sm) (hb : hp_a8 bs) (hn : bs.length ≤ 40) (hl : E.length ≤ 999000) {Q : (Nat → Int32) → Int32 → Int32 → Prop} (k : ∀ told' a' s', hp_Z true t0 (E ++ hp_os bs ++ hp_o ((256 - hp_sl bs % 256) % 256)) told' a' → Q told' a' s') : hx_v_Model_close (0 : Int32) told at' sm Q := by
  unfold hx_v_Model_close
  obtain ⟨y, e1, e2, e3⟩ := hp_d0 (hp_sl40 hb hn)
  rw [show sm = nI (hp_sl bs) from h.2.2, e1, ← show sm = nI (hp_sl bs) from h.2.2]
  refine hp_sayBytesY (m := 1) h e2 (by omega) (by omega) (fun t a s hy => k t a s ?_)
  rw [hp_nbm, e3] at hy
  exact hp_YZ hy
theorem hp_closeM1 (h : hp_Y true t0 E bs told at' sm) (hb : hp_a8 bs) (hn : bs.length ≤ 40) (hl : E.length ≤ 999000) {Q : (Nat → Int32) → Int32 → Int32 → Prop} (k : ∀ told' a' s', hp_Z true t0 (E ++ hp_os bs ++ hp_o (255 - hp_sl bs % 256)) told' a' → Q told' a' s') : hx_v_Model_close (255 : Int32) told at' sm Q := by
  unfold hx_v_Model_close
  obtain ⟨y, e1, e2, e3⟩ := hp_d1 (hp_sl40 hb hn)
  rw [show sm = nI (hp_sl bs) from h.2.2, e1, ← show sm = nI (hp_sl bs) from h.2.2]
  refine hp_sayBytesY (m := 1) h e2 (by omega) (by omega) (fun t a s hy => k t a s ?_)
  rw [hp_nbm, e3] at hy
  exact hp_YZ hy
/-! opening -/
theorem hp_openM (h : hp_Z true t0 E told at') (hl : E.length ≤ 990000) {Q : (Nat → Int32) → Int32 → Int32 → Prop} (k : ∀ told' a', hp_Z true t0 (hp_sp E) told' a' → Q told' a' 0) : hx_v_Model_open told at' sm Q := by
  obtain ⟨h1, h2⟩ := h
  subst h2
  unfold hx_v_Model_open
  intro P13 h13
  refine ⟨fun z => ?_, fun z => ?_⟩
  · have h0 := (nI_leI (b := 0) (by omega) (by omega)).mp z
    have hE : E = [] := List.eq_nil_of_length_eq_zero (by omega)
    apply h13
    refine k _ _ ?_
    unfold hp_sp
    rw [if_pos hE, List.append_nil]
    exact ⟨h1, rfl⟩
  · have h0 : ¬ E.length ≤ 0 := fun u => z ((nI_leI (b := 0) (by omega) (by omega)).mpr u)
    have hE : ¬ E = [] := fun e => h0 (by rw [e]; exact Nat.le_refl _)
    refine hp_sayM (c := 32) h1 (by omega) (by omega) (fun t1 hb => ?_)
    apply h13
    refine k _ _ ?_
    unfold hp_sp
    rw [if_neg hE]
    exact ⟨hb, rfl⟩
theorem hp_sayZ (h : hp_Z true t0 E told at') (hl : E.length ≤ 995000) {c : Nat} (hc : c < 128) {Q : (Nat → Int32) → Int32 → Prop} (k : ∀ told' a', hp_Z true t0 (E ++ [c]) told' a' → Q told' a') : hx_v_Model_say (nI c) told at' Q := by
  obtain ⟨h1, h2⟩ := h
  subst h2
  exact hp_sayM h1 (by omega) hc (fun t hb => k _ _ ⟨hb, rfl⟩)
theorem hp_putZ (h : hp_Z w t0 E told at') (hl : E.length ≤ 995000) {c : Nat} (hc : c < 128) {Q : (Nat → Int32) → Int32 → Prop} (k : ∀ told' a', hp_Z w t0 (E ++ [c]) told' a' → Q told' a') : hx_v_Teller_put (nI c) told at' (hp_b w) Q := by
  obtain ⟨h1, h2⟩ := h
  subst h2
  exact hp_putX h1 (by omega) hc (fun t hb => k _ _ ⟨hb, rfl⟩)
theorem hp_markZ (h : hp_Z w t0 E told at') (hl : E.length ≤ 990000) {c : Nat} (hc : c < 128) {Q : (Nat → Int32) → Int32 → Int32 → Prop} (k : ∀ told' a', hp_Z w t0 (hp_sp E ++ [c]) told' a' → Q told' a' (nI 0)) : hx_v_Teller_mark (nI c) told at' (hp_b w) sm Q := by
  obtain ⟨h1, h2⟩ := h
  subst h2
  exact hp_markX h1 (by omega) hc (fun t hb => k _ _ ⟨hb, rfl⟩)
theorem hp_len1 (E : List Nat) (c : Nat) : (E ++ [c]).length = E.length + 1 := by rw [List.length_append]; rfl
theorem hp_openC (h : hp_Z w t0 E told at') (hl : E.length ≤ 990000) {n off t : Nat} (hn : n < 256) (ho : off < 65536) (ht : t < 256) {Q : (Nat → Int32) → Int32 → Int32 → Prop} (k : ∀ told' a' s', hp_Y w t0 (hp_sp E ++ [58]) [n, off / 256, off % 256, t] told' a' s' → Q told' a' s') : hx_v_Teller_openColon (nI n) (nI off) (nI t) told at' (hp_b w) sm Q := by
  unfold hx_v_Teller_openColon
  have hs := hp_sp_len E
  have h1 := hp_len1 (hp_sp E) 58
  rw [pk_shrN (by omega) _ 8 rfl, pk_andN (by omega) 8 rfl]
  refine hp_markZ (c := 58) h hl (by omega) (fun t1 a1 z => ?_)
  refine hp_octetY (hp_Yz z) (by show _ + 2 * 0 + 2 ≤ _; omega) hn (fun t2 a2 s2 y => ?_)
  refine hp_octetY y (by show _ + 2 * 1 + 2 ≤ _; omega) (by omega) (fun t2 a2 s2 y => ?_)
  refine hp_octetY y (by show _ + 2 * 2 + 2 ≤ _; omega) (by omega) (fun t2 a2 s2 y => ?_)
  exact hp_octetY y (by show _ + 2 * 3 + 2 ≤ _; omega) ht (fun t2 a2 s2 y => k _ _ _ y)
theorem hp_nb2 {off : Nat} (h : off < 65536) : hp_nb off 2 = [off / 256, off % 256] := by
  show [off / 2 ^ 8 % 256, off / 2 ^ 0 % 256] = _
  rw [Nat.pow_zero, Nat.div_one, show (2 : Nat) ^ 8 = 256 from rfl, Nat.mod_eq_of_lt (by omega : off / 256 < 256)]
theorem hp_colonM (h : hp_Z true t0 E told at') (hl : E.length ≤ 990000) {n off t : Nat} (hn : n < 256) (ho : off < 65536) (ht : t < 256) {Q : (Nat → Int32) → Int32 → Int32 → Prop} (k : ∀ told' a' s', hp_Y true t0 (hp_sp E ++ [58]) [n, off / 256, off % 256, t] told' a' s' → Q told' a' s') : hx_v_Model_colon (nI n) (lN off) (nI t) told at' sm Q := by
  unfold hx_v_Model_colon
  have hs := hp_sp_len E
  have h1 := hp_len1 (hp_sp E) 58
  refine hp_openM h hl (fun t1 a1 z => ?_)
  refine hp_sayZ (c := 58) z (by omega) (by omega) (fun t1 a1 z => ?_)
  refine hp_say1Y (hp_Yz z) hn (by show _ + 2 * 0 + 2 ≤ _; omega) (fun t2 a2 s2 y => ?_)
  refine hp_sayBytesY (m := 2) y (by omega) (by omega) (by show _ + 2 * 1 + 4 ≤ _; omega) (fun t2 a2 s2 y => ?_)
  rw [hp_nb2 ho] at y
  exact hp_say1Y y ht (by show _ + 2 * 3 + 2 ≤ _; omega) (fun t2 a2 s2 y => k _ _ _ y)
theorem hp_openS (h : hp_Z w t0 E told at') (hl : E.length ≤ 990000) {t n wd ad : Nat} (ht : t < 10) (hn : wd + n + 1 < 256) (hw : wd ≤ 4) (ha : ad < 2 ^ 62) {Q : (Nat → Int32) → Int32 → Int32 → Prop} (k : ∀ told' a' s', hp_Y w t0 (hp_sp E ++ [83] ++ [48 + t]) ([wd + n + 1] ++ hp_nb ad wd) told' a' s' → Q told' a' s') : hx_v_Teller_openS (nI t) (nI n) (nI wd) (lN ad) told at' (hp_b w) sm Q := by
  unfold hx_v_Teller_openS
  have hs := hp_sp_len E
  have h1 := hp_len1 (hp_sp E) 83
  have h2 := hp_len1 (hp_sp E ++ [83]) (48 + t)
  rw [show (48 : Int32) = nI 48 from rfl, nI_add, nI_add, nI_1]
  refine hp_markZ (c := 83) h hl (by omega) (fun t1 a1 z => ?_)
  refine hp_putZ z (by omega) (by omega) (fun t1 a1 z => ?_)
  refine hp_octetY (hp_Yz z) (by show _ + 2 * 0 + 2 ≤ _; omega) hn (fun t2 a2 s2 y => ?_)
  exact hp_numberY y ha hw (by show _ + 2 * 1 + _ ≤ _; omega) (fun t2 a2 s2 y => k _ _ _ y)
theorem hp_letterR {v : Nat → Int32} {V : Nat → Nat} {f n N : Nat} (hN : N ≤ 3000) (hm : f + n ≤ N) (hv : ∀ j, j < N → v j = nI (V j) ∧ V j < 256) (h : hp_Z true t0 E told at') (hl : E.length ≤ 990000) {t wd ad : Nat} (ht : t < 10) (hn : n ≤ 32) (hw : wd ≤ 4) (ha : ad < 2 ^ 62) {Q : (Nat → Int32) → Int32 → Int32 → Prop} (k : ∀ told' a' s', hp_Z true t0 (hp_rs E t ([wd + n + 1] ++ hp_nb ad wd ++ hp_dl V f n)) told' a' → Q told' a' s') : hx_v_Model_letterRecord (nI t) (lN ad) (nI wd) (nI f) (nI n) v told at' sm Q := by
  unfold hx_v_Model_letterRecord
  have hs := hp_sp_len E
  have h1 := hp_len1 (hp_sp E) 83
  have h2 := hp_len1 (hp_sp E ++ [83]) (48 + t)
  rw [show (48 : Int32) = nI 48 from rfl, nI_add, show nI wd + (1 : Int32) = nI (wd + 1) from nI_1 wd, nI_add, show wd + 1 + n = wd + n + 1 by omega]
  refine hp_openM h hl (fun t1 a1 z => ?_)
  refine hp_sayZ (c := 83) z (by omega) (by omega) (fun t1 a1 z => ?_)
  refine hp_sayZ z (by omega) (by omega) (fun t1 a1 z => ?_)
  refine hp_say1Y (hp_Yz z) (by omega) (by show _ + 2 * 0 + 2 ≤ _; omega) (fun t2 a2 s2 y => ?_)
  refine hp_sayBytesY y (by omega) hw (by show _ + 2 * 1 + _ ≤ _; omega) (fun t2 a2 s2 y => ?_)
  have e3 : ([wd + n + 1] ++ hp_nb ad wd).length = 1 + wd := by rw [List.length_append, hp_nb_len]; rfl
  refine hp_dataM hN hm hv y (by show _ + 2 * ([wd + n + 1] ++ hp_nb ad wd).length + _ ≤ _; omega) (fun t2 a2 s2 y => ?_)
  refine hp_closeM1 y (hp_a8_app (hp_a8_app (hp_a8_1 (by omega)) (hp_a8_nb _ _)) (hp_a8_dl _ fun j hj => (hv _ (by omega)).2)) (by rw [List.length_append, List.length_append, hp_nb_len, hp_dl_len]; show 1 + wd + n ≤ 40; omega) (by omega) (fun t2 a2 s2 z => k _ _ _ z)
end HPY2
