/-! telling: what is written, character by character -/
def hp_hx (d : Nat) : Nat := if d < 10 then 48 + d else 55 + d
def hp_o (v : Nat) : List Nat := [hp_hx (v / 16), hp_hx (v % 16)]
def hp_os : List Nat → List Nat
  | [] => []
  | b :: l => hp_o b ++ hp_os l
def hp_sl : List Nat → Nat
  | [] => 0
  | b :: l => b + hp_sl l
def hp_nb (a : Nat) : Nat → List Nat
  | 0 => []
  | m + 1 => (a / 2 ^ (8 * m) % 256) :: hp_nb a m
theorem hp_os_len : ∀ l, (hp_os l).length = 2 * l.length
  | [] => rfl
  | b :: l => by
    show (hp_o b ++ hp_os l).length = 2 * (l.length + 1)
    rw [List.length_append, hp_os_len l]
    show 2 + _ = _
    omega
theorem hp_os_app : ∀ l l', hp_os (l ++ l') = hp_os l ++ hp_os l'
  | [], l' => rfl
  | b :: l, l' => by
    show hp_o b ++ hp_os (l ++ l') = hp_o b ++ hp_os l ++ hp_os l'
    rw [hp_os_app l l', List.append_assoc]
theorem hp_sl_app : ∀ l l', hp_sl (l ++ l') = hp_sl l + hp_sl l'
  | [], l' => by simp [hp_sl]
  | b :: l, l' => by
    show b + hp_sl (l ++ l') = b + hp_sl l + hp_sl l'
    rw [hp_sl_app l l']
    omega
theorem hp_nb_len (a : Nat) : ∀ m, (hp_nb a m).length = m
  | 0 => rfl
  | m + 1 => by
    show (hp_nb a m).length + 1 = m + 1
    rw [hp_nb_len a m]
theorem hp_hx_lt {d : Nat} (h : d < 16) : hp_hx d < 128 := by
  unfold hp_hx
  split <;> omega
theorem hp_hi4 : ∀ v, v < 256 → ((nI v >>> ((4 : Int32) &&& 31)) &&& (15 : Int32)) = nI (v / 16) := by decide +kernel
theorem hp_lo4 : ∀ v, v < 256 → (nI v &&& (15 : Int32)) = nI (v % 16) := by decide +kernel
/-- a buffer of 12000: E has been told; where it is written (w) it holds it, else it is as it was -/
def hp_BF (w : Bool) (t0 : Nat → Int32) (E : List Nat) (told : Nat → Int32) : Prop := E.length ≤ 1000000 ∧ (w = false → told = t0) ∧ (w = true → ∀ k, k < E.length → k < 12000 → told k = nI (E.getD k 0))
theorem hp_getD_l {E : List Nat} {c k : Nat} (h : k < E.length) : (E ++ [c]).getD k 0 = E.getD k 0 := by
  rw [List.getD_eq_getElem?_getD, List.getD_eq_getElem?_getD, List.getElem?_append_left h]
theorem hp_getD_r {E : List Nat} {c : Nat} : (E ++ [c]).getD E.length 0 = c := by
  rw [List.getD_eq_getElem?_getD, List.getElem?_append_right (Nat.le_refl _)]
  simp
theorem hp_emit {w : Bool} {t0 told : Nat → Int32} {E : List Nat} (h : hp_BF w t0 E told) (hl : E.length < 1000000) {c : Nat} : (w = false → hp_BF w t0 (E ++ [c]) told) ∧ (12000 ≤ E.length → hp_BF w t0 (E ++ [c]) told) ∧ (w = true → hp_BF w t0 (E ++ [c]) (upd told E.length (nI c))) := by
  have hlen : (E ++ [c]).length = E.length + 1 := by rw [List.length_append]; rfl
  refine ⟨fun hw => ⟨by omega, h.2.1, fun hw' => ?_⟩, fun hge => ⟨by omega, h.2.1, fun hw' k hk hk2 => ?_⟩, fun hw => ⟨by omega, fun hw' => ?_, fun _ k hk hk2 => ?_⟩⟩
  · rw [hw] at hw'; cases hw'
  · rw [hp_getD_l (by omega)]
    exact h.2.2 hw' k (by omega) hk2
  · rw [hw] at hw'; cases hw'
  · by_cases e : k = E.length
    · rw [e, pk_us, hp_getD_r]
    · rw [pk_un e, hp_getD_l (by omega)]
      exact h.2.2 hw k (by omega) hk2
section HPE
variable {w : Bool} {t0 told : Nat → Int32} {E : List Nat}
theorem hp_putX (h : hp_BF w t0 E told) (hl : E.length < 1000000) {c : Nat} (hc : c < 128) {Q : (Nat → Int32) → Int32 → Prop} (k : ∀ told', hp_BF w t0 (E ++ [c]) told' → Q told' (nI (E ++ [c]).length)) : hx_v_Teller_put (nI c) told (nI E.length) (hp_b w) Q := by
  unfold hx_v_Teller_put
  intro P28 h28
  have hlen : (E ++ [c]).length = E.length + 1 := by rw [List.length_append]; rfl
  obtain ⟨e1, e2, e3⟩ := hp_emit (c := c) h hl
  rw [hlen] at k
  have go : ∀ told', hp_BF w t0 (E ++ [c]) told' → P28 told' (nI E.length) := by
    intro told' hb
    apply h28
    rw [nI_1]
    exact k told' hb
  refine ⟨fun z => go _ (e1 (hp_b_0.mp z)), fun z => ⟨fun y => go _ (e2 ((nI_leI (a := 12000) (by omega) (by omega)).mp y)), fun y => ⟨vp_in_nI (Nat.not_le.mp fun u => y ((nI_leI (a := 12000) (by omega) (by omega)).mpr u)) (by omega), ?_⟩⟩⟩
  have hw : w = true := by
    cases w with
    | true => rfl
    | false => exact absurd rfl z
  rw [hp_cl (by omega), hp_b8 c hc, vp_nar_byte, hp_b8 c hc]
  exact go _ (e3 hw)
theorem hp_sayM (h : hp_BF true t0 E told) (hl : E.length < 1000000) {c : Nat} (hc : c < 128) {Q : (Nat → Int32) → Int32 → Prop} (k : ∀ told', hp_BF true t0 (E ++ [c]) told' → Q told' (nI (E ++ [c]).length)) : hx_v_Model_say (nI c) told (nI E.length) Q := by
  unfold hx_v_Model_say
  intro P21 h21
  have hlen : (E ++ [c]).length = E.length + 1 := by rw [List.length_append]; rfl
  obtain ⟨e1, e2, e3⟩ := hp_emit (c := c) h hl
  rw [hlen] at k
  have go : ∀ told', hp_BF true t0 (E ++ [c]) told' → P21 told' (nI E.length) := by
    intro told' hb
    apply h21
    rw [nI_1]
    exact k told' hb
  refine ⟨fun y => go _ (e2 ((nI_leI (a := 12000) (by omega) (by omega)).mp y)), fun y => ⟨vp_in_nI (Nat.not_le.mp fun u => y ((nI_leI (a := 12000) (by omega) (by omega)).mpr u)) (by omega), ?_⟩⟩
  rw [hp_cl (by omega), hp_b8 c hc, vp_nar_byte, hp_b8 c hc]
  exact go _ (e3 rfl)
theorem hp_digitX {d : Nat} (hd : d < 16) {Q : Int32 → Prop} (k : Q (nI (hp_hx d))) : hx_v_Teller_digit (nI d) Q := by
  unfold hx_v_Teller_digit
  unfold hp_hx at k
  refine ⟨fun z => ?_, fun z => ?_⟩
  · have := (nI_leI (a := 10) (by omega) (by omega)).mp z
    rw [if_neg (by omega)] at k
    rw [show (65 : Int32) = nI 65 from rfl, nI_add, show (10 : Int32) = nI 10 from rfl, pk_sub (by omega), show 65 + d - 10 = 55 + d by omega]
    exact k
  · have : ¬ 10 ≤ d := fun u => z ((nI_leI (a := 10) (by omega) (by omega)).mpr u)
    rw [if_pos (by omega)] at k
    rw [show (48 : Int32) = nI 48 from rfl, nI_add]
    exact k
theorem hp_letterM {d : Nat} (hd : d < 16) {Q : Int32 → Prop} (k : Q (nI (hp_hx d))) : hx_v_Model_letter (nI d) Q := hp_digitX hd k
theorem hp_octet (h : hp_BF w t0 E told) (hl : E.length + 2 ≤ 1000000) {v s : Nat} (hv : v < 256) {Q : (Nat → Int32) → Int32 → Int32 → Prop} (k : ∀ told', hp_BF w t0 (E ++ hp_o v) told' → Q told' (nI (E ++ hp_o v).length) (nI (s + v))) : hx_v_Teller_octet (nI v) told (nI E.length) (hp_b w) (nI s) Q := by
  unfold hx_v_Teller_octet
  rw [hp_hi4 v hv, hp_lo4 v hv]
  refine hp_digitX (by omega) (hp_putX h (by omega) (hp_hx_lt (by omega)) (fun t1 h1 => hp_digitX (by omega) (hp_putX h1 (by rw [List.length_append]; show E.length + 1 < _; omega) (hp_hx_lt (by omega)) (fun t2 h2 => ?_))))
  rw [nI_add]
  rw [List.append_assoc] at h2 ⊢
  exact k t2 h2
theorem hp_markX (h : hp_BF w t0 E told) (hl : E.length + 2 ≤ 1000000) {c : Nat} (hc : c < 128) {sm : Int32} {Q : (Nat → Int32) → Int32 → Int32 → Prop} (k : ∀ told', hp_BF w t0 (E ++ (if E = [] then [] else [32]) ++ [c]) told' → Q told' (nI (E ++ (if E = [] then [] else [32]) ++ [c]).length) (nI 0)) : hx_v_Teller_mark (nI c) told (nI E.length) (hp_b w) sm Q := by
  unfold hx_v_Teller_mark
  intro P13 h13
  refine ⟨fun z => ?_, fun z => ?_⟩
  · have h0 := (nI_leI (b := 0) (by omega) (by omega)).mp z
    have hE : E = [] := List.eq_nil_of_length_eq_zero (by omega)
    apply h13
    rw [if_pos hE, List.append_nil] at k
    exact hp_putX h (by omega) hc k
  · have h0 : ¬ E.length ≤ 0 := fun u => z ((nI_leI (b := 0) (by omega) (by omega)).mpr u)
    have hE : ¬ E = [] := fun e => h0 (by rw [e]; exact Nat.le_refl _)
    rw [if_neg hE] at k
    refine hp_putX (c := 32) h (by omega) (by omega) (fun t1 h1 => ?_)
    apply h13
    exact hp_putX h1 (by rw [List.length_append]; show E.length + 1 < _; omega) hc k
theorem hp_byv {a i : Nat} (ha : a < 2 ^ 62) (hi : i < 8) : ((lN a >>> (((8 : Int32) * nI i).toInt64 &&& 63)).toInt32 &&& (255 : Int32)) = nI (a / 2 ^ (8 * i) % 256) := by
  rw [show (8 : Int32) * nI i = nI (8 * i) from pk_mul 8 i, wb_c _ (by omega), pf_shr (d := 8 * i) (by rw [wb_tb, wb_sm _ (by omega), BitVec.toNat_ofNat, Nat.mod_eq_of_lt (by omega)]) ha, lN_i, pk_and _ 8 rfl]
  generalize a / 2 ^ (8 * i) = x
  have e : (nI x).toBitVec.toNat = x % 2 ^ 32 := BitVec.toNat_ofNat ..
  rw [e]
  exact congrArg nI (by omega)
theorem hp_numberX {a s : Nat} (ha : a < 2 ^ 62) : ∀ {m : Nat} {E : List Nat} {told : Nat → Int32} {s : Nat}, hp_BF w t0 E told → m ≤ 4 → E.length + 2 * m ≤ 1000000 → ∀ {Q : (Nat → Int32) → Int32 → Int32 → Prop}, (∀ told', hp_BF w t0 (E ++ hp_os (hp_nb a m)) told' → Q told' (nI (E ++ hp_os (hp_nb a m)).length) (nI (s + hp_sl (hp_nb a m)))) → hx_v_Teller_number (lN a) (nI m) told (nI E.length) (hp_b w) (nI s) Q := by
  intro m E told s h hm hl Q k
  unfold hx_v_Teller_number
  intro P5 h5 z hz
  subst hz
  have key : ∀ j E1 t1 s1, hp_BF w t0 E1 t1 → j ≤ 4 → E1.length + 2 * j ≤ 1000000 → E1 ++ hp_os (hp_nb a j) = E ++ hp_os (hp_nb a m) → s1 + hp_sl (hp_nb a j) = s + hp_sl (hp_nb a m) → P5 (nI j - 1) t1 (nI E1.length) (nI s1) := by
    intro j
    induction j with
    | zero =>
      intro E1 t1 s1 hb _ _ e1 e2
      apply h5
      refine ⟨fun _ => ?_, fun y => absurd (by decide) y⟩
      have e1 : E1 = E ++ hp_os (hp_nb a m) := by rw [← e1]; show E1 = E1 ++ []; rw [List.append_nil]
      have e2 : s1 = s + hp_sl (hp_nb a m) := e2
      rw [e1, e2]
      rw [e1] at hb
      exact k t1 hb
    | succ j ih =>
      intro E1 t1 s1 hb hj hl1 e1 e2
      rw [show nI (j + 1) - 1 = nI j from nI_pred j]
      apply h5
      refine ⟨fun y => absurd y (nI_pos (by omega)), fun _ => ?_⟩
      rw [hp_byv ha (by omega)]
      refine hp_octet hb (by omega) (Nat.mod_lt _ (by decide)) (fun t2 hb2 => ?_)
      rw [show nI j + (-1) = nI j - 1 by rw [Int32.sub_eq_add_neg]]
      refine ih _ t2 _ hb2 (by omega) (by rw [List.length_append]; show E1.length + 2 + _ ≤ _; omega) ?_ ?_
      · rw [List.append_assoc]
        exact e1
      · rw [Nat.add_assoc]
        exact e2
  exact key m E told s h hm hl rfl rfl
theorem hp_sayBytesM {a : Nat} (ha : a < 2 ^ 64) {m : Nat} {s : Nat} (h : hp_BF true t0 E told) (hm : m ≤ 4) (hl : E.length + 2 * m ≤ 1000000) {Q : (Nat → Int32) → Int32 → Int32 → Prop} (k : ∀ told', hp_BF true t0 (E ++ hp_os (hp_nb a m)) told' → Q told' (nI (E ++ hp_os (hp_nb a m)).length) (nI (s + hp_sl (hp_nb a m)))) : hx_v_Model_sayBytes (lN a) (nI m) told (nI E.length) (nI s) Q := by
  unfold hx_v_Model_sayBytes
  intro P5 h5 z hz
  subst hz
  have key : ∀ j E1 t1 s1, hp_BF true t0 E1 t1 → j ≤ 4 → E1.length + 2 * j ≤ 1000000 → E1 ++ hp_os (hp_nb a j) = E ++ hp_os (hp_nb a m) → s1 + hp_sl (hp_nb a j) = s + hp_sl (hp_nb a m) → P5 (nI j - 1) t1 (nI E1.length) (nI s1) := by
    intro j
    induction j with
    | zero =>
      intro E1 t1 s1 hb _ _ e1 e2
      apply h5
      refine ⟨fun _ => ?_, fun y => absurd (by decide) y⟩
      have e1 : E1 = E ++ hp_os (hp_nb a m) := by rw [← e1]; show E1 = E1 ++ []; rw [List.append_nil]
      have e2 : s1 = s + hp_sl (hp_nb a m) := e2
      rw [e1, e2]
      rw [e1] at hb
      exact k t1 hb
    | succ j ih =>
      intro E1 t1 s1 hb hj hl1 e1 e2
      rw [show nI (j + 1) - 1 = nI j from nI_pred j]
      apply h5
      refine ⟨fun y => absurd y (nI_pos (by omega)), fun _ z hz => ?_⟩
      rw [hp_pkM (by omega), lN_i] at hz
      subst hz
      have hbl := hp_by_lt a j
      rw [show (16 : Int32) = nI 16 from rfl, pk_rem (by omega) (by omega) (by omega), pk_div (by omega) (by omega) (by omega)]
      refine hp_letterM (by omega) (hp_sayM hb (by omega) (hp_hx_lt (by omega)) (fun t2 hb2 => hp_letterM (by omega) (hp_sayM hb2 (by rw [List.length_append]; show E1.length + 1 < _; omega) (hp_hx_lt (by omega)) (fun t3 hb3 => ?_))))
      rw [nI_add, show nI j + (-1) = nI j - 1 by rw [Int32.sub_eq_add_neg]]
      rw [List.append_assoc] at hb3 ⊢
      refine ih _ t3 _ hb3 (by omega) (by rw [List.length_append]; show E1.length + 2 + _ ≤ _; omega) ?_ ?_
      · rw [List.append_assoc]
        exact e1
      · rw [Nat.add_assoc]
        exact e2
  exact key m E told s h hm hl rfl rfl
end HPE
