/-! telling: one record -/
def hp_dl (V : Nat → Nat) (f : Nat) : Nat → List Nat
  | 0 => []
  | m + 1 => hp_dl V f m ++ [V (f + m)]
theorem hp_dl_len (V : Nat → Nat) (f : Nat) : ∀ m, (hp_dl V f m).length = m
  | 0 => rfl
  | m + 1 => by
    show (hp_dl V f m ++ [V (f + m)]).length = m + 1
    rw [List.length_append, hp_dl_len V f m]
    rfl
def hp_a8 (l : List Nat) : Prop := ∀ x, x ∈ l → x < 256
theorem hp_sl_le : ∀ l, hp_a8 l → hp_sl l ≤ 255 * l.length
  | [], _ => Nat.le_refl _
  | b :: l, h => by
    have h1 := hp_sl_le l (fun x hx => h x (List.mem_cons_of_mem _ hx))
    have h2 := h b List.mem_cons_self
    show b + hp_sl l ≤ 255 * (l.length + 1)
    omega
theorem hp_a8_app {l l' : List Nat} (h : hp_a8 l) (h' : hp_a8 l') : hp_a8 (l ++ l') := fun x hx => by
  rcases List.mem_append.mp hx with q | q
  · exact h x q
  · exact h' x q
theorem hp_a8_1 {v : Nat} (h : v < 256) : hp_a8 [v] := fun x hx => by
  rw [List.mem_singleton.mp hx]
  exact h
theorem hp_a8_nil : hp_a8 [] := fun x hx => by cases hx
theorem hp_a8_nb (a : Nat) : ∀ m, hp_a8 (hp_nb a m)
  | 0 => hp_a8_nil
  | m + 1 => hp_a8_app (l := [a / 2 ^ (8 * m) % 256]) (hp_a8_1 (Nat.mod_lt _ (by decide))) (hp_a8_nb a m)
theorem hp_a8_dl {V : Nat → Nat} {f : Nat} : ∀ m, (∀ j, j < m → V (f + j) < 256) → hp_a8 (hp_dl V f m)
  | 0, _ => hp_a8_nil
  | m + 1, h => hp_a8_app (hp_a8_dl m fun j hj => h j (by omega)) (hp_a8_1 (h m (by omega)))
/-- the mark and the numbers so far of a record -/
def hp_Y (w : Bool) (t0 : Nat → Int32) (E : List Nat) (bs : List Nat) (told : Nat → Int32) (at' sm : Int32) : Prop := hp_BF w t0 (E ++ hp_os bs) told ∧ at' = nI (E ++ hp_os bs).length ∧ sm = nI (hp_sl bs)
def hp_Z (w : Bool) (t0 : Nat → Int32) (E : List Nat) (told : Nat → Int32) (at' : Int32) : Prop := hp_BF w t0 E told ∧ at' = nI E.length
def hp_sp (E : List Nat) : List Nat := E ++ (if E = [] then [] else [32])
theorem hp_sp_len (E : List Nat) : (hp_sp E).length ≤ E.length + 1 := by
  unfold hp_sp
  rw [List.length_append]
  split
  · show E.length + 0 ≤ _
    omega
  · exact Nat.le_refl _
theorem hp_Ylen (E bs : List Nat) : (E ++ hp_os bs).length = E.length + 2 * bs.length := by rw [List.length_append, hp_os_len]
section HPY
variable {w : Bool} {t0 told : Nat → Int32} {E bs : List Nat} {at' sm : Int32}
theorem hp_Yz {told : Nat → Int32} {at' : Int32} (h : hp_Z w t0 E told at') : hp_Y w t0 E [] told at' (nI 0) := by
  refine ⟨?_, ?_, rfl⟩
  · show hp_BF w t0 (E ++ []) told
    rw [List.append_nil]
    exact h.1
  · show at' = nI (E ++ []).length
    rw [List.append_nil]
    exact h.2
theorem hp_octetY (h : hp_Y w t0 E bs told at' sm) (hl : E.length + 2 * bs.length + 2 ≤ 1000000) {v : Nat} (hv : v < 256) {Q : (Nat → Int32) → Int32 → Int32 → Prop} (k : ∀ told' a' s', hp_Y w t0 E (bs ++ [v]) told' a' s' → Q told' a' s') : hx_v_Teller_octet (nI v) told at' (hp_b w) sm Q := by
  obtain ⟨h1, h2, h3⟩ := h
  subst h2 h3
  refine hp_octet h1 (by rw [hp_Ylen]; exact hl) hv (fun t1 hb => k _ _ _ ?_)
  have e : E ++ hp_os bs ++ hp_o v = E ++ hp_os (bs ++ [v]) := by
    rw [hp_os_app, List.append_assoc]
    rfl
  rw [e] at hb ⊢
  exact ⟨hb, rfl, by rw [hp_sl_app]; rfl⟩
theorem hp_numberY (h : hp_Y w t0 E bs told at' sm) {a m : Nat} (ha : a < 2 ^ 62) (hm : m ≤ 4) (hl : E.length + 2 * bs.length + 2 * m ≤ 1000000) {Q : (Nat → Int32) → Int32 → Int32 → Prop} (k : ∀ told' a' s', hp_Y w t0 E (bs ++ hp_nb a m) told' a' s' → Q told' a' s') : hx_v_Teller_number (lN a) (nI m) told at' (hp_b w) sm Q := by
  obtain ⟨h1, h2, h3⟩ := h
  subst h2 h3
  refine hp_numberX (s := 0) ha h1 hm (by rw [hp_Ylen]; exact hl) (fun t1 hb => k _ _ _ ?_)
  rw [List.append_assoc, ← hp_os_app] at hb ⊢
  exact ⟨hb, rfl, by rw [hp_sl_app]⟩
theorem hp_sayBytesY (h : hp_Y true t0 E bs told at' sm) {a m : Nat} (ha : a < 2 ^ 64) (hm : m ≤ 4) (hl : E.length + 2 * bs.length + 2 * m ≤ 1000000) {Q : (Nat → Int32) → Int32 → Int32 → Prop} (k : ∀ told' a' s', hp_Y true t0 E (bs ++ hp_nb a m) told' a' s' → Q told' a' s') : hx_v_Model_sayBytes (lN a) (nI m) told at' sm Q := by
  obtain ⟨h1, h2, h3⟩ := h
  subst h2 h3
  refine hp_sayBytesM ha h1 hm (by rw [hp_Ylen]; exact hl) (fun t1 hb => k _ _ _ ?_)
  rw [List.append_assoc, ← hp_os_app] at hb ⊢
  exact ⟨hb, rfl, by rw [hp_sl_app]⟩
theorem hp_nb1 {v : Nat} (h : v < 256) : hp_nb v 1 = [v] := by
  show [v / 2 ^ 0 % 256] = [v]
  rw [Nat.pow_zero, Nat.div_one, Nat.mod_eq_of_lt h]
theorem hp_il {v : Nat} (h : v < 2 ^ 31) : (nI v).toInt64 = lN v := by
  rw [hp_unP _ (nI_pos h)]
  exact congrArg lN (by show (BitVec.ofNat 32 v).toNat = v; rw [BitVec.toNat_ofNat]; exact Nat.mod_eq_of_lt (by omega))
theorem hp_say1Y (h : hp_Y true t0 E bs told at' sm) {v : Nat} (hv : v < 256) (hl : E.length + 2 * bs.length + 2 ≤ 1000000) {Q : (Nat → Int32) → Int32 → Int32 → Prop} (k : ∀ told' a' s', hp_Y true t0 E (bs ++ [v]) told' a' s' → Q told' a' s') : hx_v_Model_sayBytes (nI v).toInt64 (1 : Int32) told at' sm Q := by
  rw [hp_il (by omega)]
  refine hp_sayBytesY (m := 1) h (by omega) (by omega) hl (fun t a s hy => k t a s ?_)
  rw [hp_nb1 hv] at hy
  exact hy
theorem hp_dataY {v : Nat → Int32} {V : Nat → Nat} {f m n : Nat} (hn : n ≤ 3000) (hm : f + m ≤ n) (hv : ∀ j, j < n → v j = nI (V j) ∧ V j < 256) (h : hp_Y w t0 E bs told at' sm) (hl : E.length + 2 * bs.length + 2 * m ≤ 1000000) {Q : (Nat → Int32) → Int32 → Int32 → Prop} (k : ∀ told' a' s', hp_Y w t0 E (bs ++ hp_dl V f m) told' a' s' → Q told' a' s') : hx_v_Teller_data (nI f) (nI m) told at' (hp_b w) sm v (nI n) Q := by
  unfold hx_v_Teller_data
  intro P3 h3
  have key : ∀ d j t1 a1 s1, j + d = m → hp_Y w t0 E (bs ++ hp_dl V f j) t1 a1 s1 → P3 (nI j) t1 a1 s1 := by
    intro d
    induction d with
    | zero =>
      intro j t1 a1 s1 hj hy
      apply h3
      obtain rfl : j = m := by omega
      exact ⟨fun _ => k t1 a1 s1 hy, fun y => absurd (nI_le (Nat.le_refl _) (by omega)) y⟩
    | succ d ih =>
      intro j t1 a1 s1 hj hy
      apply h3
      refine ⟨fun y => absurd ((nI_leI (by omega) (by omega)).mp y) (by omega), fun _ => ?_⟩
      rw [nI_add]
      refine hp_valueOf hn (by omega) ?_
      rw [(hv (f + j) (by omega)).1]
      refine hp_octetY hy (by rw [List.length_append, hp_dl_len]; omega) (hv (f + j) (by omega)).2 (fun t2 a2 s2 hy2 => ?_)
      rw [show nI j + 1 = nI (j + 1) from nI_1 j]
      refine ih (j + 1) t2 a2 s2 (by omega) ?_
      rw [List.append_assoc] at hy2
      exact hy2
  refine key m 0 told at' sm (by omega) ?_
  show hp_Y w t0 E (bs ++ []) told at' sm
  rw [List.append_nil]
  exact h
theorem hp_dataM {v : Nat → Int32} {V : Nat → Nat} {f m n : Nat} (hn : n ≤ 3000) (hm : f + m ≤ n) (hv : ∀ j, j < n → v j = nI (V j) ∧ V j < 256) (h : hp_Y true t0 E bs told at' sm) (hl : E.length + 2 * bs.length + 2 * m ≤ 1000000) {Q : (Nat → Int32) → Int32 → Int32 → Prop} (k : ∀ told' a' s', hp_Y true t0 E (bs ++ hp_dl V f m) told' a' s' → Q told' a' s') : hx_v_Model_sayData (nI f) (nI m) v told at' sm Q := by
  unfold hx_v_Model_sayData
  intro P3 h3
  have key : ∀ d j t1 a1 s1, j + d = m → hp_Y true t0 E (bs ++ hp_dl V f j) t1 a1 s1 → P3 (nI j) t1 a1 s1 := by
    intro d
    induction d with
    | zero =>
      intro j t1 a1 s1 hj hy
      apply h3
      obtain rfl : j = m := by omega
      exact ⟨fun _ => k t1 a1 s1 hy, fun y => absurd (nI_le (Nat.le_refl _) (by omega)) y⟩
    | succ d ih =>
      intro j t1 a1 s1 hj hy
      apply h3
      refine ⟨fun y => absurd ((nI_leI (by omega) (by omega)).mp y) (by omega), fun _ => ?_⟩
      rw [nI_add]
      refine ⟨vp_in_nI (by omega) (by omega), ?_⟩
      rw [hp_cl (by omega), (hv (f + j) (by omega)).1]
      refine hp_say1Y hy (hv (f + j) (by omega)).2 (by rw [List.length_append, hp_dl_len]; omega) (fun t2 a2 s2 hy2 => ?_)
      rw [show nI j + 1 = nI (j + 1) from nI_1 j]
      refine ih (j + 1) t2 a2 s2 (by omega) ?_
      rw [List.append_assoc] at hy2
      exact hy2
  refine key m 0 told at' sm (by omega) ?_
  show hp_Y true t0 E (bs ++ []) told at' sm
  rw [List.append_nil]
  exact h
/-! the sum -/
theorem hp_c0' : ∀ i, i < 40 → ∀ j, j < 256 → ((-(nI (256 * i + j))) &&& (255 : Int32)) = nI ((256 - j) % 256) := by decide +kernel
theorem hp_c1' : ∀ i, i < 40 → ∀ j, j < 256 → ((nI (256 * i + j) ^^^ (-1 : Int32)) &&& (255 : Int32)) = nI (255 - j) := by decide +kernel
theorem hp_c0 {s : Nat} (h : s < 10240) : ((-(nI s)) &&& (255 : Int32)) = nI ((256 - s % 256) % 256) := by
  have := hp_c0' (s / 256) (by omega) (s % 256) (Nat.mod_lt _ (by decide))
  rw [Nat.div_add_mod] at this
  exact this
theorem hp_c1 {s : Nat} (h : s < 10240) : ((nI s ^^^ (-1 : Int32)) &&& (255 : Int32)) = nI (255 - s % 256) := by
  have := hp_c1' (s / 256) (by omega) (s % 256) (Nat.mod_lt _ (by decide))
  rw [Nat.div_add_mod] at this
  exact this
theorem hp_d0' : ∀ i, i < 40 → ∀ j, j < 256 → (((0 : Int32) - nI (256 * i + j)) - ((0 : Int32) - nI (256 * i + j)) / (256 : Int32) * (256 : Int32)) + (256 : Int32) = nI (256 - j) := by decide +kernel
theorem hp_d1' : ∀ i, i < 40 → ∀ j, j < 256 → (((255 : Int32) - nI (256 * i + j)) - ((255 : Int32) - nI (256 * i + j)) / (256 : Int32) * (256 : Int32)) + (256 : Int32) = nI (if i = 0 then 511 - j else if j = 255 then 256 else 255 - j) := by decide +kernel
end HPY
