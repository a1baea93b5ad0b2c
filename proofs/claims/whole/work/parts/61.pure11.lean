/-! data bytes go into the draft: the same for both readers but for the address -/
def hp_TDg (AD : Int32 → (Int64 → Prop) → Prop) (a2 : Int32) (a3 : Int32) (f1_characters : Nat → Int32) (f1_first : Int32) (f1_behind : Int32) (f1_digitsFrom : Int32) (f5_bytes_addresses : Nat → Int64) (f5_bytes_values : Nat → Int32) (f5_bytes_size : Int32) (f5_more : Int32) (f6_addresses : Nat → Int64) (f6_size : Int32) (Q : Int32 → (Nat → Int64) → (Nat → Int32) → Int32 → Int32 → Prop) : Prop :=
  ∀ P6 : Int32 → Int32 → (Nat → Int64) → (Nat → Int32) → Int32 → Int32 → Prop, ∀ P60 : Int32 → Int32 → (Nat → Int64) → (Nat → Int32) → Int32 → Int32 → Prop, ∀ P104 : Int32 → (Nat → Int64) → (Nat → Int32) → Int32 → Int32 → Prop, 
  (∀ (x8 : Int32) (x9 : Int32) (f5_bytes_addresses : Nat → Int64) (f5_bytes_values : Nat → Int32) (f5_bytes_size : Int32) (f5_more : Int32), ((a3 ≤ x9 → (hx_v_Image_size f6_size (fun c68 => (((c68 + f5_more) + x8) ≤ (3000 : Int32) → (P104 (0 : Int32) f5_bytes_addresses f5_bytes_values f5_bytes_size (f5_more + x8))) ∧ ((¬ ((c68 + f5_more) + x8) ≤ (3000 : Int32)) → (Q (9 : Int32) f5_bytes_addresses f5_bytes_values f5_bytes_size f5_more))))) ∧ ((¬ a3 ≤ x9) → (AD x9 (fun c17 => (c17 = (-1 : Int64) → (Q (8 : Int32) f5_bytes_addresses f5_bytes_values f5_bytes_size f5_more)) ∧ ((¬ c17 = (-1 : Int64)) → (hx_v_Image_holds c17 f5_bytes_addresses f5_bytes_size (fun c38 => (c38 = (0 : Int32) → (hx_v_Image_holds c17 f6_addresses f6_size (fun c51 => ((¬ c51 = (0 : Int32)) → (P60 x8 x9 f5_bytes_addresses f5_bytes_values f5_bytes_size f5_more)) ∧ (c51 = (0 : Int32) → (P60 (x8 + 1) x9 f5_bytes_addresses f5_bytes_values f5_bytes_size f5_more))))) ∧ ((¬ c38 = (0 : Int32)) → (Q (8 : Int32) f5_bytes_addresses f5_bytes_values f5_bytes_size f5_more))))))))) → P6 x8 x9 f5_bytes_addresses f5_bytes_values f5_bytes_size f5_more) →
  (∀ (x8 : Int32) (x9 : Int32) (f5_bytes_addresses : Nat → Int64) (f5_bytes_values : Nat → Int32) (f5_bytes_size : Int32) (f5_more : Int32), (P6 x8 (x9 + 1) f5_bytes_addresses f5_bytes_values f5_bytes_size f5_more) → P60 x8 x9 f5_bytes_addresses f5_bytes_values f5_bytes_size f5_more) →
  (∀ (x9 : Int32) (f5_bytes_addresses : Nat → Int64) (f5_bytes_values : Nat → Int32) (f5_bytes_size : Int32) (f5_more : Int32), ((a3 ≤ x9 → (Q (0 : Int32) f5_bytes_addresses f5_bytes_values f5_bytes_size f5_more)) ∧ ((¬ a3 ≤ x9) → (AD x9 (fun c120 => hx_v_Typed_byteAt (a2 + x9) f1_characters f1_first f1_behind f1_digitsFrom (fun c129 => hx_v_Image_spread c120 (1 : Int32) c129 f5_bytes_addresses f5_bytes_values f5_bytes_size (fun c132 f5_bytes_addresses f5_bytes_values f5_bytes_size => P104 (x9 + 1) f5_bytes_addresses f5_bytes_values f5_bytes_size f5_more)))))) → P104 x9 f5_bytes_addresses f5_bytes_values f5_bytes_size f5_more) →
  (P6 (0 : Int32) (0 : Int32) f5_bytes_addresses f5_bytes_values f5_bytes_size f5_more)
theorem hp_TD_S (a2 a3 : Int32) (a4 : Int64) (f1_characters : Nat → Int32) (f1_first f1_behind f1_digitsFrom : Int32) (f5_bytes_addresses : Nat → Int64) (f5_bytes_values : Nat → Int32) (f5_bytes_size f5_more : Int32) (f6_addresses : Nat → Int64) (f6_size : Int32) (Q : Int32 → (Nat → Int64) → (Nat → Int32) → Int32 → Int32 → Prop) (h : hp_TDg (fun x K => hx_v_SRead_addressOfData a4 x K) a2 a3 f1_characters f1_first f1_behind f1_digitsFrom f5_bytes_addresses f5_bytes_values f5_bytes_size f5_more f6_addresses f6_size Q) : hx_v_Reader_takeData_SRead a2 a3 a4 f1_characters f1_first f1_behind f1_digitsFrom f5_bytes_addresses f5_bytes_values f5_bytes_size f5_more f6_addresses f6_size Q := h
theorem hp_TD_C (a2 a3 : Int32) (a4 : Int64) (f0_base : Int64) (f0_segmented : Int32) (f1_characters : Nat → Int32) (f1_first f1_behind f1_digitsFrom : Int32) (f5_bytes_addresses : Nat → Int64) (f5_bytes_values : Nat → Int32) (f5_bytes_size f5_more : Int32) (f6_addresses : Nat → Int64) (f6_size : Int32) (Q : Int32 → (Nat → Int64) → (Nat → Int32) → Int32 → Int32 → Prop) (h : hp_TDg (fun x K => hx_v_Colon_addressOfData a4 x f0_base f0_segmented K) a2 a3 f1_characters f1_first f1_behind f1_digitsFrom f5_bytes_addresses f5_bytes_values f5_bytes_size f5_more f6_addresses f6_size Q) : hx_v_Reader_takeData_Colon a2 a3 a4 f0_base f0_segmented f1_characters f1_first f1_behind f1_digitsFrom f5_bytes_addresses f5_bytes_values f5_bytes_size f5_more f6_addresses f6_size Q := h
/-- k entries set one behind the other -/
def hp_ins (N : Nat → Option Nat) (ad val : Nat → Nat) : Nat → Nat → Option Nat
  | 0 => N
  | t + 1 => hp_set (hp_ins N ad val t) (ad t) (val t)
theorem hp_ins_out (N : Nat → Option Nat) (ad val : Nat → Nat) (x : Nat) : ∀ t, (∀ s, s < t → ad s ≠ x) → hp_ins N ad val t x = N x
  | 0, _ => rfl
  | t + 1, h => by
    show hp_set (hp_ins N ad val t) (ad t) (val t) x = N x
    unfold hp_set
    rw [if_neg fun e => h t (by omega) e.symm]
    exact hp_ins_out N ad val x t (fun s hs => h s (by omega))
theorem hp_ins_in (N : Nat → Option Nat) (ad val : Nat → Nat) {s : Nat} : ∀ t, s < t → (∀ j k, j < k → k < t → ad j ≠ ad k) → hp_ins N ad val t (ad s) = some (val s)
  | 0, h, _ => absurd h (by omega)
  | t + 1, h, hd => by
    show hp_set (hp_ins N ad val t) (ad t) (val t) (ad s) = _
    unfold hp_set
    by_cases e : s = t
    · rw [e, if_pos rfl]
    · rw [if_neg (hd s t (by omega) (by omega))]
      exact hp_ins_in N ad val t (by omega) (fun j k hj hk => hd j k hj (by omega))
theorem hp_rem_le (M : Nat → Option Nat) (X : Nat → Nat) : ∀ k, hp_rem M X k ≤ k
  | 0 => Nat.le_refl _
  | k + 1 => by
    have := hp_rem_le M X k
    show hp_rem M X k + (if (M (X k)).isSome then 0 else 1) ≤ k + 1
    split <;> omega
theorem hp_rem_mono (M : Nat → Option Nat) (X : Nat → Nat) (k : Nat) : ∀ d, hp_rem M X k ≤ hp_rem M X (k + d)
  | 0 => Nat.le_refl _
  | d + 1 => Nat.le_trans (hp_rem_mono M X k d) (Nat.le_add_right _ _)
theorem hp_rem_congr {M : Nat → Option Nat} {X Y : Nat → Nat} : ∀ k, (∀ j, j < k → X j = Y j) → hp_rem M X k = hp_rem M Y k
  | 0, _ => rfl
  | k + 1, h => by
    show hp_rem M X k + (if (M (X k)).isSome then 0 else 1) = hp_rem M Y k + (if (M (Y k)).isSome then 0 else 1)
    rw [hp_rem_congr k (fun j hj => h j (by omega)), h k (by omega)]
/-- the draft: an image of its own, and how many of its bytes are new to the other -/
def hp_DR (M : Nat → Option Nat) (da : Nat → Int64) (dv : Nat → Int32) (N : Nat → Option Nat) (dn more : Nat) : Prop := ∃ DA DV, hp_C da dv dn N DA DV ∧ more = hp_rem M DA dn
theorem hp_DR_ins {M N : Nat → Option Nat} {da da' : Nat → Int64} {dv dv' : Nat → Int32} {dn more x b : Nat} (h : hp_DR M da dv N dn more) (hx : N x = none) (hx32 : x < 4294967296) (hb : b < 256) (h' : hp_R da' dv' (dn + 1) (hp_set N x b)) : hp_DR M da' dv' (hp_set N x b) (dn + 1) (more + (if (M x).isSome then 0 else 1)) := by
  obtain ⟨DA, DV, hc, rfl⟩ := h
  obtain ⟨A', V', hc'⟩ := h'
  obtain ⟨i, hi⟩ := hp_ix_ex x dn hc.2.1
  have hin := hi.1
  refine ⟨A', V', hc', ?_⟩
  -- the rows with x put between
  have hex : hp_R (fun k => if k < i then da k else if k = i then lN x else da (k - 1)) (fun k => if k < i then dv k else if k = i then nI b else dv (k - 1)) (dn + 1) (hp_set N x b) := by
    refine hp_put_new hc hi hx32 hb hx (fun k hk => ?_) ?_ (fun k hk hkn => ?_)
    · simp [hk]
    · simp
    · simp [show ¬ k + 1 < i by omega, show ¬ k + 1 = i by omega]
  have hexC : hp_C (fun k => if k < i then da k else if k = i then lN x else da (k - 1)) (fun k => if k < i then dv k else if k = i then nI b else dv (k - 1)) (dn + 1) (hp_set N x b) A' V' := by
    obtain ⟨A2, V2, hc2⟩ := hex
    obtain ⟨_, e⟩ := hp_uniq hc2 hc'
    refine ⟨fun k hk => ?_, hc'.2.1, hc'.2.2⟩
    have h1 := hc2.1 k hk
    rw [(e k hk).1, (e k hk).2] at h1
    exact h1
  have eA : ∀ k, k < dn + 1 → A' k = (if k < i then DA k else if k = i then x else DA (k - 1)) := by
    intro k hk
    have h1 := (hexC.1 k hk).1
    have h3 := (hexC.1 k hk).2.2.1
    by_cases c1 : k < i
    · simp only [c1, if_true] at h1 ⊢
      have h2 := hc.1 k (by omega)
      rw [h2.1] at h1
      exact ((pk_lEQ (by omega) (by omega)).mp h1).symm
    · by_cases c2 : k = i
      · simp only [c1, c2, if_true, if_false, Nat.lt_irrefl] at h1 ⊢
        rw [c2] at h3
        exact ((pk_lEQ (by omega) (by omega)).mp h1).symm
      · simp only [c1, c2, if_false] at h1 ⊢
        have h2 := hc.1 (k - 1) (by omega)
        rw [h2.1] at h1
        exact ((pk_lEQ (by omega) (by omega)).mp h1).symm
  have lo : ∀ k, k ≤ i → hp_rem M A' k = hp_rem M DA k := fun k hk => hp_rem_congr k (fun j hj => by rw [eA j (by omega), if_pos (by omega)])
  have hi2 : ∀ d, i + d ≤ dn → hp_rem M A' (i + d + 1) = hp_rem M DA (i + d) + (if (M x).isSome then 0 else 1) := by
    intro d
    induction d with
    | zero =>
      intro hd
      show hp_rem M A' i + (if (M (A' i)).isSome then 0 else 1) = _
      have e0 : A' i = x := by rw [eA i (by omega), if_neg (Nat.lt_irrefl _), if_pos rfl]
      rw [lo i (Nat.le_refl _), e0]
      rfl
    | succ d ih =>
      intro hd
      show hp_rem M A' (i + d + 1) + (if (M (A' (i + d + 1))).isSome then 0 else 1) = hp_rem M DA (i + d) + (if (M (DA (i + d))).isSome then 0 else 1) + (if (M x).isSome then 0 else 1)
      have e1 : A' (i + d + 1) = DA (i + d) := by rw [eA _ (by omega), if_neg (show ¬ i + d + 1 < i by omega), if_neg (show ¬ i + d + 1 = i by omega), show i + d + 1 - 1 = i + d by omega]
      rw [ih (by omega), e1]
      omega
  have := hi2 (dn - i) (by omega)
  rw [show i + (dn - i) = dn by omega] at this
  exact this.symm
section HPD
variable {f : Nat → Int32} {len p q : Nat} {T : Nat → Nat}
theorem hp_takeData {AD : Int32 → (Int64 → Prop) → Prop} {a : Nat → Int64} {v : Nat → Int32} {n : Nat} {M : Nat → Option Nat} {A V : Nat → Nat} (h : hp_C a v n M A V) (hn : n ≤ 3000) {da : Nat → Int64} {dv : Nat → Int32} {N : Nat → Option Nat} {dn more : Nat} (hd : hp_DR M da dv N dn more) (hT : hp_TX f len T) (hl : len ≤ 8000) (hq : q ≤ len) (hp : p ≤ q) {s from_ cnt : Nat} (ha : hp_all T p q s) (hr : p + s + 2 * (from_ + cnt) ≤ q) (hc : dn + cnt ≤ 3000) (hmore : more ≤ 3000) {ad : Nat → Nat} (hAD : ∀ t K, t < cnt → (ad t < 4294967296 → K (lN (ad t))) → (4294967296 ≤ ad t → K (-1)) → AD (nI t) K) (had : ∀ t, t < cnt → ad t < 8589934592) (hdis : ∀ j k, j < k → k < cnt → ad j ≠ ad k) {Q : Int32 → (Nat → Int64) → (Nat → Int32) → Int32 → Int32 → Prop}
    (bad : (∃ t, t < cnt ∧ (4294967296 ≤ ad t ∨ N (ad t) ≠ none)) → Q 8 da dv (nI dn) (nI more))
    (many : (∀ t, t < cnt → ad t < 4294967296 ∧ N (ad t) = none) → 3000 < n + more + hp_rem M ad cnt → Q 9 da dv (nI dn) (nI more))
    (ok : (∀ t, t < cnt → ad t < 4294967296 ∧ N (ad t) = none) → n + more + hp_rem M ad cnt ≤ 3000 → ∀ da' dv', hp_DR M da' dv' (hp_ins N ad (fun t => hp_B T p s (from_ + t)) cnt) (dn + cnt) (more + hp_rem M ad cnt) → Q 0 da' dv' (nI (dn + cnt)) (nI (more + hp_rem M ad cnt))) :
    hp_TDg AD (nI from_) (nI cnt) f (nI p) (nI q) (nI s) da dv (nI dn) (nI more) a (nI n) Q := by
  unfold hp_TDg hx_v_Image_size
  intro P6 P60 P104 h6 h60 h104
  have hrl := hp_rem_le M ad cnt
  -- the second loop
  have key2 : (∀ t, t < cnt → ad t < 4294967296 ∧ N (ad t) = none) → n + more + hp_rem M ad cnt ≤ 3000 → ∀ d t da' dv', cnt - t ≤ d → t ≤ cnt → hp_DR M da' dv' (hp_ins N ad (fun t => hp_B T p s (from_ + t)) t) (dn + t) (more + hp_rem M ad t) → P104 (nI t) da' dv' (nI (dn + t)) (nI (more + hp_rem M ad cnt)) := by
    intro hall hle d
    induction d with
    | zero =>
      intro t da' dv' hdt ht hdr
      apply h104
      obtain rfl : t = cnt := by omega
      exact ⟨fun _ => ok hall hle da' dv' hdr, fun w => absurd (nI_le (Nat.le_refl _) (by omega)) w⟩
    | succ d ih =>
      intro t da' dv' hdt ht hdr
      apply h104
      refine ⟨fun w => ?_, fun w => ?_⟩
      · have := (nI_leI (by omega) (by omega)).mp w
        obtain rfl : t = cnt := by omega
        exact ok hall hle da' dv' hdr
      · have hlt : t < cnt := Nat.not_le.mp fun u => w (nI_le u (by omega))
        have hat := hall t hlt
        refine hAD t _ hlt (fun _ => ?_) (fun u => absurd hat.1 (by omega))
        rw [nI_add]
        refine hp_byteAt hT hl hq hp ha (by omega) ?_
        have hno : hp_ins N ad (fun t => hp_B T p s (from_ + t)) t (ad t) = none := by
          rw [hp_ins_out _ _ _ _ t (fun j hj => hdis j t hj hlt)]
          exact hat.2
        have hB := hp_B_lt T p s (from_ + t)
        obtain ⟨DA, DV, hc', hm'⟩ := hdr
        have ec : hp_cnt (hp_ins N ad (fun t => hp_B T p s (from_ + t)) t) (ad t) 1 = 0 := by
          show 0 + (if (hp_ins N ad (fun t => hp_B T p s (from_ + t)) t (ad t + 0)).isSome then 1 else 0) = 0
          rw [Nat.add_zero, hno]
          rfl
        refine hp_fillC (c := 1) hc' (by omega) (by omega) (by omega) hB (fun hf => ?_) (fun da2 dv2 _ hr2 => ?_)
        · rw [ec] at hf
          omega
        · rw [ec, hp_fill_1] at hr2
          rw [ec, nI_1, show dn + t + 1 - 0 = dn + (t + 1) by omega]
          refine ih (t + 1) da2 dv2 (by omega) (by omega) ?_
          have := hp_DR_ins ⟨DA, DV, hc', hm'⟩ hno hat.1 hB hr2
          rw [Nat.add_assoc more] at this
          exact this
  -- the first
  have key1 : ∀ d t, cnt - t ≤ d → t ≤ cnt → (∀ j, j < t → ad j < 4294967296 ∧ N (ad j) = none) → P6 (nI (hp_rem M ad t)) (nI t) da dv (nI dn) (nI more) := by
    intro d
    have fin : (∀ t, t < cnt → ad t < 4294967296 ∧ N (ad t) = none) → (((nI n + nI more) + nI (hp_rem M ad cnt)) ≤ (3000 : Int32) → (P104 (0 : Int32) da dv (nI dn) (nI more + nI (hp_rem M ad cnt)))) ∧ ((¬ ((nI n + nI more) + nI (hp_rem M ad cnt)) ≤ (3000 : Int32)) → (Q (9 : Int32) da dv (nI dn) (nI more))) := by
      intro hall
      rw [nI_add, nI_add, nI_add]
      refine ⟨fun w => ?_, fun w => many hall (Nat.not_le.mp fun u => w (show nI _ ≤ nI 3000 from nI_le u (by omega)))⟩
      have hle := (nI_leI (b := 3000) (by omega) (by omega)).mp w
      exact key2 hall hle cnt 0 da dv (by omega) (by omega) hd
    induction d with
    | zero =>
      intro t hdt ht hall
      apply h6
      obtain rfl : t = cnt := by omega
      exact ⟨fun _ => fin hall, fun w => absurd (nI_le (Nat.le_refl _) (by omega)) w⟩
    | succ d ih =>
      intro t hdt ht hall
      apply h6
      refine ⟨fun w => ?_, fun w => ?_⟩
      · have := (nI_leI (by omega) (by omega)).mp w
        obtain rfl : t = cnt := by omega
        exact fin hall
      · have hlt : t < cnt := Nat.not_le.mp fun u => w (nI_le u (by omega))
        have hat := had t hlt
        refine hAD t _ hlt (fun h32 => ⟨fun u => absurd u (hp_lne (by omega)), fun _ => ?_⟩) (fun h32 => ⟨fun _ => bad ⟨t, hlt, Or.inl h32⟩, fun u => absurd rfl u⟩)
        obtain ⟨DA, DV, hc', _⟩ := hd
        refine hp_holds hc' (by omega) (by omega) (fun hm => ⟨fun u => absurd u (by decide), fun _ => bad ⟨t, hlt, Or.inr hm⟩⟩) (fun hm => ⟨fun _ => ?_, fun u => absurd rfl u⟩)
        have nx := ih (t + 1) (by omega) (by omega) (fun j hj => by
          by_cases e : j = t
          · rw [e]; exact ⟨h32, hm⟩
          · exact hall j (by omega))
        refine hp_holds h hn (by omega) (fun hM => ⟨fun _ => h60 _ _ _ _ _ _ ?_, fun u => absurd u (by decide)⟩) (fun hM => ⟨fun u => absurd rfl u, fun _ => h60 _ _ _ _ _ _ ?_⟩)
        · have e : hp_rem M ad (t + 1) = hp_rem M ad t := by
            show hp_rem M ad t + (if (M (ad t)).isSome then 0 else 1) = _
            cases z : M (ad t) with
            | none => exact absurd z hM
            | some _ => rfl
          rw [nI_1, ← e]
          exact nx
        · have e : hp_rem M ad (t + 1) = hp_rem M ad t + 1 := by
            show hp_rem M ad t + (if (M (ad t)).isSome then 0 else 1) = _
            rw [hM]
            rfl
          rw [nI_1, nI_1, ← e]
          exact nx
  exact key1 cnt 0 (by omega) (by omega) (fun j hj => absurd hj (by omega))
end HPD
