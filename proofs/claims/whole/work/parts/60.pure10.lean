/-! the typed text: digits, bytes, numbers, sums of a record [p, q) -/
def hp_dg (c : Nat) : Option Nat := if 48 ≤ c ∧ c ≤ 57 then some (c - 48) else if 65 ≤ c ∧ c ≤ 70 then some (c - 55) else if 97 ≤ c ∧ c ≤ 102 then some (c - 87) else none
def hp_d (c : Nat) : Nat := (hp_dg c).getD 0
def hp_dI (c : Nat) : Int32 := match hp_dg c with
  | some d => nI d
  | none => -1
theorem hp_dg_lt {c d : Nat} (h : hp_dg c = some d) : d < 16 := by
  unfold hp_dg at h
  split at h
  · have := Option.some.inj h; omega
  · split at h
    · have := Option.some.inj h; omega
    · split at h
      · have := Option.some.inj h; omega
      · cases h
theorem hp_d_lt (c : Nat) : hp_d c < 16 := by
  unfold hp_d
  cases h : hp_dg c with
  | none => decide
  | some d => exact hp_dg_lt h
theorem hp_dI_some {c : Nat} (h : (hp_dg c).isSome) : hp_dI c = nI (hp_d c) := by
  unfold hp_dI hp_d
  cases q : hp_dg c with
  | none => rw [q] at h; cases h
  | some d => rfl
theorem hp_dI_none {c : Nat} (h : ¬ (hp_dg c).isSome) : hp_dI c = -1 := by
  unfold hp_dI
  cases q : hp_dg c with
  | none => rfl
  | some d => rw [q] at h; exact absurd rfl h
theorem hp_hex : ∀ a, a < 16 → ∀ b, b < 16 → (((nI a <<< ((4 : Int32) &&& 31)) ||| nI b) &&& (255 : Int32)) = nI (16 * a + b) := by decide +kernel
/-- the text: len characters, T their codes -/
def hp_TX (f : Nat → Int32) (len : Nat) (T : Nat → Nat) : Prop := ∀ k, k < len → f k = nI (T k) ∧ 32 ≤ T k ∧ T k ≤ 126
def hp_all (T : Nat → Nat) (p q s : Nat) : Prop := ∀ i, s ≤ i → p + i < q → (hp_dg (T (p + i))).isSome
def hp_B (T : Nat → Nat) (p s i : Nat) : Nat := 16 * hp_d (T (p + s + 2 * i)) + hp_d (T (p + s + 2 * i + 1))
theorem hp_B_lt (T : Nat → Nat) (p s i : Nat) : hp_B T p s i < 256 := by
  unfold hp_B
  have := hp_d_lt (T (p + s + 2 * i))
  have := hp_d_lt (T (p + s + 2 * i + 1))
  omega
def hp_num (B : Nat → Nat) (i : Nat) : Nat → Nat
  | 0 => 0
  | k + 1 => 256 * hp_num B i k + B (i + k)
def hp_sum (B : Nat → Nat) : Nat → Nat
  | 0 => 0
  | k + 1 => hp_sum B k + B k
theorem hp_num_lt {B : Nat → Nat} (hB : ∀ i, B i < 256) (i : Nat) : ∀ k, hp_num B i k < 256 ^ k
  | 0 => by show 0 < 1; decide
  | k + 1 => by
    have h1 := hp_num_lt hB i k
    have h2 := hB (i + k)
    show 256 * hp_num B i k + B (i + k) < 256 ^ (k + 1)
    rw [Nat.pow_succ]
    omega
theorem hp_sum_le {B : Nat → Nat} (hB : ∀ i, B i < 256) : ∀ k, hp_sum B k ≤ 255 * k
  | 0 => Nat.le_refl _
  | k + 1 => by
    have h1 := hp_sum_le hB k
    have h2 := hB k
    show hp_sum B k + B k ≤ _
    omega
theorem hp_sh8 {v b : Nat} (hv : v < 2 ^ 32) (hb : b < 256) : (lN v <<< ((8 : Int32).toInt64 &&& 63)) ||| (nI b).toInt64 = lN (256 * v + b) := by
  rw [show (8 : Int32) = nI 8 from rfl, wb_shl v (by decide), nI_l (by omega), wb_or (by omega) (by omega), show v * 2 ^ 8 = 2 ^ 8 * v by omega, ← Nat.two_pow_add_eq_or_of_lt (i := 8) (by omega)]
theorem hp_and255 {n : Nat} (h : n < 2 ^ 31) : nI n &&& (255 : Int32) = nI (n % 256) := pk_andN (by omega) 8 rfl
/-- the digit of a code, in the class and in the reference -/
theorem hp_digitM {c : Nat} {Q : Int32 → Prop} (hc : c < 128) (hq : Q (hp_dI c)) : hx_v_Model_digit (nI c) Q := by
  unfold hx_v_Model_digit
  intro P19 P41 h19 h41
  have lt : ∀ {k : Nat}, k < 128 → (nI c < nI k ↔ c < k) := fun hk => nI_ltI (by omega) (by omega)
  have gt : ∀ {k : Nat}, k < 128 → (nI k < nI c ↔ k < c) := fun hk => nI_ltI (by omega) (by omega)
  have hP41 : ¬ (48 ≤ c ∧ c ≤ 57) → ¬ (65 ≤ c ∧ c ≤ 70) → P41 := by
    intro n1 n2
    apply h41
    refine ⟨fun q => ?_, fun q => ⟨fun q2 => ?_, fun q2 => ?_⟩⟩
    · have := (lt (k := 97) (by omega)).mp q
      rw [hp_dI_none (by unfold hp_dg; rw [if_neg n1, if_neg n2, if_neg (by omega)]; simp)] at hq
      exact hq
    · have := (gt (k := 102) (by omega)).mp q2
      rw [hp_dI_none (by unfold hp_dg; rw [if_neg n1, if_neg n2, if_neg (by omega)]; simp)] at hq
      exact hq
    · have g1 : ¬ c < 97 := fun w => q ((lt (k := 97) (by omega)).mpr w)
      have g2 : ¬ 102 < c := fun w => q2 ((gt (k := 102) (by omega)).mpr w)
      rw [show (97 : Int32) = nI 97 from rfl, pk_sub (by omega), show (10 : Int32) = nI 10 from rfl, nI_add, show c - 97 + 10 = c - 87 by omega]
      unfold hp_dI hp_dg at hq
      rw [if_neg n1, if_neg n2, if_pos (by omega)] at hq
      exact hq
  have hP19 : ¬ (48 ≤ c ∧ c ≤ 57) → P19 := by
    intro n1
    apply h19
    refine ⟨fun q => ?_, fun q => ⟨fun q2 => ?_, fun q2 => ?_⟩⟩
    · have := (lt (k := 65) (by omega)).mp q
      exact hP41 n1 (by omega)
    · have := (gt (k := 70) (by omega)).mp q2
      exact hP41 n1 (by omega)
    · have g1 : ¬ c < 65 := fun w => q ((lt (k := 65) (by omega)).mpr w)
      have g2 : ¬ 70 < c := fun w => q2 ((gt (k := 70) (by omega)).mpr w)
      rw [show (65 : Int32) = nI 65 from rfl, pk_sub (by omega), show (10 : Int32) = nI 10 from rfl, nI_add, show c - 65 + 10 = c - 55 by omega]
      unfold hp_dI hp_dg at hq
      rw [if_neg n1, if_pos (by omega)] at hq
      exact hq
  refine ⟨fun q => ?_, fun q => ⟨fun q2 => ?_, fun q2 => ?_⟩⟩
  · have := (lt (k := 48) (by omega)).mp q
    exact hP19 (by omega)
  · have := (gt (k := 57) (by omega)).mp q2
    exact hP19 (by omega)
  · have g1 : ¬ c < 48 := fun w => q ((lt (k := 48) (by omega)).mpr w)
    have g2 : ¬ 57 < c := fun w => q2 ((gt (k := 57) (by omega)).mpr w)
    rw [show (48 : Int32) = nI 48 from rfl, pk_sub (by omega)]
    unfold hp_dI hp_dg at hq
    rw [if_pos (by omega)] at hq
    exact hq
section HPT
variable {f : Nat → Int32} {len p q : Nat} {T : Nat → Nat}
theorem hp_digitAt (hT : hp_TX f len T) (hl : len ≤ 8000) (hq : q ≤ len) {i : Nat} (hi : i < 100000) {Q : Int32 → Prop} (h1 : p + i < q → Q (hp_dI (T (p + i)))) (h0 : q ≤ p + i → Q (-1)) (hp : p ≤ q) : hx_v_Typed_digitAt (nI i) f (nI p) (nI q) Q := by
  unfold hx_v_Typed_digitAt
  intro P49 P69 h49 h69
  intro z hz
  rw [nI_add] at hz
  subst hz
  refine ⟨fun w => absurd ((nI_ltI (by omega) (by omega)).mp w) (by omega), fun _ => ⟨fun w => ?_, fun w => h0 (Nat.not_lt.mp fun u => w ((nI_ltI (by omega) (by omega)).mpr u))⟩⟩
  have hlt := (nI_ltI (by omega) (by omega)).mp w
  have ht := hT (p + i) (by omega)
  refine ⟨vp_in_nI (by omega) (by omega), fun c hc => ?_⟩
  rw [hp_cl (by omega), ht.1] at hc
  subst hc
  have := hp_digitM (c := T (p + i)) (Q := Q) (by omega) (h1 hlt)
  unfold hx_v_Model_digit at this
  exact this (P49 (nI (T (p + i)))) (P69 (nI (T (p + i)))) (h49 _) (h69 _)
theorem hp_takeBytes (hT : hp_TX f len T) (hl : len ≤ 8000) (hq : q ≤ len) (hp : p ≤ q) {s : Nat} (hs : p + s ≤ q) {Q : Int32 → Int32 → Prop} (h1 : hp_all T p q s → Q 1 (nI s)) (h0 : ¬ hp_all T p q s → Q 0 (nI s)) : hx_v_Typed_takeBytesFrom (nI s) f (nI p) (nI q) Q := by
  unfold hx_v_Typed_takeBytesFrom hx_v_Typed_recordLength
  intro P7 h7
  have key : ∀ d i, q - p - i ≤ d → s ≤ i → p + i ≤ q → (∀ j, s ≤ j → j < i → (hp_dg (T (p + j))).isSome) → P7 (nI i) (nI s) := by
    intro d
    induction d with
    | zero =>
      intro i hd hsi hiq hall
      apply h7
      rw [pk_sub hp]
      exact ⟨fun _ => h1 fun j hj hjq => hall j hj (by omega), fun w => absurd (nI_le (by omega) (by omega)) w⟩
    | succ d ih =>
      intro i hd hsi hiq hall
      apply h7
      rw [pk_sub hp]
      refine ⟨fun w => ?_, fun w => ?_⟩
      · have := (nI_leI (by omega) (by omega)).mp w
        exact h1 fun j hj hjq => hall j hj (by omega)
      · have hlt : i < q - p := Nat.not_le.mp fun u => w (nI_le u (by omega))
        refine hp_digitAt hT hl hq (by omega) (fun hpi => ?_) (fun hpi => absurd hpi (by omega)) hp
        by_cases hd' : (hp_dg (T (p + i))).isSome
        · rw [hp_dI_some hd']
          refine ⟨fun _ => ?_, fun u => absurd u (hp_ine (by have := hp_d_lt (T (p + i)); omega))⟩
          rw [nI_1]
          refine ih (i + 1) (by omega) (by omega) (by omega) (fun j hj hji => ?_)
          by_cases e : j = i
          · rw [e]; exact hd'
          · exact hall j hj (by omega)
        · rw [hp_dI_none hd']
          exact ⟨fun u => absurd rfl u, fun _ => h0 fun hall' => hd' (hall' i hsi hpi)⟩
  exact key (q - p) s (by omega) (Nat.le_refl _) hs (fun j hj hji => absurd hji (by omega))
theorem hp_bytes (hp : p ≤ q) (hq : q ≤ 8000) {s : Nat} (hs : p + s ≤ q) {Q : Int32 → Prop} (h : Q (nI ((q - p - s) / 2))) : hx_v_Typed_bytes (nI p) (nI q) (nI s) Q := by
  unfold hx_v_Typed_bytes hx_v_Typed_recordLength
  rw [pk_sub hp]
  dsimp only
  rw [pk_sub (by omega), show (2 : Int32) = nI 2 from rfl, pk_div (by omega) (by omega) (by omega)]
  exact h
theorem hp_half (hp : p ≤ q) (hq : q ≤ 8000) {s : Nat} (hs : p + s ≤ q) {Q : Int32 → Prop} (h0 : (q - p - s) % 2 = 0 → Q 0) (h1 : (q - p - s) % 2 ≠ 0 → Q 1) : hx_v_Typed_hasHalfByte (nI p) (nI q) (nI s) Q := by
  unfold hx_v_Typed_hasHalfByte hx_v_Typed_recordLength
  rw [pk_sub hp]
  dsimp only
  rw [pk_sub (by omega), show (2 : Int32) = nI 2 from rfl, pk_rem (by omega) (by omega) (by omega)]
  refine ⟨fun w => h0 ((nI_eq (b := 0) (by omega) (by omega)).mp w), fun w => h1 fun e => w (by rw [e]; rfl)⟩
theorem hp_byteAt (hT : hp_TX f len T) (hl : len ≤ 8000) (hq : q ≤ len) (hp : p ≤ q) {s i : Nat} (ha : hp_all T p q s) (hi : p + s + 2 * i + 1 < q) {Q : Int32 → Prop} (h : Q (nI (hp_B T p s i))) : hx_v_Typed_byteAt (nI i) f (nI p) (nI q) (nI s) Q := by
  unfold hx_v_Typed_byteAt
  intro z hz
  rw [show (2 : Int32) = nI 2 from rfl, pk_mul, nI_add] at hz
  subst hz
  have a1 := ha (s + 2 * i) (by omega) (by omega)
  have a2 := ha (s + 2 * i + 1) (by omega) (by omega)
  refine hp_digitAt hT hl hq (by omega) (fun _ => ?_) (fun w => absurd w (by omega)) hp
  rw [nI_1]
  refine hp_digitAt hT hl hq (by omega) (fun _ => ?_) (fun w => absurd w (by omega)) hp
  rw [hp_dI_some a1, hp_dI_some a2, hp_hex _ (hp_d_lt _) _ (hp_d_lt _)]
  unfold hp_B at h
  rw [← Nat.add_assoc, ← Nat.add_assoc, ← Nat.add_assoc]
  exact h
theorem hp_numberAt (hT : hp_TX f len T) (hl : len ≤ 8000) (hq : q ≤ len) (hp : p ≤ q) {s i n : Nat} (ha : hp_all T p q s) (hn : n ≤ 4) (hi : p + s + 2 * (i + n) ≤ q) {Q : Int64 → Prop} (h : Q (lN (hp_num (hp_B T p s) i n))) : hx_v_Typed_numberAt (nI i) (nI n) f (nI p) (nI q) (nI s) Q := by
  unfold hx_v_Typed_numberAt
  intro P5 h5
  have key : ∀ d k, n - k ≤ d → k ≤ n → P5 (lN (hp_num (hp_B T p s) i k)) (nI k) := by
    intro d
    induction d with
    | zero =>
      intro k hd hk
      apply h5
      obtain rfl : k = n := by omega
      exact ⟨fun _ => h, fun w => absurd (nI_le (Nat.le_refl _) (by omega)) w⟩
    | succ d ih =>
      intro k hd hk
      apply h5
      refine ⟨fun w => ?_, fun w => ?_⟩
      · have := (nI_leI (by omega) (by omega)).mp w
        obtain rfl : k = n := by omega
        exact h
      · have hlt : k < n := Nat.not_le.mp fun u => w (nI_le u (by omega))
        rw [nI_add]
        refine hp_byteAt hT hl hq hp ha (by omega) (fun z hz => ?_)
        have h1 := hp_num_lt (hp_B_lt T p s) i k
        have h2 : 256 ^ k ≤ 256 ^ 3 := Nat.pow_le_pow_right (by decide) (by omega)
        rw [hp_sh8 (by omega) (hp_B_lt T p s (i + k))] at hz
        subst hz
        rw [nI_1]
        exact ih (k + 1) (by omega) (by omega)
  exact key n 0 (by omega) (by omega)
theorem hp_sumAt (hT : hp_TX f len T) (hl : len ≤ 8000) (hq : q ≤ len) (hp : p ≤ q) {s : Nat} (ha : hp_all T p q s) (hs : p + s ≤ q) {Q : Int32 → Prop} (h : Q (nI (hp_sum (hp_B T p s) ((q - p - s) / 2) % 256))) : hx_v_Typed_sumOfBytes f (nI p) (nI q) (nI s) Q := by
  unfold hx_v_Typed_sumOfBytes
  intro P4 h4
  have hle := hp_sum_le (hp_B_lt T p s) ((q - p - s) / 2)
  have key : ∀ d k, (q - p - s) / 2 - k ≤ d → k ≤ (q - p - s) / 2 → P4 (nI (hp_sum (hp_B T p s) k)) (nI k) := by
    intro d
    induction d with
    | zero =>
      intro k hd hk
      apply h4
      refine hp_bytes hp (by omega) hs ⟨fun _ => ?_, fun w => absurd (nI_le (by omega) (by omega)) w⟩
      obtain rfl : k = (q - p - s) / 2 := by omega
      rw [hp_and255 (by omega)]
      exact h
    | succ d ih =>
      intro k hd hk
      apply h4
      refine hp_bytes hp (by omega) hs ⟨fun w => ?_, fun w => ?_⟩
      · have := (nI_leI (by omega) (by omega)).mp w
        obtain rfl : k = (q - p - s) / 2 := by omega
        rw [hp_and255 (by omega)]
        exact h
      · have hlt : k < (q - p - s) / 2 := Nat.not_le.mp fun u => w (nI_le u (by omega))
        refine hp_byteAt hT hl hq hp ha (by omega) (fun z hz => ?_)
        rw [nI_add] at hz
        subst hz
        rw [nI_1]
        exact ih (k + 1) (by omega) (by omega)
  exact key _ 0 (Nat.sub_le _ _) (by omega)
theorem hp_beginsWith (hT : hp_TX f len T) (hl : len ≤ 8000) (hq : q ≤ len) (hp : p < q) {c : Nat} (hc : c < 128) {Q : Int32 → Prop} (h1 : T p = c → Q 1) (h0 : T p ≠ c → Q 0) : hx_v_Typed_beginsWith (nI c) f (nI p) (nI q) Q := by
  unfold hx_v_Typed_beginsWith
  have ht := hT p (by omega)
  refine ⟨fun w => absurd ((nI_leI (by omega) (by omega)).mp w) (by omega), fun _ => ?_⟩
  rw [hp_cl (by omega), ht.1]
  exact ⟨vp_in_nI (by omega) (by omega), fun w => h0 fun e => w (by rw [e]), fun w => h1 ((nI_eq (by omega) (by omega)).mp w)⟩
end HPT
