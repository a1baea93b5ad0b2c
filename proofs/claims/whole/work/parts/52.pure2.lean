/-! changes of an image, as maps and as rows -/
def hp_set (M : Nat → Option Nat) (x b : Nat) : Nat → Option Nat := fun y => if y = x then some b else M y
def hp_del (M : Nat → Option Nat) (x : Nat) : Nat → Option Nat := fun y => if y = x then none else M y
def hp_fill (M : Nat → Option Nat) (x c b : Nat) : Nat → Option Nat := fun y => if x ≤ y ∧ y < x + c then some b else M y
def hp_gap (M : Nat → Option Nat) (x c : Nat) : Nat → Option Nat := fun y => if x ≤ y ∧ y < x + c then none else M y
def hp_copy (M : Nat → Option Nat) (f c t : Nat) : Nat → Option Nat := fun y => if t ≤ y ∧ y < t + c then M (y - t + f) else M y
def hp_over (M N : Nat → Option Nat) : Nat → Option Nat := fun y => match N y with
  | some b => some b
  | none => M y
theorem hp_fill_succ (M : Nat → Option Nat) (x c b : Nat) : hp_set (hp_fill M x c b) (x + c) b = hp_fill M x (c + 1) b := by
  funext y
  unfold hp_set hp_fill
  by_cases h : y = x + c
  · subst h
    rw [if_pos rfl, if_pos (by omega)]
  · rw [if_neg h]
    by_cases h2 : x ≤ y ∧ y < x + c
    · rw [if_pos h2, if_pos (by omega)]
    · rw [if_neg h2, if_neg (by omega)]
theorem hp_fill_0 (M : Nat → Option Nat) (x b : Nat) : hp_fill M x 0 b = M := by
  funext y
  unfold hp_fill
  rw [if_neg (by omega)]
theorem hp_gap_succ (M : Nat → Option Nat) (x c : Nat) : hp_del (hp_gap M x c) (x + c) = hp_gap M x (c + 1) := by
  funext y
  unfold hp_del hp_gap
  by_cases h : y = x + c
  · subst h
    rw [if_pos rfl, if_pos (by omega)]
  · rw [if_neg h]
    by_cases h2 : x ≤ y ∧ y < x + c
    · rw [if_pos h2, if_pos (by omega)]
    · rw [if_neg h2, if_neg (by omega)]
theorem hp_gap_0 (M : Nat → Option Nat) (x : Nat) : hp_gap M x 0 = M := by
  funext y
  unfold hp_gap
  rw [if_neg (by omega)]
theorem hp_fill_1 (M : Nat → Option Nat) (x b : Nat) : hp_fill M x 1 b = hp_set M x b := by
  rw [← hp_fill_succ, hp_fill_0]
  rfl
section HPM
variable {a a' : Nat → Int64} {v v' : Nat → Int32} {n : Nat} {M : Nat → Option Nat} {A V : Nat → Nat} {x i b : Nat}
/-- an address that isn't there comes between -/
theorem hp_put_new (h : hp_C a v n M A V) (hi : hp_ix n A x i) (hx : x < 4294967296) (hb : b < 256) (hm : M x = none) (lo : ∀ k, k < i → a' k = a k ∧ v' k = v k) (at_ : a' i = lN x ∧ v' i = nI b) (up : ∀ k, i ≤ k → k < n → a' (k + 1) = a k ∧ v' (k + 1) = v k) : hp_R a' v' (n + 1) (hp_set M x b) := by
  have hj := hp_ix_succ h hi
  rw [hm] at hj
  have hin := hi.1
  refine hp_blk h hi hj (by omega) (w := 1) (Bk := fun _ => x) (Bv := fun _ => b) (by simp; omega) lo (fun t ht => by rw [show t = 0 by omega]; exact at_) (fun t _ => ⟨Nat.le_refl _, by omega, hb, by unfold hp_set; rw [if_pos rfl]⟩) (fun s t h1 h2 => absurd h1 (by omega)) (fun t ht => ?_) (fun y hy => by unfold hp_set; rw [if_neg (by omega)]) (fun y z h1 h2 _ => ⟨0, by omega, by omega⟩)
  have := up (i + t) (by omega) (by simpa using ht)
  simp only [Option.isSome_none, Bool.false_eq_true, if_false, Nat.add_zero] at ht ⊢
  rw [show i + 1 + t = i + t + 1 by omega]
  exact this
/-- one that is there gets another byte -/
theorem hp_put_old (h : hp_C a v n M A V) (hi : hp_ix n A x i) (hx : x < 4294967296) (hb : b < 256) (hm : M x ≠ none) (lo : ∀ k, k < n → k ≠ i → a' k = a k ∧ v' k = v k) (at_ : a' i = lN x ∧ v' i = nI b) : hp_R a' v' n (hp_set M x b) := by
  have hj := hp_ix_succ h hi
  have hin := hi.1
  have hs : (M x).isSome = true := by
    cases q : M x with
    | none => exact absurd q hm
    | some _ => rfl
  rw [hs] at hj
  simp only [if_true] at hj
  have hlt := hj.1
  refine hp_blk h hi hj (by omega) (w := 1) (Bk := fun _ => x) (Bv := fun _ => b) (by omega) (fun k hk => lo k (by omega) (by omega)) (fun t ht => by rw [show t = 0 by omega]; exact at_) (fun t _ => ⟨Nat.le_refl _, by omega, hb, by unfold hp_set; rw [if_pos rfl]⟩) (fun s t h1 h2 => absurd h1 (by omega)) (fun t ht => lo _ (by omega) (by omega)) (fun y hy => by unfold hp_set; rw [if_neg (by omega)]) (fun y z h1 h2 _ => ⟨0, by omega, by omega⟩)
/-- one that is there goes -/
theorem hp_rem_old (h : hp_C a v n M A V) (hi : hp_ix n A x i) (hx : x < 4294967296) (hm : M x ≠ none) (lo : ∀ k, k < i → a' k = a k ∧ v' k = v k) (up : ∀ k, i ≤ k → k + 1 < n → a' k = a (k + 1) ∧ v' k = v (k + 1)) : hp_R a' v' (n - 1) (hp_del M x) := by
  have hj := hp_ix_succ h hi
  have hin := hi.1
  have hs : (M x).isSome = true := by
    cases q : M x with
    | none => exact absurd q hm
    | some _ => rfl
  rw [hs] at hj
  simp only [if_true] at hj
  have hlt := hj.1
  refine hp_blk h hi hj (by omega) (w := 0) (Bk := fun _ => x) (Bv := fun _ => 0) (by omega) lo (fun t ht => absurd ht (by omega)) (fun t ht => absurd ht (by omega)) (fun s t h1 h2 => absurd h1 (by omega)) (fun t ht => ?_) (fun y hy => by unfold hp_del; rw [if_neg (by omega)]) (fun y z h1 h2 h3 => by
    exfalso
    rw [show y = x by omega] at h3
    unfold hp_del at h3
    rw [if_pos rfl] at h3
    cases h3)
  have := up (i + t) (by omega) (by omega)
  rw [show i + 0 + t = i + t by omega, show i + 1 + t = i + t + 1 by omega]
  exact this
theorem hp_del_none (hm : M x = none) : hp_del M x = M := by
  funext y
  unfold hp_del
  split
  · rename_i q
    rw [q, hm]
  · rfl
end HPM
section HPN
variable {a a' : Nat → Int64} {v v' : Nat → Int32} {n : Nat} {M : Nat → Option Nat} {A V : Nat → Nat} {x i j b c : Nat}
theorem hp_spread (h : hp_C a v n M A V) (hi : hp_ix n A x i) (hj : hp_ix n A (x + c) j) (hx : x + c ≤ 4294967296) (hb : b < 256) (lo : ∀ k, k < i → a' k = a k ∧ v' k = v k) (mid : ∀ t, t < c → a' (i + t) = lN (x + t) ∧ v' (i + t) = nI b) (up : ∀ t, j + t < n → a' (i + c + t) = a (j + t) ∧ v' (i + c + t) = v (j + t)) : hp_R a' v' (i + c + (n - j)) (hp_fill M x c b) :=
  hp_blk h hi hj hx (w := c) (Bk := fun t => x + t) (Bv := fun _ => b) rfl lo mid (fun t ht => ⟨by omega, by omega, hb, by unfold hp_fill; rw [if_pos (by omega)]⟩) (fun s t h1 h2 => by omega) up (fun y hy => by unfold hp_fill; rw [if_neg (by omega)]) (fun y z h1 h2 _ => ⟨y - x, by omega, by omega⟩)
/-- a block's entries go, none come -/
theorem hp_close (h : hp_C a v n M A V) (hi : hp_ix n A x i) (hj : hp_ix n A (x + c) j) (hx : x + c ≤ 4294967296) (lo : ∀ k, k < i → a' k = a k ∧ v' k = v k) (up : ∀ t, j + t < n → a' (i + t) = a (j + t) ∧ v' (i + t) = v (j + t)) : hp_R a' v' (i + (n - j)) (hp_gap M x c) :=
  hp_blk h hi hj hx (w := 0) (Bk := fun t => x + t) (Bv := fun _ => 0) (by omega) lo (fun t ht => absurd ht (by omega)) (fun t ht => absurd ht (by omega)) (fun s t h1 h2 => by omega) up (fun y hy => by unfold hp_gap; rw [if_neg (by omega)]) (fun y z h1 h2 h3 => by
    exfalso
    unfold hp_gap at h3
    rw [if_pos (by omega)] at h3
    cases h3)
theorem hp_dupl {f t i0 i1 : Nat} (h : hp_C a v n M A V) (h0 : hp_ix n A f i0) (h1 : hp_ix n A (f + c) i1) (hi : hp_ix n A t i) (hj : hp_ix n A (t + c) j) (hf : f + c ≤ 4294967296) (ht : t + c ≤ 4294967296) (lo : ∀ k, k < i → a' k = a k ∧ v' k = v k) (mid : ∀ s, s < i1 - i0 → a' (i + s) = lN (A (i0 + s) - f + t) ∧ v' (i + s) = nI (V (i0 + s))) (up : ∀ s, j + s < n → a' (i + (i1 - i0) + s) = a (j + s) ∧ v' (i + (i1 - i0) + s) = v (j + s)) : hp_R a' v' (i + (i1 - i0) + (n - j)) (hp_copy M f c t) := by
  have hle : i0 ≤ i1 := hp_ix_le h0 h1 (by omega)
  have hn1 := h1.1
  have rng : ∀ s, s < i1 - i0 → f ≤ A (i0 + s) ∧ A (i0 + s) < f + c := fun s hs => ⟨h0.2.2 _ (by omega) (by omega), h1.2.1 _ (by omega)⟩
  refine hp_blk h hi hj ht (w := i1 - i0) (Bk := fun s => A (i0 + s) - f + t) (Bv := fun s => V (i0 + s)) rfl lo mid (fun s hs => ?_) (fun s s' hs hs' => ?_) up (fun y hy => by unfold hp_copy; rw [if_neg (by omega)]) (fun y z hy1 hy2 hy3 => ?_)
  · have := rng s hs
    have e := h.1 (i0 + s) (by omega)
    refine ⟨by omega, by omega, e.2.2.2.1, ?_⟩
    unfold hp_copy
    rw [if_pos (by omega), show A (i0 + s) - f + t - t + f = A (i0 + s) by omega]
    exact e.2.2.2.2
  · have := rng s (by omega)
    have := rng s' hs'
    have := h.2.1 (i0 + s) (i0 + s') (by omega) (by omega)
    show A (i0 + s) - f + t < A (i0 + s') - f + t
    omega
  · unfold hp_copy at hy3
    rw [if_pos (by omega)] at hy3
    obtain ⟨k, hk, he⟩ := h.2.2 _ _ hy3
    have k0 : i0 ≤ k := Nat.not_lt.mp fun q => by have := h0.2.1 k q; omega
    have k1 : k < i1 := Nat.not_le.mp fun q => by have := h1.2.2 k q hk; omega
    refine ⟨k - i0, by omega, ?_⟩
    show A (i0 + (k - i0)) - f + t = y
    rw [show i0 + (k - i0) = k by omega, he]
    omega
end HPN
/-- the reference's copy, k bytes on -/
def hp_cp (M : Nat → Option Nat) (f c t k : Nat) : Nat → Option Nat := fun y => if t ≤ y ∧ y < t + c then (if y < t + k then M (y - t + f) else none) else M y
theorem hp_cp_0 (M : Nat → Option Nat) (f c t : Nat) : hp_cp M f c t 0 = hp_gap M t c := by
  funext y
  unfold hp_cp hp_gap
  by_cases h : t ≤ y ∧ y < t + c
  · rw [if_pos h, if_pos h, if_neg (by omega)]
  · rw [if_neg h, if_neg h]
theorem hp_cp_end (M : Nat → Option Nat) (f c t : Nat) : hp_cp M f c t c = hp_copy M f c t := by
  funext y
  unfold hp_cp hp_copy
  by_cases h : t ≤ y ∧ y < t + c
  · rw [if_pos h, if_pos h, if_pos (by omega)]
  · rw [if_neg h, if_neg h]
theorem hp_cp_none (M : Nat → Option Nat) (f c t k : Nat) (hm : M (f + k) = none) : hp_cp M f c t (k + 1) = hp_cp M f c t k := by
  funext y
  unfold hp_cp
  by_cases h : t ≤ y ∧ y < t + c
  · rw [if_pos h, if_pos h]
    by_cases h2 : y = t + k
    · subst h2
      rw [if_pos (by omega), if_neg (by omega), show t + k - t + f = f + k by omega, hm]
    · by_cases h3 : y < t + k
      · rw [if_pos (by omega), if_pos h3]
      · rw [if_neg (by omega), if_neg h3]
  · rw [if_neg h, if_neg h]
theorem hp_cp_some (M : Nat → Option Nat) (f c t k b : Nat) (hk : k < c) (hm : M (f + k) = some b) : hp_cp M f c t (k + 1) = hp_set (hp_cp M f c t k) (t + k) b := by
  funext y
  unfold hp_cp hp_set
  by_cases h2 : y = t + k
  · subst h2
    rw [if_pos (by omega), if_pos (by omega), if_pos rfl, show t + k - t + f = f + k by omega, hm]
  · rw [if_neg h2]
    dsimp only
    by_cases h : t ≤ y ∧ y < t + c
    · rw [if_pos h, if_pos h]
      by_cases h3 : y < t + k
      · rw [if_pos (by omega), if_pos h3]
      · rw [if_neg (by omega), if_neg h3]
    · rw [if_neg h, if_neg h]
theorem hp_cp_at (M : Nat → Option Nat) (f c t k : Nat) (hk : k < c) : hp_cp M f c t k (t + k) = none := by
  unfold hp_cp
  rw [if_pos (by omega), if_neg (by omega)]
