/-! images as mathematics: n addresses in order, their bytes, the map that they are -/
def hp_so (n : Nat) (A : Nat → Nat) : Prop := ∀ j k, j < k → k < n → A j < A k
def hp_ix (n : Nat) (A : Nat → Nat) (x i : Nat) : Prop := i ≤ n ∧ (∀ k, k < i → A k < x) ∧ ∀ k, i ≤ k → k < n → x ≤ A k
theorem hp_ix_le {n : Nat} {A : Nat → Nat} {x y i j : Nat} (hi : hp_ix n A x i) (hj : hp_ix n A y j) (h : x ≤ y) : i ≤ j := by
  refine Nat.not_lt.mp fun q => ?_
  have h1 := hi.2.1 j q
  have h2 := hj.2.2 j (Nat.le_refl _) (Nat.lt_of_lt_of_le q hi.1)
  omega
theorem hp_ix_uniq {n : Nat} {A : Nat → Nat} {x i j : Nat} (hi : hp_ix n A x i) (hj : hp_ix n A x j) : i = j := Nat.le_antisymm (hp_ix_le hi hj (Nat.le_refl _)) (hp_ix_le hj hi (Nat.le_refl _))
theorem hp_ix_ex {A : Nat → Nat} (x : Nat) : ∀ n, hp_so n A → ∃ i, hp_ix n A x i
  | 0, _ => ⟨0, Nat.le_refl _, fun k h => absurd h (Nat.not_lt_zero _), fun k _ h => absurd h (Nat.not_lt_zero _)⟩
  | n + 1, hs => by
    obtain ⟨i, h1, h2, h3⟩ := hp_ix_ex x n (fun j k hj hk => hs j k hj (by omega))
    by_cases hn : i = n ∧ A n < x
    · exact ⟨n + 1, Nat.le_refl _, fun k hk => by
        by_cases hkn : k = n
        · rw [hkn]; exact hn.2
        · exact h2 k (by omega), fun k h h' => absurd h' (by omega)⟩
    · refine ⟨i, by omega, h2, fun k hk hk' => ?_⟩
      by_cases hkn : k = n
      · subst hkn
        by_cases hin : i = k
        · exact Nat.not_lt.mp fun q => hn ⟨hin, q⟩
        · have := h3 i (Nat.le_refl _) (by omega)
          have := hs i k (by omega) (by omega)
          omega
      · exact h3 k hk (by omega)
/-- strictly growing numbers grow by one at least -/
theorem hp_so_add {n : Nat} {A : Nat → Nat} (hs : hp_so n A) (i : Nat) : ∀ t, i + t < n → A i + t ≤ A (i + t)
  | 0, _ => Nat.le_refl _
  | t + 1, h => by
    have h1 := hp_so_add hs i t (by omega)
    have h2 := hs (i + t) (i + (t + 1)) (by omega) h
    omega
def hp_C (a : Nat → Int64) (v : Nat → Int32) (n : Nat) (M : Nat → Option Nat) (A V : Nat → Nat) : Prop :=
  (∀ k, k < n → a k = lN (A k) ∧ v k = nI (V k) ∧ A k < 4294967296 ∧ V k < 256 ∧ M (A k) = some (V k)) ∧ hp_so n A ∧ ∀ x y, M x = some y → ∃ k, k < n ∧ A k = x
def hp_R (a : Nat → Int64) (v : Nat → Int32) (n : Nat) (M : Nat → Option Nat) : Prop := ∃ A V : Nat → Nat, hp_C a v n M A V
theorem hp_C_none {a : Nat → Int64} {v : Nat → Int32} {n : Nat} {M : Nat → Option Nat} {A V : Nat → Nat} (h : hp_C a v n M A V) {x i : Nat} (hi : hp_ix n A x i) : M x = none ↔ ¬ (i < n ∧ A i = x) := by
  constructor
  · intro hx ⟨h1, h2⟩
    have := (h.1 i h1).2.2.2.2
    rw [h2, hx] at this
    cases this
  · intro hx
    cases hm : M x with
    | none => rfl
    | some y =>
      obtain ⟨k, h1, h2⟩ := h.2.2 x y hm
      exfalso
      apply hx
      have h3 : ¬ k < i := fun q => by have := hi.2.1 k q; omega
      have h4 : k = i := by
        refine Nat.le_antisymm (Nat.not_lt.mp fun q => ?_) (Nat.not_lt.mp h3)
        have := hi.2.2 i (Nat.le_refl _) (by omega)
        have := h.2.1 i k q h1
        omega
      subst h4
      exact ⟨h1, h2⟩
theorem hp_C_some {a : Nat → Int64} {v : Nat → Int32} {n : Nat} {M : Nat → Option Nat} {A V : Nat → Nat} (h : hp_C a v n M A V) {x i : Nat} (hi : hp_ix n A x i) (h1 : i < n) (h2 : A i = x) : M x = some (V i) := by rw [← h2]; exact (h.1 i h1).2.2.2.2
/-- two rows of one map are the same rows -/
theorem hp_uniq {a a' : Nat → Int64} {v v' : Nat → Int32} {n n' : Nat} {M : Nat → Option Nat} {A V A' V' : Nat → Nat} (h : hp_C a v n M A V) (h' : hp_C a' v' n' M A' V') : n = n' ∧ ∀ k, k < n → A k = A' k ∧ V k = V' k := by
  have half : ∀ {a a' : Nat → Int64} {v v' : Nat → Int32} {n n' : Nat} {A V A' V' : Nat → Nat}, hp_C a v n M A V → hp_C a' v' n' M A' V' → ∀ k, (∀ j, j < k → j < n → j < n' ∧ A j = A' j) → k < n → k < n' ∧ A' k ≤ A k := by
    intro a a' v v' n n' A V A' V' h h' k ih hk
    obtain ⟨k', hk', he⟩ := h'.2.2 (A k) (V k) (h.1 k hk).2.2.2.2
    have h1 : ¬ k' < k := fun q => by
      have h2 := (ih k' q (by omega)).2
      have h3 := h.2.1 k' k q hk
      omega
    refine ⟨by omega, ?_⟩
    by_cases hkk : k = k'
    · rw [hkk]; rw [← hkk] at he ⊢; omega
    · have := h'.2.1 k k' (by omega) hk'
      omega
  have main : ∀ k, (k < n ↔ k < n') ∧ (k < n → A k = A' k) := by
    intro k
    induction k using Nat.strongRecOn with
    | _ k ih =>
      have e1 := half h h' k (fun j hj hjn => ⟨((ih j hj).1).mp hjn, (ih j hj).2 hjn⟩)
      have e2 := half h' h k (fun j hj hjn => ⟨((ih j hj).1).mpr hjn, ((ih j hj).2 (((ih j hj).1).mpr hjn)).symm⟩)
      refine ⟨⟨fun q => (e1 q).1, fun q => (e2 q).1⟩, fun q => ?_⟩
      have := (e1 q).2
      have := (e2 (e1 q).1).2
      omega
  have hn : n = n' := by
    refine Nat.le_antisymm (Nat.not_lt.mp fun q => ?_) (Nat.not_lt.mp fun q => ?_)
    · have := (main n').1.mp q
      omega
    · have := (main n).1.mpr q
      omega
  refine ⟨hn, fun k hk => ⟨(main k).2 hk, ?_⟩⟩
  have e1 := (h.1 k hk).2.2.2.2
  have e2 := (h'.1 k (by omega)).2.2.2.2
  rw [← (main k).2 hk, e1] at e2
  exact Option.some.inj e2
theorem hp_same {a a' : Nat → Int64} {v v' : Nat → Int32} {n n' : Nat} {M : Nat → Option Nat} (h : hp_R a v n M) (h' : hp_R a' v' n' M) : n = n' ∧ ∀ k, k < n → a k = a' k ∧ v k = v' k := by
  obtain ⟨A, V, h⟩ := h
  obtain ⟨A', V', h'⟩ := h'
  obtain ⟨e, f⟩ := hp_uniq h h'
  refine ⟨e, fun k hk => ?_⟩
  have h1 := h.1 k hk
  have h2 := h'.1 k (by omega)
  rw [h1.1, h1.2.1, h2.1, h2.2.1, (f k hk).1, (f k hk).2]
  exact ⟨rfl, rfl⟩
/-- a block of c addresses from x on is given w entries -/
theorem hp_blk {a a' : Nat → Int64} {v v' : Nat → Int32} {n n' : Nat} {M M' : Nat → Option Nat} {A V : Nat → Nat} (h : hp_C a v n M A V) {x c i j w : Nat} (hi : hp_ix n A x i) (hj : hp_ix n A (x + c) j) (hx : x + c ≤ 4294967296) {Bk Bv : Nat → Nat} (hn : n' = i + w + (n - j))
    (lo : ∀ k, k < i → a' k = a k ∧ v' k = v k) (mid : ∀ t, t < w → a' (i + t) = lN (Bk t) ∧ v' (i + t) = nI (Bv t)) (hb : ∀ t, t < w → x ≤ Bk t ∧ Bk t < x + c ∧ Bv t < 256 ∧ M' (Bk t) = some (Bv t)) (hso : ∀ s t, s < t → t < w → Bk s < Bk t) (up : ∀ t, j + t < n → a' (i + w + t) = a (j + t) ∧ v' (i + w + t) = v (j + t))
    (out : ∀ y, (y < x ∨ x + c ≤ y) → M' y = M y) (inn : ∀ y z, x ≤ y → y < x + c → M' y = some z → ∃ t, t < w ∧ Bk t = y) : hp_R a' v' n' M' := by
  have hij : i ≤ j := hp_ix_le hi hj (by omega)
  refine ⟨fun k => if k < i then A k else if k < i + w then Bk (k - i) else A (k - (i + w) + j), fun k => if k < i then V k else if k < i + w then Bv (k - i) else V (k - (i + w) + j), fun k hk => ?_, fun k k' hkk hk => ?_, fun y z hy => ?_⟩
  · by_cases h1 : k < i
    · simp only [h1, if_true]
      have e := h.1 k (by have := hi.1; omega)
      rw [(lo k h1).1, (lo k h1).2]
      have := hi.2.1 k h1
      rw [out _ (Or.inl this)]
      exact e
    · by_cases h2 : k < i + w
      · simp only [h1, h2, if_true, if_false]
        have e1 := mid (k - i) (by omega)
        have e2 := hb (k - i) (by omega)
        rw [show i + (k - i) = k by omega] at e1
        exact ⟨e1.1, e1.2, by omega, e2.2.2.1, e2.2.2.2⟩
      · simp only [h1, h2, if_false]
        have e1 := up (k - (i + w)) (by have := hj.1; omega)
        rw [show i + w + (k - (i + w)) = k by omega, show j + (k - (i + w)) = k - (i + w) + j by omega] at e1
        have e2 := h.1 (k - (i + w) + j) (by have := hj.1; omega)
        have e3 := hj.2.2 (k - (i + w) + j) (by omega) (by have := hj.1; omega)
        rw [e1.1, e1.2, out _ (Or.inr e3)]
        exact e2
  · have hjn := hj.1
    by_cases h1 : k' < i
    · simp only [show k < i by omega, h1, if_true]
      exact h.2.1 k k' hkk (by omega)
    · by_cases h2 : k' < i + w
      · by_cases h3 : k < i
        · simp only [h1, h2, h3, if_true, if_false]
          have := hi.2.1 k h3
          have := hb (k' - i) (by omega)
          omega
        · simp only [h1, h2, h3, show k < i + w by omega, if_true, if_false]
          exact hso (k - i) (k' - i) (by omega) (by omega)
      · have e3 := hj.2.2 (k' - (i + w) + j) (by omega) (by omega)
        by_cases h3 : k < i
        · simp only [h1, h2, h3, if_true, if_false]
          have := hi.2.1 k h3
          omega
        · by_cases h4 : k < i + w
          · simp only [h1, h2, h3, h4, if_true, if_false]
            have := hb (k - i) (by omega)
            omega
          · simp only [h1, h2, h3, h4, if_false]
            exact h.2.1 _ _ (by omega) (by omega)
  · have hjn := hj.1
    by_cases h1 : y < x ∨ x + c ≤ y
    · rw [out y h1] at hy
      obtain ⟨k, hk, he⟩ := h.2.2 y z hy
      rcases h1 with h1 | h1
      · have h2 : k < i := Nat.not_le.mp fun q => by have := hi.2.2 k q hk; omega
        exact ⟨k, by omega, by simp only [h2, if_true]; exact he⟩
      · have h2 : j ≤ k := Nat.not_lt.mp fun q => by have := hj.2.1 k q; omega
        refine ⟨k - j + (i + w), by omega, ?_⟩
        simp only [show ¬ k - j + (i + w) < i by omega, show ¬ k - j + (i + w) < i + w by omega, if_false]
        rw [show k - j + (i + w) - (i + w) + j = k by omega]
        exact he
    · obtain ⟨t, ht, he⟩ := inn y z (by omega) (by omega) hy
      refine ⟨i + t, by omega, ?_⟩
      simp only [show ¬ i + t < i by omega, show i + t < i + w by omega, if_true, if_false]
      rw [show i + t - i = t by omega]
      exact he
/-- how many of the c addresses from x on are there -/
def hp_cnt (M : Nat → Option Nat) (x : Nat) : Nat → Nat
  | 0 => 0
  | c + 1 => hp_cnt M x c + (if (M (x + c)).isSome then 1 else 0)
theorem hp_cnt_le (M : Nat → Option Nat) (x : Nat) : ∀ c, hp_cnt M x c ≤ c
  | 0 => Nat.le_refl _
  | c + 1 => by
    have := hp_cnt_le M x c
    show hp_cnt M x c + (if (M (x + c)).isSome then 1 else 0) ≤ c + 1
    split <;> omega
theorem hp_cnt_mono (M : Nat → Option Nat) (x c : Nat) : ∀ d, hp_cnt M x c ≤ hp_cnt M x (c + d) ∧ hp_cnt M x (c + d) ≤ hp_cnt M x c + d
  | 0 => ⟨Nat.le_refl _, Nat.le_refl _⟩
  | d + 1 => by
    have := hp_cnt_mono M x c d
    have e : hp_cnt M x (c + (d + 1)) = hp_cnt M x (c + d) + (if (M (x + (c + d))).isSome then 1 else 0) := rfl
    rw [e]
    split <;> omega
theorem hp_ix_succ {a : Nat → Int64} {v : Nat → Int32} {n : Nat} {M : Nat → Option Nat} {A V : Nat → Nat} (h : hp_C a v n M A V) {x i : Nat} (hi : hp_ix n A x i) : hp_ix n A (x + 1) (i + (if (M x).isSome then 1 else 0)) := by
  have hs := h.2.1
  cases hm : M x with
  | none =>
    have hn := (hp_C_none h hi).mp hm
    simp only [Option.isSome_none, Bool.false_eq_true, if_false, Nat.add_zero]
    refine ⟨hi.1, fun k hk => by have := hi.2.1 k hk; omega, fun k hk hkn => ?_⟩
    have h1 := hi.2.2 k hk hkn
    by_cases hx : A k = x
    · exfalso
      apply hn
      have h2 := hi.2.2 i (Nat.le_refl _) (by omega)
      by_cases hik : i = k
      · subst hik; exact ⟨hkn, hx⟩
      · have := hs i k (by omega) hkn
        omega
    · omega
  | some y =>
    have hn : i < n ∧ A i = x := by
      refine Decidable.byContradiction fun q => ?_
      have := (hp_C_none h hi).mpr q
      rw [hm] at this
      cases this
    simp only [Option.isSome_some, if_true]
    refine ⟨by omega, fun k hk => ?_, fun k hk hkn => ?_⟩
    · by_cases hki : k = i
      · rw [hki]; omega
      · have := hi.2.1 k (by omega)
        omega
    · have := hs i k (by omega) hkn
      omega
theorem hp_ix_cnt {a : Nat → Int64} {v : Nat → Int32} {n : Nat} {M : Nat → Option Nat} {A V : Nat → Nat} (h : hp_C a v n M A V) {x i : Nat} (hi : hp_ix n A x i) : ∀ c, hp_ix n A (x + c) (i + hp_cnt M x c)
  | 0 => hi
  | c + 1 => by
    have := hp_ix_succ h (hp_ix_cnt h hi c)
    rw [Nat.add_assoc i] at this
    exact this
theorem hp_common {a a' : Nat → Int64} {v v' : Nat → Int32} {n n' : Nat} {M : Nat → Option Nat} (h : hp_R a v n M) (h' : hp_R a' v' n' M) : ∃ A V : Nat → Nat, n = n' ∧ hp_C a v n M A V ∧ hp_C a' v' n M A V := by
  obtain ⟨A, V, h⟩ := h
  obtain ⟨A', V', h'⟩ := h'
  obtain ⟨e, f⟩ := hp_uniq h h'
  subst e
  refine ⟨A, V, rfl, h, fun k hk => ?_, h.2.1, h.2.2⟩
  have h1 := h'.1 k hk
  rw [← (f k hk).1, ← (f k hk).2] at h1
  exact h1
