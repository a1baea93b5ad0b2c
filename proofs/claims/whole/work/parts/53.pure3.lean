/-! an image laid over another, from the back -/
def hp_rem (M : Nat → Option Nat) (DA : Nat → Nat) : Nat → Nat
  | 0 => 0
  | q + 1 => hp_rem M DA q + (if (M (DA q)).isSome then 0 else 1)
def hp_OV (a : Nat → Int64) (v : Nat → Int32) (n : Nat) (M N : Nat → Option Nat) (A : Nat → Nat) (dn : Nat) (DA : Nat → Nat) (n' p q r : Nat) (a1 : Nat → Int64) (v1 : Nat → Int32) : Prop :=
  p ≤ n ∧ q ≤ dn ∧ r = p + hp_rem M DA q ∧ r ≤ n' ∧ (∀ k, k < p → a1 k = a k ∧ v1 k = v k) ∧ ∃ X Y : Nat → Nat,
    (∀ s, r ≤ s → s < n' → a1 s = lN (X s) ∧ v1 s = nI (Y s) ∧ X s < 4294967296 ∧ Y s < 256 ∧ hp_over M N (X s) = some (Y s) ∧ (0 < p → A (p - 1) < X s) ∧ (0 < q → DA (q - 1) < X s)) ∧
    (∀ s s', r ≤ s → s < s' → s' < n' → X s < X s') ∧ (∀ k, p ≤ k → k < n → ∃ s, r ≤ s ∧ s < n' ∧ X s = A k) ∧ (∀ k, q ≤ k → k < dn → ∃ s, r ≤ s ∧ s < n' ∧ X s = DA k)
section HPO
variable {a a1 da : Nat → Int64} {v v1 dv : Nat → Int32} {n dn n' : Nat} {M N : Nat → Option Nat} {A V DA DV : Nat → Nat}
theorem hp_ov_0 (hn : n' = n + hp_rem M DA dn) : hp_OV a v n M N A dn DA n' n dn n' a v :=
  ⟨Nat.le_refl _, Nat.le_refl _, hn, Nat.le_refl _, fun _ _ => ⟨rfl, rfl⟩, fun _ => 0, fun _ => 0, fun s h1 h2 => absurd h2 (by omega), fun s s' h1 h2 h3 => absurd h3 (by omega), fun k h1 h2 => absurd h2 (by omega), fun k h1 h2 => absurd h2 (by omega)⟩
theorem hp_up (f : Nat → Nat) (k x : Nat) : (fun j => if j = k then x else f j) k = x := by simp
/-- the image's own entry goes up -/
theorem hp_ov_A {p q r : Nat} (h : hp_C a v n M A V) (g : hp_C da dv dn N DA DV) (I : hp_OV a v n M N A dn DA n' p q r a1 v1) (hp : 0 < p) (hq : 0 < q) (hlt : DA (q - 1) < A (p - 1)) : 0 < r ∧ hp_OV a v n M N A dn DA n' (p - 1) q (r - 1) (vp_updL a1 (r - 1) (a (p - 1))) (upd v1 (r - 1) (v (p - 1))) := by
  obtain ⟨i1, i2, i3, i4, i5, X, Y, x1, x2, x3, x4⟩ := I
  have hN : N (A (p - 1)) = none := by
    cases hm : N (A (p - 1)) with
    | none => rfl
    | some y =>
      exfalso
      obtain ⟨k, hk, he⟩ := g.2.2 _ _ hm
      by_cases hkq : k < q
      · by_cases e : k = q - 1
        · rw [e] at he; omega
        · have := g.2.1 k (q - 1) (by omega) (by omega)
          omega
      · obtain ⟨s, s1, s2, s3⟩ := x4 k (by omega) hk
        have := (x1 s s1 s2).2.2.2.2.2.1 hp
        omega
  have eA := h.1 (p - 1) (by omega)
  refine ⟨by omega, by omega, i2, by omega, by omega, fun k hk => ?_, fun s => if s = r - 1 then A (p - 1) else X s, fun s => if s = r - 1 then V (p - 1) else Y s, fun s s1 s2 => ?_, fun s s' s1 s2 s3 => ?_, fun k k1 k2 => ?_, fun k k1 k2 => ?_⟩
  · rw [pk_uLn (by omega), pk_un (by omega)]
    exact i5 k (by omega)
  · by_cases hs : s = r - 1
    · subst hs
      rw [pk_uLs, pk_us]
      simp only [if_true]
      refine ⟨eA.1, eA.2.1, eA.2.2.1, eA.2.2.2.1, ?_, fun hp' => h.2.1 _ _ (by omega) (by omega), fun _ => hlt⟩
      unfold hp_over
      rw [hN]
      exact eA.2.2.2.2
    · rw [pk_uLn hs, pk_un hs]
      simp only [hs, if_false]
      have e := x1 s (by omega) s2
      refine ⟨e.1, e.2.1, e.2.2.1, e.2.2.2.1, e.2.2.2.2.1, fun hp' => ?_, e.2.2.2.2.2.2⟩
      have := h.2.1 (p - 1 - 1) (p - 1) (by omega) (by omega)
      have := e.2.2.2.2.2.1 hp
      omega
  · by_cases hs : s = r - 1
    · have hs' : ¬ s' = r - 1 := by omega
      simp only [hs, hs', if_true, if_false]
      exact (x1 s' (by omega) s3).2.2.2.2.2.1 hp
    · have hs' : ¬ s' = r - 1 := by omega
      simp only [hs, hs', if_false]
      exact x2 s s' (by omega) s2 s3
  · by_cases e : k = p - 1
    · exact ⟨r - 1, Nat.le_refl _, by omega, by simp only [if_true]; rw [e]⟩
    · obtain ⟨s, s1, s2, s3⟩ := x3 k (by omega) k2
      exact ⟨s, by omega, s2, by simp only [show ¬ s = r - 1 by omega, if_false]; exact s3⟩
  · obtain ⟨s, s1, s2, s3⟩ := x4 k k1 k2
    exact ⟨s, by omega, s2, by simp only [show ¬ s = r - 1 by omega, if_false]; exact s3⟩
/-- the other's entry goes in; the image's own of that address goes -/
theorem hp_ov_D {p q r p' : Nat} (h : hp_C a v n M A V) (g : hp_C da dv dn N DA DV) (I : hp_OV a v n M N A dn DA n' p q r a1 v1) (hq : 0 < q) (hc : (0 < p ∧ A (p - 1) = DA (q - 1) ∧ p' = p - 1) ∨ ((0 < p → A (p - 1) < DA (q - 1)) ∧ p' = p)) : 0 < r ∧ hp_OV a v n M N A dn DA n' p' (q - 1) (r - 1) (vp_updL a1 (r - 1) (da (q - 1))) (upd v1 (r - 1) (dv (q - 1))) := by
  obtain ⟨i1, i2, i3, i4, i5, X, Y, x1, x2, x3, x4⟩ := I
  have eD := g.1 (q - 1) (by omega)
  have hrq : hp_rem M DA q = hp_rem M DA (q - 1) + (if (M (DA (q - 1))).isSome then 0 else 1) := by
    have e : q = q - 1 + 1 := by omega
    rw [e]
    rfl
  have hr : 0 < r ∧ r - 1 = p' + hp_rem M DA (q - 1) ∧ p' ≤ p ∧ p' ≤ r - 1 ∧ (0 < p' → A (p' - 1) < DA (q - 1)) ∧ (∀ k, p' ≤ k → k < p → A k = DA (q - 1)) := by
    rcases hc with ⟨c1, c2, c3⟩ | ⟨c1, c2⟩
    · have e := (h.1 (p - 1) (by omega)).2.2.2.2
      rw [c2] at e
      rw [e] at hrq
      simp only [Option.isSome_some, if_true] at hrq
      refine ⟨by omega, by omega, by omega, by omega, fun q' => ?_, fun k k1 k2 => ?_⟩
      · have := h.2.1 (p' - 1) (p - 1) (by omega) (by omega)
        omega
      · rw [show k = p - 1 by omega]; exact c2
    · have hm : M (DA (q - 1)) = none := by
        cases hm : M (DA (q - 1)) with
        | none => rfl
        | some y =>
          exfalso
          obtain ⟨k, hk, he⟩ := h.2.2 _ _ hm
          by_cases hkp : k < p
          · have h1 := c1 (by omega)
            by_cases e : k = p - 1
            · rw [e] at he; omega
            · have := h.2.1 k (p - 1) (by omega) (by omega)
              omega
          · obtain ⟨s, s1, s2, s3⟩ := x3 k (by omega) hk
            have := (x1 s s1 s2).2.2.2.2.2.2 hq
            omega
      rw [hm] at hrq
      simp only [Option.isSome_none, Bool.false_eq_true, if_false] at hrq
      exact ⟨by omega, by omega, by omega, by omega, fun q' => by rw [c2] at q' ⊢; exact c1 q', fun k k1 k2 => absurd k2 (by omega)⟩
  obtain ⟨r0, r1, r2, r3, r4, r5⟩ := hr
  refine ⟨r0, by omega, by omega, r1, by omega, fun k hk => ?_, fun s => if s = r - 1 then DA (q - 1) else X s, fun s => if s = r - 1 then DV (q - 1) else Y s, fun s s1 s2 => ?_, fun s s' s1 s2 s3 => ?_, fun k k1 k2 => ?_, fun k k1 k2 => ?_⟩
  · rw [pk_uLn (by omega), pk_un (by omega)]
    exact i5 k (by omega)
  · by_cases hs : s = r - 1
    · subst hs
      rw [pk_uLs, pk_us]
      simp only [if_true]
      refine ⟨eD.1, eD.2.1, eD.2.2.1, eD.2.2.2.1, ?_, r4, fun hq' => g.2.1 _ _ (by omega) (by omega)⟩
      unfold hp_over
      rw [eD.2.2.2.2]
    · rw [pk_uLn hs, pk_un hs]
      simp only [hs, if_false]
      have e := x1 s (by omega) s2
      have eq := e.2.2.2.2.2.2 hq
      refine ⟨e.1, e.2.1, e.2.2.1, e.2.2.2.1, e.2.2.2.2.1, fun hp' => ?_, fun hq' => ?_⟩
      · have := r4 hp'
        omega
      · have := g.2.1 (q - 1 - 1) (q - 1) (by omega) (by omega)
        omega
  · by_cases hs : s = r - 1
    · have hs' : ¬ s' = r - 1 := by omega
      simp only [hs, hs', if_true, if_false]
      exact (x1 s' (by omega) s3).2.2.2.2.2.2 hq
    · have hs' : ¬ s' = r - 1 := by omega
      simp only [hs, hs', if_false]
      exact x2 s s' (by omega) s2 s3
  · by_cases e : k < p
    · exact ⟨r - 1, Nat.le_refl _, by omega, by simp only [if_true]; exact (r5 k k1 e).symm⟩
    · obtain ⟨s, s1, s2, s3⟩ := x3 k (by omega) k2
      exact ⟨s, by omega, s2, by simp only [show ¬ s = r - 1 by omega, if_false]; exact s3⟩
  · by_cases e : k = q - 1
    · exact ⟨r - 1, Nat.le_refl _, by omega, by simp only [if_true]; rw [e]⟩
    · obtain ⟨s, s1, s2, s3⟩ := x4 k (by omega) k2
      exact ⟨s, by omega, s2, by simp only [show ¬ s = r - 1 by omega, if_false]; exact s3⟩
theorem hp_ov_end {p r : Nat} (h : hp_C a v n M A V) (g : hp_C da dv dn N DA DV) (I : hp_OV a v n M N A dn DA n' p 0 r a1 v1) : hp_R a1 v1 n' (hp_over M N) := by
  obtain ⟨i1, i2, i3, i4, i5, X, Y, x1, x2, x3, x4⟩ := I
  have hr : r = p := i3
  subst hr
  have hN : ∀ k, k < r → N (A k) = none := by
    intro k hk
    cases hm : N (A k) with
    | none => rfl
    | some y =>
      exfalso
      obtain ⟨j, hj, he⟩ := g.2.2 _ _ hm
      obtain ⟨s, s1, s2, s3⟩ := x4 j (Nat.zero_le _) hj
      have h1 := (x1 s s1 s2).2.2.2.2.2.1 (by omega)
      by_cases e : k = r - 1
      · rw [e] at he; omega
      · have := h.2.1 k (r - 1) (by omega) (by omega)
        omega
  refine ⟨fun k => if k < r then A k else X k, fun k => if k < r then V k else Y k, fun k hk => ?_, fun j k hj hk => ?_, fun y z hy => ?_⟩
  · by_cases e : k < r
    · simp only [e, if_true]
      have e1 := h.1 k (by omega)
      have e2 := i5 k e
      rw [e2.1, e2.2]
      refine ⟨e1.1, e1.2.1, e1.2.2.1, e1.2.2.2.1, ?_⟩
      unfold hp_over
      rw [hN k e]
      exact e1.2.2.2.2
    · simp only [e, if_false]
      have e1 := x1 k (by omega) hk
      exact ⟨e1.1, e1.2.1, e1.2.2.1, e1.2.2.2.1, e1.2.2.2.2.1⟩
  · by_cases e : k < r
    · simp only [e, show j < r by omega, if_true]
      exact h.2.1 j k hj (by omega)
    · by_cases e2 : j < r
      · simp only [e, e2, if_true, if_false]
        have h1 := (x1 k (by omega) hk).2.2.2.2.2.1 (by omega)
        by_cases e3 : j = r - 1
        · rw [e3]; exact h1
        · have := h.2.1 j (r - 1) (by omega) (by omega)
          omega
      · simp only [e, e2, if_false]
        exact x2 j k (by omega) hj hk
  · unfold hp_over at hy
    cases hm : N y with
    | some b =>
      obtain ⟨j, hj, he⟩ := g.2.2 _ _ hm
      obtain ⟨s, s1, s2, s3⟩ := x4 j (Nat.zero_le _) hj
      exact ⟨s, s2, by simp only [show ¬ s < r by omega, if_false]; omega⟩
    | none =>
      rw [hm] at hy
      obtain ⟨k, hk, he⟩ := h.2.2 _ _ hy
      by_cases e : k < r
      · exact ⟨k, by omega, by simp only [e, if_true]; exact he⟩
      · obtain ⟨s, s1, s2, s3⟩ := x3 k (by omega) hk
        exact ⟨s, s2, by simp only [show ¬ s < r by omega, if_false]; omega⟩
end HPO
