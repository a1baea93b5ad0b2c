/-! set, fill, copy, drop, get, next: the class and the reference do the same to the map -/
def hp_okf (M : Nat → Option Nat) (n : Nat) (x c y : Int32) (k b : Nat) : Prop := hp_ok x c k ∧ y = nI b ∧ b < 256 ∧ n + k - hp_cnt M (hp_u x) k ≤ 3000
def hp_okc (M : Nat → Option Nat) (n : Nat) (x c y : Int32) (k : Nat) : Prop := hp_ok x c k ∧ hp_ok y c k ∧ n + hp_cnt M (hp_u x) k - hp_cnt M (hp_u y) k ≤ 3000
theorem hp_ok_eq {x c x' : Int32} {k k' : Nat} (h : hp_ok x c k) (h' : hp_ok x' c k') : k = k' := by
  obtain ⟨_, h2, h3, _⟩ := h
  obtain ⟨_, g2, g3, _⟩ := h'
  exact (nI_eq (by omega) (by omega)).mp (h3.symm.trans g3)
theorem hp_unsignedX {x : Int32} {Q : Int64 → Prop} (hq : Q (lN (hp_u x))) : hx_v_Loom_unsigned x Q := by
  unfold hx_v_Loom_unsigned
  rw [hp_un]
  exact hq
theorem hp_isBlock {x c : Int32} {Q : Int32 → Prop} (h1 : ∀ k, hp_ok x c k → Q 1) (h0 : (¬ ∃ k, hp_ok x c k) → Q 0) : hx_v_Loom_isBlock x c Q := by
  unfold hx_v_Loom_isBlock
  have hu := hp_u_lt x
  refine ⟨fun q => h0 fun ⟨k, k1, k2, k3, k4⟩ => ?_, fun q => ⟨fun q2 => h0 fun ⟨k, k1, k2, k3, k4⟩ => ?_, fun q2 => ?_⟩⟩
  · rw [k3] at q
    have := (nI_ltI (a := k) (b := 1) (by omega) (by omega)).mp q
    omega
  · rw [k3] at q2
    have := (nI_ltI (a := 256) (b := k) (by omega) (by omega)).mp q2
    omega
  · obtain ⟨j, j1, j2, rfl⟩ := hp_rng (lo := 1) (hi := 256) (by omega) (by omega) q q2
    refine hp_unsignedX ?_
    rw [hp_ladd (by omega), show (1 : Int64) = lN 1 from rfl, lN_sub (by omega)]
    refine ⟨fun q3 => h0 fun ⟨k, k1, k2, k3, k4⟩ => ?_, fun q3 => h1 j ⟨j1, j2, rfl, ?_⟩⟩
    · have := (pk_lLT (a := 4294967295) (by omega) (by omega)).mp q3
      have := (nI_eq (by omega) (by omega)).mp k3
      omega
    · have : ¬ 4294967295 < hp_u x + j - 1 := fun z => q3 ((pk_lLT (a := 4294967295) (by omega) (by omega)).mpr z)
      omega
section HPK
variable {a : Nat → Int64} {v : Nat → Int32} {n : Nat} {M : Nat → Option Nat} {A V : Nat → Nat}
theorem hp_fillX (h : hp_C a v n M A V) (hn : n ≤ 3000) {x c y : Int32} {Q : Int32 → (Nat → Int64) → (Nat → Int32) → Int32 → Prop} (ok : ∀ k b a' v', hp_okf M n x c y k b → hp_R a' v' (n + k - hp_cnt M (hp_u x) k) (hp_fill M (hp_u x) k b) → Q 1 a' v' (nI (n + k - hp_cnt M (hp_u x) k))) (no : (¬ ∃ k b, hp_okf M n x c y k b) → Q 0 a v (nI n)) : hx_v_Loom_fill x c y a v (nI n) Q := by
  unfold hx_v_Loom_fill
  refine hp_isBlock (fun k hk => ⟨fun q => absurd q (by decide), fun _ => ⟨fun q => no fun ⟨k', b, _, e, hb, _⟩ => ?_, fun q => ⟨fun q2 => ?_, fun q2 => no fun ⟨k', b, _, e, hb, _⟩ => ?_⟩⟩⟩) (fun hk => ⟨fun _ => no fun ⟨k, b, h1, _⟩ => hk ⟨k, h1⟩, fun q => absurd rfl q⟩)
  · rw [e] at q
    exact nI_pos (by omega) q
  · obtain ⟨b, _, hb, rfl⟩ := hp_rng (lo := 0) (hi := 255) (by omega) (by omega) q (Int32.not_lt.mpr q2)
    refine hp_unsignedX ?_
    obtain ⟨k1, k2, rfl, k4⟩ := hk
    refine hp_fillC h hn k4 k2 (by omega) (fun hf => ⟨fun _ => no fun ⟨k', b', h1, h2, h3, h4⟩ => ?_, fun z => absurd rfl z⟩) (fun a' v' hle hr => ⟨fun z => absurd z (by decide), fun _ => ok k b a' v' ⟨⟨k1, k2, rfl, k4⟩, rfl, by omega, hle⟩ hr⟩)
    obtain rfl := hp_ok_eq h1 ⟨k1, k2, rfl, k4⟩
    omega
  · rw [e] at q2
    exact q2 (show nI b ≤ nI 255 from nI_le (by omega) (by omega))
theorem hp_fillM (h : hp_C a v n M A V) (hn : n ≤ 3000) {x c y : Int32} {Q : Int32 → Int32 → (Nat → Int64) → (Nat → Int32) → Int32 → Prop} (ok : ∀ k b a' v', hp_okf M n x c y k b → hp_R a' v' (n + k - hp_cnt M (hp_u x) k) (hp_fill M (hp_u x) k b) → Q 1 0 a' v' (nI (n + k - hp_cnt M (hp_u x) k))) (no : (¬ ∃ k b, hp_okf M n x c y k b) → Q 0 0 a v (nI n)) : hx_v_Model_fill x c y a v (nI n) Q := by
  unfold hx_v_Model_fill
  intro P48 h48
  refine hp_isRange (fun k hk => ⟨fun q => absurd q (by decide), fun _ => ⟨fun q => no fun ⟨k', b, _, e, hb, _⟩ => ?_, fun q => ⟨fun q2 => no fun ⟨k', b, _, e, hb, _⟩ => ?_, fun q2 => ?_⟩⟩⟩) (fun hk => ⟨fun _ => no fun ⟨k, b, h1, _⟩ => hk ⟨k, h1⟩, fun q => absurd rfl q⟩)
  · rw [e] at q
    exact nI_pos (by omega) q
  · rw [e] at q2
    have := (nI_ltI (a := 255) (b := b) (by omega) (by omega)).mp q2
    omega
  · obtain ⟨b, _, hb, rfl⟩ := hp_rng (lo := 0) (hi := 255) (by omega) (by omega) q q2
    obtain ⟨k1, k2, rfl, k4⟩ := hk
    refine hp_countIn h hn k2 ?_
    have hcl := hp_cnt_le M (hp_u x) k
    rw [nI_add, pk_sub (by omega)]
    refine ⟨fun q3 => ?_, fun q3 => no fun ⟨k', b', h1, h2, h3, h4⟩ => ?_⟩
    · have hle : n + k - hp_cnt M (hp_u x) k ≤ 3000 := (nI_leI (b := 3000) (by omega) (by omega)).mp q3
      have key : ∀ d t a1 v1, k - t ≤ d → t ≤ k → hp_R a1 v1 (n + t - hp_cnt M (hp_u x) t) (hp_fill M (hp_u x) t b) → P48 (nI t) 0 a1 v1 (nI (n + t - hp_cnt M (hp_u x) t)) := by
        intro d
        induction d with
        | zero =>
          intro t a1 v1 hd ht hr
          apply h48
          obtain rfl : t = k := by omega
          exact ⟨fun _ => ok t b a1 v1 ⟨⟨k1, k2, rfl, k4⟩, rfl, by omega, hle⟩ hr, fun z => absurd (nI_le (Nat.le_refl _) (by omega)) z⟩
        | succ d ih =>
          intro t a1 v1 hd ht hr
          apply h48
          refine ⟨fun z => ?_, fun z => ?_⟩
          · have := (nI_leI (by omega) (by omega)).mp z
            obtain rfl : t = k := by omega
            exact ok t b a1 v1 ⟨⟨k1, k2, rfl, k4⟩, rfl, by omega, hle⟩ hr
          · have hlt : t < k := Nat.not_le.mp fun w => z (nI_le w (by omega))
            refine hp_unsignedM ?_
            rw [hp_ladd (by omega)]
            obtain ⟨A1, V1, hc⟩ := hr
            have hmo := hp_cnt_mono M (hp_u x) t (k - t)
            rw [show t + (k - t) = k by omega] at hmo
            have hct := hp_cnt_le M (hp_u x) t
            have e0 : hp_fill M (hp_u x) t b (hp_u x + t) = M (hp_u x + t) := by unfold hp_fill; rw [if_neg (by omega)]
            have e1 : hp_cnt M (hp_u x) (t + 1) = hp_cnt M (hp_u x) t + (if (M (hp_u x + t)).isSome then 1 else 0) := rfl
            refine hp_putM hc (by omega) (by omega) (by omega) (fun a' v' hr' => ?_)
            rw [hp_fill_succ] at hr'
            rw [e0] at hr' ⊢
            have e2 : n + t - hp_cnt M (hp_u x) t + (if (M (hp_u x + t)).isSome then 0 else 1) = n + (t + 1) - hp_cnt M (hp_u x) (t + 1) := by
              rw [e1]
              cases (M (hp_u x + t)).isSome <;> simp <;> omega
            rw [e2] at hr' ⊢
            rw [nI_1]
            exact ih (t + 1) a' v' (by omega) (by omega) hr'
      have := key k 0 a v (by omega) (by omega) (by rw [hp_fill_0]; exact ⟨A, V, h⟩)
      exact this
    · obtain rfl := hp_ok_eq h1 ⟨k1, k2, rfl, k4⟩
      exact q3 (show nI _ ≤ nI 3000 from nI_le h4 (by omega))
/-- set is a fill of one -/
def hp_oks (M : Nat → Option Nat) (n : Nat) (x y : Int32) (b : Nat) : Prop := y = nI b ∧ b < 256 ∧ n + 1 - hp_cnt M (hp_u x) 1 ≤ 3000
theorem hp_setX (h : hp_C a v n M A V) (hn : n ≤ 3000) {x y : Int32} {Q : Int32 → (Nat → Int64) → (Nat → Int32) → Int32 → Prop} (ok : ∀ b a' v', hp_oks M n x y b → hp_R a' v' (n + 1 - hp_cnt M (hp_u x) 1) (hp_set M (hp_u x) b) → Q 1 a' v' (nI (n + 1 - hp_cnt M (hp_u x) 1))) (no : (¬ ∃ b, hp_oks M n x y b) → Q 0 a v (nI n)) : hx_v_Loom_set x y a v (nI n) Q := by
  unfold hx_v_Loom_set
  have hu := hp_u_lt x
  have o1 : hp_ok x (1 : Int32) 1 := ⟨by omega, by omega, rfl, by omega⟩
  refine hp_fillX h hn (fun k b a' v' hk hr => ?_) (fun hk => no fun ⟨b, h1, h2, h3⟩ => hk ⟨1, b, o1, h1, h2, h3⟩)
  obtain ⟨h1, h2, h3, h4⟩ := hk
  obtain rfl := hp_ok_eq h1 o1
  rw [hp_fill_1] at hr
  exact ok b a' v' ⟨h2, h3, h4⟩ hr
theorem hp_setM (h : hp_C a v n M A V) (hn : n ≤ 3000) {x y : Int32} {Q : Int32 → Int32 → (Nat → Int64) → (Nat → Int32) → Int32 → Prop} (ok : ∀ b a' v', hp_oks M n x y b → hp_R a' v' (n + 1 - hp_cnt M (hp_u x) 1) (hp_set M (hp_u x) b) → Q 1 0 a' v' (nI (n + 1 - hp_cnt M (hp_u x) 1))) (no : (¬ ∃ b, hp_oks M n x y b) → Q 0 0 a v (nI n)) : hx_v_Model_set x y a v (nI n) Q := by
  unfold hx_v_Model_set
  intro P39 h39
  have hu := hp_u_lt x
  have e1 : hp_cnt M (hp_u x) 1 = (if (M (hp_u x)).isSome then 1 else 0) := by
    show 0 + (if (M (hp_u x + 0)).isSome then 1 else 0) = _
    rw [Nat.zero_add]
    rfl
  refine ⟨fun q => no fun ⟨b, e, hb, _⟩ => ?_, fun q => ⟨fun q2 => no fun ⟨b, e, hb, _⟩ => ?_, fun q2 => ?_⟩⟩
  · rw [e] at q
    exact nI_pos (by omega) q
  · rw [e] at q2
    have := (nI_ltI (a := 255) (b := b) (by omega) (by omega)).mp q2
    omega
  · obtain ⟨b, _, hb, rfl⟩ := hp_rng (lo := 0) (hi := 255) (by omega) (by omega) q q2
    have go : n + 1 - hp_cnt M (hp_u x) 1 ≤ 3000 → P39 0 a v (nI n) := by
      intro hle
      apply h39
      refine hp_unsignedM (hp_putM h hn hu (by omega) (fun a' v' hr => ?_))
      have e2 : n + (if (M (hp_u x)).isSome then 0 else 1) = n + 1 - hp_cnt M (hp_u x) 1 := by
        rw [e1]
        cases (M (hp_u x)).isSome <;> simp
      rw [e2] at hr ⊢
      exact ok b a' v' ⟨rfl, by omega, hle⟩ hr
    refine ⟨fun q3 => go ?_, fun q3 => ?_⟩
    · have : n ≠ 3000 := fun z => q3 (by rw [z]; rfl)
      omega
    · have hn3 : n = 3000 := (nI_eq (b := 3000) (by omega) (by omega)).mp q3
      refine hp_unsignedM (hp_hasM h (by omega) (by omega) (fun hm => ⟨fun _ => go ?_, fun z => absurd z (by decide)⟩) (fun hm => ⟨fun z => absurd rfl z, fun _ => no fun ⟨b', _, _, hle⟩ => ?_⟩))
      · rw [e1]
        cases q : M (hp_u x) with
        | none => exact absurd q hm
        | some _ => simp; omega
      · rw [e1, hm] at hle
        simp at hle
        omega
theorem hp_dropX (h : hp_C a v n M A V) (hn : n ≤ 3000) {x : Int32} {Q : Int32 → (Nat → Int64) → (Nat → Int32) → Int32 → Prop} (hq : ∀ r a' v' n', (∀ b, M (hp_u x) = some b → r = nI b) → (M (hp_u x) = none → r = -1) → n' ≤ 3000 → hp_R a' v' n' (hp_del M (hp_u x)) → Q r a' v' (nI n')) : hx_v_Loom_drop x a v (nI n) Q := by
  unfold hx_v_Loom_drop
  exact hp_unsignedX (hp_remove h hn (hp_u_lt x) hq)
theorem hp_dropM (h : hp_C a v n M A V) (hn : n ≤ 3000) {x : Int32} {Q : Int32 → Int32 → (Nat → Int64) → (Nat → Int32) → Int32 → Prop} (hq : ∀ r a' v' n', (∀ b, M (hp_u x) = some b → r = nI b) → (M (hp_u x) = none → r = -1) → n' ≤ 3000 → hp_R a' v' n' (hp_del M (hp_u x)) → Q r 0 a' v' (nI n')) : hx_v_Model_drop x a v (nI n) Q := by
  unfold hx_v_Model_drop
  have hu := hp_u_lt x
  have go : ∀ r, (∀ b, M (hp_u x) = some b → r = nI b) → (M (hp_u x) = none → r = -1) → hx_v_Model_unsigned x (fun c16 => hx_v_Model_remove c16 a v (nI n) (fun a' v' n' => Q r 0 a' v' n')) := fun r h1 h0 => hp_unsignedM (hp_removeM h hn hu (fun a' v' hr => hq r a' v' _ h1 h0 (by omega) hr))
  exact hp_unsignedM (hp_valueAtM h (by omega) (by omega) (fun b hb _ => go _ (fun b' hb' => by rw [hb] at hb'; rw [Option.some.inj hb']) (fun q => by rw [hb] at q; cases q)) (fun h0 => go _ (fun b hb => by rw [h0] at hb; cases hb) (fun _ => rfl)))
/-- what get says -/
def hp_val (M : Nat → Option Nat) (x : Nat) : Int32 := match M x with
  | some b => nI b
  | none => -1
theorem hp_getX (h : hp_C a v n M A V) (hn : n ≤ 3000) {x : Int32} {Q : Int32 → Prop} (hq : Q (hp_val M (hp_u x))) : hx_v_Loom_get x a v (nI n) Q := by
  unfold hx_v_Loom_get
  have hu := hp_u_lt x
  unfold hp_val at hq
  exact hp_unsignedX (hp_valueAt h hn (by omega) (fun b hb _ => by rw [hb] at hq; exact hq) (fun h0 => by rw [h0] at hq; exact hq))
theorem hp_getM (h : hp_C a v n M A V) (hn : n ≤ 3000) {x : Int32} {Q : Int32 → Int32 → Prop} (hq : Q (hp_val M (hp_u x)) 0) : hx_v_Model_get x a v (nI n) Q := by
  unfold hx_v_Model_get
  have hu := hp_u_lt x
  unfold hp_val at hq
  exact hp_unsignedM (hp_valueAtM h (by omega) (by omega) (fun b hb _ => by rw [hb] at hq; exact hq) (fun h0 => by rw [h0] at hq; exact hq))
theorem hp_nextX (h : hp_C a v n M A V) (hn : n ≤ 3000) {x : Int32} {i : Nat} (hi : hp_ix n A (hp_u x) i) {Q : Int64 → Prop} (h1 : i < n → Q (lN (A i))) (h0 : n ≤ i → Q (-1)) : hx_v_Loom_next x a (nI n) Q := by
  unfold hx_v_Loom_next
  have hu := hp_u_lt x
  refine hp_unsignedX (hp_idx h hn (by omega) (fun i' hi' => ?_))
  obtain rfl := hp_ix_uniq hi hi'
  exact hp_addressOf hn (by have := hi.1; omega) (fun q => by rw [(h.1 i q).1]; exact h1 q) h0
theorem hp_nextM (h : hp_C a v n M A V) (hn : n ≤ 3000) {x : Int32} {i : Nat} (hi : hp_ix n A (hp_u x) i) {Q : Int64 → Int32 → Prop} (h1 : i < n → Q (lN (A i)) 0) (h0 : n ≤ i → Q (-1) 0) : hx_v_Model_next x a (nI n) Q := by
  unfold hx_v_Model_next
  have hu := hp_u_lt x
  refine hp_unsignedM (hp_plc h (by omega) (by omega) (fun i' hi' => ?_))
  obtain rfl := hp_ix_uniq hi hi'
  have hin := hi.1
  refine ⟨fun q => h0 ((nI_leI (by omega) (by omega)).mp q), fun q => ?_⟩
  have hlt : i < n := Nat.not_le.mp fun z => q (nI_le z (by omega))
  rw [hp_cl (by omega), (h.1 i hlt).1]
  exact ⟨vp_in_nI (by omega) (by omega), h1 hlt⟩
end HPK
