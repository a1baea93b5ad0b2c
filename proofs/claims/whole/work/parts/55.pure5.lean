/-! the reference's image -/
theorem hp_rng {x : Int32} {lo hi : Nat} (hlo : lo < 2 ^ 31) (hhi : hi < 2 ^ 31) (h1 : ¬ x < nI lo) (h2 : ¬ nI hi < x) : ∃ j, lo ≤ j ∧ j ≤ hi ∧ x = nI j := by
  rw [Int32.lt_iff_toInt_lt, nI_toInt hlo] at h1
  rw [Int32.lt_iff_toInt_lt, nI_toInt hhi] at h2
  refine ⟨x.toInt.toNat, by omega, by omega, Int32.toInt_inj.mp ?_⟩
  rw [nI_toInt (by omega)]
  omega
theorem hp_lt0 {x : Int32} {lo : Nat} (hlo : lo < 2 ^ 31) (h : x < 0) : x < nI lo := by
  rw [Int32.lt_iff_toInt_lt] at h ⊢
  rw [nI_toInt hlo]
  have e : (0 : Int32).toInt = 0 := rfl
  omega
section HPJ
variable {a : Nat → Int64} {v : Nat → Int32} {n : Nat} {M : Nat → Option Nat} {A V : Nat → Nat}
theorem hp_placeOf {x : Nat} {Q : Int32 → Prop} (hn : n ≤ 3001) (ha : ∀ k, k < n → a k = lN (A k) ∧ A k < 4294967296) (hs : hp_so n A) (hx : x ≤ 8589934592) (hq : ∀ i, hp_ix n A x i → Q (nI i)) : hx_v_Model_placeOf (lN x) a (nI n) Q := by
  unfold hx_v_Model_placeOf
  intro P2 h2
  have key : ∀ d k, n - k ≤ d → k ≤ n → (∀ j, j < k → A j < x) → P2 (nI k) := by
    intro d
    induction d with
    | zero =>
      intro k hd hk hlo
      apply h2
      exact ⟨fun _ => hq k ⟨hk, hlo, fun j hj hjn => absurd hjn (by omega)⟩, fun c => absurd (nI_le (by omega) (by omega)) c⟩
    | succ d ih =>
      intro k hd hk hlo
      apply h2
      refine ⟨fun c => hq k ⟨hk, hlo, fun j hj hjn => absurd ((nI_leI (by omega) (by omega)).mp c) (by omega)⟩, fun c => ?_⟩
      have hlt : k < n := Nat.not_le.mp fun q => c (nI_le q (by omega))
      have hA := ha k hlt
      rw [hp_cl (by omega), hA.1]
      refine ⟨vp_in_nI (by omega) (by omega), fun c2 => ?_, fun c2 => ?_⟩
      · have c2 := (pk_lLE (by omega) (by omega)).mp c2
        refine hq k ⟨hk, hlo, fun j hj hjn => ?_⟩
        by_cases e : j = k
        · rw [e]; exact c2
        · have := hs k j (by omega) hjn
          omega
      · have c2 : A k < x := Nat.not_le.mp fun q => c2 ((pk_lLE (by omega) (by omega)).mpr q)
        rw [nI_1]
        refine ih (k + 1) (by omega) (by omega) (fun j hj => ?_)
        by_cases e : j = k
        · rw [e]; exact c2
        · exact hlo j (by omega)
  exact key n 0 (by omega) (by omega) (fun j hj => absurd hj (by omega))
theorem hp_plc (h : hp_C a v n M A V) {x : Nat} {Q : Int32 → Prop} (hn : n ≤ 3001) (hx : x ≤ 8589934592) (hq : ∀ i, hp_ix n A x i → Q (nI i)) : hx_v_Model_placeOf (lN x) a (nI n) Q :=
  hp_placeOf hn (fun k hk => ⟨(h.1 k hk).1, (h.1 k hk).2.2.1⟩) h.2.1 hx hq
theorem hp_hasM (h : hp_C a v n M A V) {x : Nat} {Q : Int32 → Prop} (hn : n ≤ 3001) (hx : x ≤ 8589934592) (h1 : M x ≠ none → Q 1) (h0 : M x = none → Q 0) : hx_v_Model_has (lN x) a (nI n) Q := by
  unfold hx_v_Model_has
  refine hp_plc h hn hx (fun i hi => ?_)
  have hin := hi.1
  have hno := hp_C_none h hi
  refine ⟨fun c => h0 (hno.mpr fun q => absurd ((nI_leI (by omega) (by omega)).mp c) (by omega)), fun c => ?_⟩
  have hlt : i < n := Nat.not_le.mp fun q => c (nI_le q (by omega))
  have hA := h.1 i hlt
  rw [hp_cl (by omega), hA.1]
  exact ⟨vp_in_nI (by omega) (by omega), fun c2 => h0 (hno.mpr fun q => c2 (by rw [q.2])), fun c2 => h1 fun q => hno.mp q ⟨hlt, (pk_lEQ (by omega) (by omega)).mp c2⟩⟩
theorem hp_valueAtM (h : hp_C a v n M A V) {x : Nat} {Q : Int32 → Prop} (hn : n ≤ 3001) (hx : x ≤ 8589934592) (h1 : ∀ b, M x = some b → b < 256 → Q (nI b)) (h0 : M x = none → Q (-1)) : hx_v_Model_valueAt (lN x) a v (nI n) Q := by
  unfold hx_v_Model_valueAt
  refine hp_hasM h hn hx (fun hm => ⟨fun c => absurd c (by decide), fun _ => ?_⟩) (fun hm => ⟨fun _ => h0 hm, fun c => absurd rfl c⟩)
  refine hp_plc h hn hx (fun i hi => ?_)
  have hno := hp_C_none h hi
  have hin : i < n ∧ A i = x := Decidable.byContradiction fun q => hm (hno.mpr q)
  have hA := h.1 i hin.1
  rw [hp_cl (by omega), hA.2.1]
  refine ⟨vp_in_nI (by omega) (by omega), h1 (V i) ?_ hA.2.2.2.1⟩
  rw [← hin.2]
  exact hA.2.2.2.2
theorem hp_putM (h : hp_C a v n M A V) {x b : Nat} {Q : (Nat → Int64) → (Nat → Int32) → Int32 → Prop} (hn : n ≤ 3000) (hx : x < 4294967296) (hb : b < 256) (hq : ∀ a' v', hp_R a' v' (n + (if (M x).isSome then 0 else 1)) (hp_set M x b) → Q a' v' (nI (n + (if (M x).isSome then 0 else 1)))) : hx_v_Model_put (lN x) (nI b) a v (nI n) Q := by
  unfold hx_v_Model_put
  intro P28 P34 P97 h28 h34 h97
  refine hp_plc h (by omega) (by omega) (fun i hi => ?_)
  have hin := hi.1
  have hno := hp_C_none h hi
  have new : M x = none → P28 (nI i) a v (nI n) := by
    intro hm
    rw [hm] at hq
    simp only [Option.isSome_none, Bool.false_eq_true, if_false] at hq
    apply h28
    have key : ∀ d t a1 v1, t - i ≤ d → i ≤ t → t ≤ n → (∀ k, k < t → a1 k = a k ∧ v1 k = v k) → (∀ k, t ≤ k → k < n → a1 (k + 1) = a k ∧ v1 (k + 1) = v k) → P34 (nI i) (nI t) a1 v1 (nI n) := by
      intro d
      have fin : ∀ a1 v1, (∀ k, k < i → a1 k = a k ∧ v1 k = v k) → (∀ k, i ≤ k → k < n → a1 (k + 1) = a k ∧ v1 (k + 1) = v k) → vp_in (nI i) 3001 ∧ P97 (nI i) (vp_updL a1 (nI i).toNatClampNeg (lN x)) v1 (nI n + (1 : Int32)) := by
        intro a1 v1 lo up
        refine ⟨vp_in_nI (by omega) (by omega), ?_⟩
        apply h97
        refine ⟨vp_in_nI (by omega) (by omega), ?_⟩
        rw [nI_1, hp_cl (by omega)]
        refine hq _ _ (hp_put_new h hi hx hb hm (fun k hk => ?_) ⟨pk_uLs, pk_us⟩ (fun k hk hkn => ?_))
        · rw [pk_uLn (by omega), pk_un (by omega)]
          exact lo k hk
        · rw [pk_uLn (by omega), pk_un (by omega)]
          exact up k hk hkn
      induction d with
      | zero =>
        intro t a1 v1 hd hit htn lo up
        apply h34
        obtain rfl : t = i := by omega
        exact ⟨fun _ => fin a1 v1 lo up, fun c => absurd (nI_le (Nat.le_refl _) (by omega)) c⟩
      | succ d ih =>
        intro t a1 v1 hd hit htn lo up
        apply h34
        refine ⟨fun c => ?_, fun c => ?_⟩
        · have := (nI_leI (by omega) (by omega)).mp c
          obtain rfl : t = i := by omega
          exact fin a1 v1 lo up
        · have hlt : i < t := Nat.not_le.mp fun q => c (nI_le q (by omega))
          have e1 : nI t - (1 : Int32) = nI (t - 1) := pk_sub (a := t) (b := 1) (by omega)
          have e2 : nI t + (-1) = nI (t - 1) := by
            have := pk_m1 (t - 1)
            rw [show t - 1 + 1 = t by omega] at this
            exact this
          rw [e1, e2, hp_cl (by omega), hp_cl (by omega)]
          refine ⟨vp_in_nI (by omega) (by omega), vp_in_nI (by omega) (by omega), vp_in_nI (by omega) (by omega), vp_in_nI (by omega) (by omega), ?_⟩
          refine ih (t - 1) _ _ (by omega) (by omega) (by omega) (fun k hk => ?_) (fun k hk hkn => ?_)
          · rw [pk_uLn (by omega), pk_un (by omega)]
            exact lo k (by omega)
          · by_cases e : k + 1 = t
            · rw [e, pk_uLs, pk_us, show k = t - 1 by omega]
              exact lo (t - 1) (by omega)
            · rw [pk_uLn (by omega), pk_un (by omega)]
              exact up k (by omega) hkn
    exact key n n a v (by omega) (by omega) (by omega) (fun k _ => ⟨rfl, rfl⟩) (fun k hk hkn => absurd hkn (by omega))
  refine ⟨fun c => new (hno.mpr fun q => ?_), fun c => ?_⟩
  · have := (nI_eq (by omega) (by omega)).mp c
    omega
  · have hlt : i < n := Nat.lt_of_le_of_ne hin fun q => c (by rw [q])
    have hA := h.1 i hlt
    rw [hp_cl (by omega), hA.1]
    refine ⟨vp_in_nI (by omega) (by omega), fun c2 => ?_, fun c2 => new (hno.mpr fun q => c2 (by rw [q.2]))⟩
    have he := (pk_lEQ (by omega) (by omega)).mp c2
    have hm : M x ≠ none := fun q => hno.mp q ⟨hlt, he⟩
    have hs : (M x).isSome = true := by
      cases q : M x with
      | none => exact absurd q hm
      | some _ => rfl
    rw [hs] at hq
    simp only [if_true, Nat.add_zero] at hq
    apply h97
    refine ⟨vp_in_nI (by omega) (by omega), ?_⟩
    rw [hp_cl (by omega)]
    refine hq _ _ (hp_put_old h hi hx hb hm (fun k hk hki => ⟨rfl, by rw [pk_un hki]⟩) ⟨by rw [hA.1, he], pk_us⟩)
theorem hp_removeM (h : hp_C a v n M A V) {x : Nat} {Q : (Nat → Int64) → (Nat → Int32) → Int32 → Prop} (hn : n ≤ 3000) (hx : x < 4294967296) (hq : ∀ a' v', hp_R a' v' (n - (if (M x).isSome then 1 else 0)) (hp_del M x) → Q a' v' (nI (n - (if (M x).isSome then 1 else 0)))) : hx_v_Model_remove (lN x) a v (nI n) Q := by
  unfold hx_v_Model_remove
  intro P25 h25
  refine hp_hasM h (by omega) (by omega) (fun hm => ⟨fun _ => ?_, fun c => absurd c (by decide)⟩) (fun hm => ⟨fun c => absurd rfl c, fun _ => ?_⟩)
  · obtain ⟨i, hi⟩ := hp_ix_ex x n h.2.1
    have hno := hp_C_none h hi
    have hin : i < n ∧ A i = x := Decidable.byContradiction fun q => hm (hno.mpr q)
    have hs : (M x).isSome = true := by
      cases q : M x with
      | none => exact absurd q hm
      | some _ => rfl
    rw [hs] at hq
    simp only [if_true] at hq
    have e1 : nI n - (1 : Int32) = nI (n - 1) := pk_sub (a := n) (b := 1) (by omega)
    rw [e1]
    refine hp_placeOf (A := A) (by omega) (fun k hk => ⟨(h.1 k (by omega)).1, (h.1 k (by omega)).2.2.1⟩) (fun j k hj hk => h.2.1 j k hj (by omega)) (by omega) (fun i' hi' => ?_)
    obtain rfl : i' = i := hp_ix_uniq hi' ⟨by omega, hi.2.1, fun k hk hkn => hi.2.2 k hk (by omega)⟩
    have key : ∀ d t a1 v1, n - 1 - t ≤ d → i' ≤ t → t ≤ n - 1 → (∀ k, k < i' → a1 k = a k ∧ v1 k = v k) → (∀ k, i' ≤ k → k < t → a1 k = a (k + 1) ∧ v1 k = v (k + 1)) → (∀ k, t ≤ k → a1 k = a k ∧ v1 k = v k) → P25 (nI t) a1 v1 (nI (n - 1)) := by
      intro d
      induction d with
      | zero =>
        intro t a1 v1 hd hit htn lo mid up
        apply h25
        exact ⟨fun _ => hq a1 v1 (hp_rem_old h hi hx hm lo (fun k hk hkn => mid k hk (by omega))), fun c => absurd (nI_le (by omega) (by omega)) c⟩
      | succ d ih =>
        intro t a1 v1 hd hit htn lo mid up
        apply h25
        refine ⟨fun c => ?_, fun c => ?_⟩
        · have := (nI_leI (by omega) (by omega)).mp c
          exact hq a1 v1 (hp_rem_old h hi hx hm lo (fun k hk hkn => mid k hk (by omega)))
        · have hlt : t < n - 1 := Nat.not_le.mp fun q => c (nI_le q (by omega))
          rw [nI_1, hp_cl (by omega), hp_cl (by omega)]
          refine ⟨vp_in_nI (by omega) (by omega), vp_in_nI (by omega) (by omega), vp_in_nI (by omega) (by omega), vp_in_nI (by omega) (by omega), ?_⟩
          refine ih (t + 1) _ _ (by omega) (by omega) (by omega) (fun k hk => ?_) (fun k hk hkt => ?_) (fun k hk => ?_)
          · rw [pk_uLn (by omega), pk_un (by omega)]
            exact lo k hk
          · by_cases e : k = t
            · rw [e, pk_uLs, pk_us]
              exact up (t + 1) (by omega)
            · rw [pk_uLn (by omega), pk_un (by omega)]
              exact mid k hk (by omega)
          · rw [pk_uLn (by omega), pk_un (by omega)]
            exact up k (by omega)
    exact key n i' a v (by omega) (Nat.le_refl _) (by omega) (fun k _ => ⟨rfl, rfl⟩) (fun k hk hkt => absurd hkt (by omega)) (fun k _ => ⟨rfl, rfl⟩)
  · rw [hm] at hq
    simp only [Option.isSome_none, Bool.false_eq_true, if_false, Nat.sub_zero] at hq
    refine hq a v ?_
    rw [hp_del_none hm]
    exact ⟨A, V, h⟩
theorem hp_unsignedM {x : Int32} {Q : Int64 → Prop} (hq : Q (lN (hp_u x))) : hx_v_Model_unsigned x Q := by
  unfold hx_v_Model_unsigned
  refine ⟨fun c => ?_, fun c => ?_⟩
  · rw [hp_unP x (Int32.not_lt.mpr c)]; exact hq
  · rw [hp_unM x (Int32.not_le.mp c)]; exact hq
/-- a block of c addresses from x on, c from 1 to 256, within the space -/
def hp_ok (x c : Int32) (k : Nat) : Prop := 1 ≤ k ∧ k ≤ 256 ∧ c = nI k ∧ hp_u x + k ≤ 4294967296
theorem hp_isRange {x c : Int32} {Q : Int32 → Prop} (h1 : ∀ k, hp_ok x c k → Q 1) (h0 : (¬ ∃ k, hp_ok x c k) → Q 0) : hx_v_Model_isRange x c Q := by
  unfold hx_v_Model_isRange
  have hu := hp_u_lt x
  have no : ∀ {j : Nat}, c = nI j → j ≤ 256 → (¬ (1 ≤ j ∧ hp_u x + j ≤ 4294967296)) → ¬ ∃ k, hp_ok x c k := by
    intro j hj hj2 q ⟨k, k1, k2, k3, k4⟩
    rw [hj] at k3
    have := (nI_eq (by omega) (by omega)).mp k3
    subst this
    exact q ⟨k1, k4⟩
  refine ⟨fun q => h0 fun ⟨k, k1, k2, k3, k4⟩ => ?_, fun q => ⟨fun q2 => h0 fun ⟨k, k1, k2, k3, k4⟩ => ?_, fun q2 => ?_⟩⟩
  · rw [k3] at q
    have := (nI_ltI (a := k) (b := 1) (by omega) (by omega)).mp q
    omega
  · rw [k3] at q2
    have := (nI_ltI (a := 256) (b := k) (by omega) (by omega)).mp q2
    omega
  · obtain ⟨j, j1, j2, rfl⟩ := hp_rng (lo := 1) (hi := 256) (by omega) (by omega) q q2
    refine hp_unsignedM ?_
    rw [hp_ladd (by omega)]
    refine ⟨fun q3 => h0 (no rfl j2 fun z => ?_), fun q3 => h1 j ⟨j1, j2, rfl, ?_⟩⟩
    · have := (pk_lLT (a := 4294967296) (by omega) (by omega)).mp q3
      omega
    · exact Nat.not_lt.mp fun z => q3 ((pk_lLT (a := 4294967296) (by omega) (by omega)).mpr z)
theorem hp_countIn (h : hp_C a v n M A V) {x : Int32} {c : Nat} {Q : Int32 → Prop} (hn : n ≤ 3000) (hc : c ≤ 256) (hq : Q (nI (hp_cnt M (hp_u x) c))) : hx_v_Model_countIn x (nI c) a (nI n) Q := by
  unfold hx_v_Model_countIn
  intro P5 P53 P54 h5 h53 h54
  have hu := hp_u_lt x
  obtain ⟨i, hi⟩ := hp_ix_ex (hp_u x) n h.2.1
  have hj := hp_ix_cnt h hi c
  have hjn := hj.1
  have key : ∀ d t, n - t ≤ d → t ≤ n → P5 (nI (min t (i + hp_cnt M (hp_u x) c) - min t i)) (nI t) := by
    intro d
    induction d with
    | zero =>
      intro t hd ht
      apply h5
      refine ⟨fun _ => ?_, fun q => absurd (nI_le (by omega) (by omega)) q⟩
      rw [show min t (i + hp_cnt M (hp_u x) c) - min t i = hp_cnt M (hp_u x) c by omega]
      exact hq
    | succ d ih =>
      intro t hd ht
      apply h5
      refine ⟨fun q => ?_, fun q => ?_⟩
      · have := (nI_leI (by omega) (by omega)).mp q
        rw [show min t (i + hp_cnt M (hp_u x) c) - min t i = hp_cnt M (hp_u x) c by omega]
        exact hq
      · have hlt : t < n := Nat.not_le.mp fun z => q (nI_le z (by omega))
        have hA := h.1 t hlt
        have nx := ih (t + 1) (by omega) (by omega)
        have hv : vp_in (nI t) 3001 := vp_in_nI (by omega) (by omega)
        rw [hp_cl (by omega), hA.1]
        refine ⟨hv, hp_unsignedM ⟨fun c1 => ?_, fun c1 => ⟨hv, hp_unsignedM ?_⟩⟩⟩
        · have c1 := (pk_lLT (by omega) (by omega)).mp c1
          have hti : t < i := Nat.not_le.mp fun z => by have := hi.2.2 t z hlt; omega
          apply h53
          apply h54
          rw [nI_1, show min t (i + hp_cnt M (hp_u x) c) - min t i = min (t + 1) (i + hp_cnt M (hp_u x) c) - min (t + 1) i by omega]
          exact nx
        · have c1 : hp_u x ≤ A t := Nat.not_lt.mp fun z => c1 ((pk_lLT (by omega) (by omega)).mpr z)
          have hti : i ≤ t := Nat.not_lt.mp fun z => by have := hi.2.1 t z; omega
          rw [hp_ladd (by omega)]
          refine ⟨fun c2 => ?_, fun c2 => ?_⟩
          · have c2 := (pk_lLE (by omega) (by omega)).mp c2
            have htj : i + hp_cnt M (hp_u x) c ≤ t := Nat.not_lt.mp fun z => by have := hj.2.1 t z; omega
            apply h53
            apply h54
            rw [nI_1, show min t (i + hp_cnt M (hp_u x) c) - min t i = min (t + 1) (i + hp_cnt M (hp_u x) c) - min (t + 1) i by omega]
            exact nx
          · have c2 : A t < hp_u x + c := Nat.not_le.mp fun z => c2 ((pk_lLE (by omega) (by omega)).mpr z)
            have htj : t < i + hp_cnt M (hp_u x) c := Nat.not_le.mp fun z => by have := hj.2.2 t z hlt; omega
            apply h54
            rw [nI_1, nI_1, show min t (i + hp_cnt M (hp_u x) c) - min t i + 1 = min (t + 1) (i + hp_cnt M (hp_u x) c) - min (t + 1) i by omega]
            exact nx
  have := key n 0 (by omega) (by omega)
  rw [show min 0 (i + hp_cnt M (hp_u x) c) - min 0 i = 0 by omega] at this
  exact this
end HPJ
