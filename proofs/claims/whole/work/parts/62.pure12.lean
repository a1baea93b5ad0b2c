/-! what a record does: both kinds, as functions -/
abbrev hp_S : Type := (Nat → Option Nat) × Nat × Nat × Option Nat × Bool × Nat × Bool × Nat
abbrev hp_ty0 (t b : Nat) : Prop := t = 0 ∨ (t = 1 ∧ b = 0) ∨ ((t = 2 ∨ t = 4) ∧ b = 2) ∨ ((t = 3 ∨ t = 5) ∧ b = 4)
abbrev hp_bad0 (T : Nat → Nat) (p q : Nat) : Prop := (q - p - 1) % 2 ≠ 0 ∨ (q - p - 1) / 2 < 5 ∨ (q - p - 1) / 2 ≠ hp_B T p 1 0 + 5
noncomputable def hp_f0 (T : Nat → Nat) (p q : Nat) : Nat :=
  if T p = 58 then @ite _ (hp_all T p q 1) (Classical.propDecidable _) (if hp_bad0 T p q then 3 else if hp_ty0 (hp_B T p 1 3) (hp_B T p 1 0) then (if hp_sum (hp_B T p 1) ((q - p - 1) / 2) % 256 = 0 then 0 else 5) else 4) 2 else 1
def hp_w (t : Nat) : Nat := if t = 2 ∨ t = 8 then 3 else if t = 3 ∨ t = 7 then 4 else 2
theorem hp_w_iS (t : Nat) : hx_iS t = nI (hp_w t) := by
  unfold hx_iS
  split
  · rfl
  · rfl
  · rfl
  · rfl
  · rename_i h2 h3 h7 h8
    unfold hp_w
    rw [if_neg (fun e => e.elim h2 h8), if_neg (fun e => e.elim h3 h7)]
    rfl
theorem hp_w_le (t : Nat) : 2 ≤ hp_w t ∧ hp_w t ≤ 4 := by
  unfold hp_w
  split
  · omega
  · split <;> omega
abbrev hp_bad1 (T : Nat → Nat) (p q : Nat) : Prop := (q - p - 2) % 2 ≠ 0 ∨ (q - p - 2) / 2 = 0 ∨ (q - p - 2) / 2 - 1 ≠ hp_B T p 2 0 ∨ (q - p - 2) / 2 < hp_w (T (p + 1) - 48) + 2
abbrev hp_ty1 (t n : Nat) : Prop := t ≠ 4 ∧ t ≠ 6 ∧ (t < 5 ∨ n = 0)
noncomputable def hp_f1 (T : Nat → Nat) (p q : Nat) : Nat :=
  if T p = 83 then (if q - p < 2 then 3 else if 48 ≤ T (p + 1) ∧ T (p + 1) ≤ 57 then @ite _ (hp_all T p q 2) (Classical.propDecidable _) (if hp_bad1 T p q then 3 else if hp_ty1 (T (p + 1) - 48) ((q - p - 2) / 2 - 2 - hp_w (T (p + 1) - 48)) then (if hp_sum (hp_B T p 2) ((q - p - 2) / 2) % 256 = 255 then 0 else 5) else 4) 2 else 2) else 1
/-- data: cnt bytes val at ad -/
noncomputable def hp_data (M : Nat → Option Nat) (n : Nat) (ad val : Nat → Nat) (cnt : Nat) : hp_S → Nat × hp_S
  | (N, dn, more, st, en, base, seg, rc) => @ite _ (∀ t, t < cnt → ad t < 4294967296 ∧ N (ad t) = none) (Classical.propDecidable _) (if n + more + hp_rem M ad cnt ≤ 3000 then (0, (hp_ins N ad val cnt, dn + cnt, more + hp_rem M ad cnt, st, en, base, seg, rc)) else (9, (N, dn, more, st, en, base, seg, rc))) (8, (N, dn, more, st, en, base, seg, rc))
def hp_ad0 (base : Nat) (seg : Bool) (off t : Nat) : Nat := (base + (if seg then (off + t) % 65536 else off + t)) % 4294967296
noncomputable def hp_r0 (M : Nat → Option Nat) (n : Nat) (T : Nat → Nat) (p q : Nat) : hp_S → Nat × hp_S
  | (N, dn, more, st, en, base, seg, rc) =>
    if hp_f0 T p q ≠ 0 then (hp_f0 T p q, (N, dn, more, st, en, base, seg, rc))
    else if en = true then (6, (N, dn, more, st, en, base, seg, rc))
    else if hp_B T p 1 3 = 0 then hp_data M n (hp_ad0 base seg (hp_num (hp_B T p 1) 1 2)) (fun t => hp_B T p 1 (4 + t)) (hp_B T p 1 0) (N, dn, more, st, en, base, seg, rc)
    else if hp_B T p 1 3 = 1 then (0, (N, dn, more, st, true, base, seg, rc))
    else if hp_B T p 1 3 = 2 then (0, (N, dn, more, st, en, 16 * hp_num (hp_B T p 1) 4 2, true, rc))
    else if hp_B T p 1 3 = 3 then (0, (N, dn, more, some (16 * hp_num (hp_B T p 1) 4 2 + hp_num (hp_B T p 1) 6 2), en, base, seg, rc))
    else if hp_B T p 1 3 = 4 then (0, (N, dn, more, st, en, 65536 * hp_num (hp_B T p 1) 4 2, false, rc))
    else (0, (N, dn, more, some (hp_num (hp_B T p 1) 4 4), en, base, seg, rc))
noncomputable def hp_r1 (M : Nat → Option Nat) (n : Nat) (T : Nat → Nat) (p q : Nat) : hp_S → Nat × hp_S
  | (N, dn, more, st, en, base, seg, rc) =>
    if hp_f1 T p q ≠ 0 then (hp_f1 T p q, (N, dn, more, st, en, base, seg, rc))
    else if en = true then (6, (N, dn, more, st, en, base, seg, rc))
    else if T (p + 1) - 48 = 0 then (0, (N, dn, more, st, en, base, seg, rc))
    else if T (p + 1) - 48 = 5 then (if hp_num (hp_B T p 2) 1 (hp_w (T (p + 1) - 48)) = rc then 0 else 7, (N, dn, more, st, en, base, seg, rc))
    else if 7 ≤ T (p + 1) - 48 then (0, (N, dn, more, some (hp_num (hp_B T p 2) 1 (hp_w (T (p + 1) - 48))), true, base, seg, rc))
    else hp_data M n (fun t => hp_num (hp_B T p 2) 1 (hp_w (T (p + 1) - 48)) + t) (fun t => hp_B T p 2 (1 + hp_w (T (p + 1) - 48) + t)) ((q - p - 2) / 2 - 2 - hp_w (T (p + 1) - 48)) (N, dn, more, st, en, base, seg, rc + 1)
def hp_b (x : Bool) : Int32 := if x then 1 else 0
def hp_st (s : Option Nat) : Int64 := match s with
  | some x => lN x
  | none => -1
theorem hp_b_0 {x : Bool} : hp_b x = 0 ↔ x = false := by cases x <;> decide
/-- the class's draft and readers hold such a state -/
def hp_XS (M : Nat → Option Nat) (σ : hp_S) (base : Int64) (seg : Int32) (rc : Int32) (da : Nat → Int64) (dv : Nat → Int32) (dsz more : Int32) (start : Int64) (ended : Int32) : Prop :=
  match σ with
  | (N, dn, mo, st, en, ba, sg, r) => hp_DR M da dv N dn mo ∧ mo ≤ 3000 ∧ dsz = nI dn ∧ more = nI mo ∧ start = hp_st st ∧ (∀ x, st = some x → x < 4294967296) ∧ ended = hp_b en ∧ base = lN ba ∧ ba < 4294967296 ∧ seg = hp_b sg ∧ rc = nI r
section HPF
variable {f : Nat → Int32} {len p q : Nat} {T : Nat → Nat}
theorem hp_typeHas0 {t b : Nat} (ht : t < 256) (hb : b < 256) {Q : Int32 → Prop} (h1 : hp_ty0 t b → Q 1) (h0 : ¬ hp_ty0 t b → Q 0) : hx_v_Colon_typeHas (nI t) (nI b) Q := by
  unfold hx_v_Colon_typeHas
  refine ⟨fun w => absurd w (nI_pos (by omega)), fun _ => ⟨fun w => ?_, fun w => h0 fun e => w ((nI_ltI (b := 6) (by omega) (by omega)).mpr (by omega))⟩⟩
  have h6 := (nI_ltI (b := 6) (by omega) (by omega)).mp w
  have vin : vp_in (nI t) 6 := vp_in_nI h6 (by omega)
  rw [hp_cl (by omega)]
  refine ⟨vin, ?_⟩
  have go : ∀ k, k < 256 → hx_iC t = nI k → (hp_ty0 t b ↔ b = k) → (hx_iC t < (0 : Int32) → Q 1) ∧ ((¬ hx_iC t < (0 : Int32)) → (vp_in (nI t) 6 ∧ ((¬ hx_iC t = nI b) → Q 0) ∧ (hx_iC t = nI b → Q 1))) := by
    intro k hk e1 e2
    rw [e1]
    refine ⟨fun w => absurd w (nI_pos (by omega)), fun _ => ⟨vin, fun w => h0 fun z => w (by rw [e2.mp z]), fun w => h1 (e2.mpr ((nI_eq (by omega) (by omega)).mp w).symm)⟩⟩
  rcases (show t = 0 ∨ t = 1 ∨ t = 2 ∨ t = 3 ∨ t = 4 ∨ t = 5 by omega) with e | e | e | e | e | e
  · subst e
    exact ⟨fun _ => h1 (Or.inl rfl), fun w => absurd (by decide) w⟩
  · subst e; exact go 0 (by omega) rfl (by omega)
  · subst e; exact go 2 (by omega) rfl (by omega)
  · subst e; exact go 4 (by omega) rfl (by omega)
  · subst e; exact go 2 (by omega) rfl (by omega)
  · subst e; exact go 4 (by omega) rfl (by omega)
theorem hp_form0 (hT : hp_TX f len T) (hl : len ≤ 8000) (hq : q ≤ len) (hp : p < q) {d0 : Int32} {Q : Int32 → Int32 → Prop} (h : ∀ s, (hp_f0 T p q = 0 → s = nI 1 ∧ T p = 58 ∧ hp_all T p q 1 ∧ ¬ hp_bad0 T p q ∧ hp_ty0 (hp_B T p 1 3) (hp_B T p 1 0)) → Q (nI (hp_f0 T p q)) s) : hx_v_Colon_faultOfForm f (nI p) (nI q) d0 Q := by
  unfold hx_v_Colon_faultOfForm
  unfold hp_f0 at h
  refine hp_beginsWith (c := 58) hT hl hq hp (by omega) (fun e => ⟨fun _ => ?_, fun w => absurd w (by decide)⟩) (fun e => ⟨fun w => absurd rfl w, fun _ => ?_⟩)
  · rw [if_pos e] at h
    refine hp_takeBytes (s := 1) hT hl hq (by omega) (by omega) (fun ha => ⟨fun _ => ?_, fun w => absurd w (by decide)⟩) (fun ha => ⟨fun w => absurd rfl w, fun _ => ?_⟩)
    · rw [if_pos ha] at h
      have bad3 : hp_bad0 T p q → Q 3 (nI 1) := fun hb => by
        rw [if_pos hb] at h
        exact h (nI 1) (fun w => absurd w (by decide))
      refine hp_bytes (by omega) (by omega) (by omega) (hp_half (by omega) (by omega) (by omega) (fun e2 => ⟨fun w => absurd rfl w, fun _ => ?_⟩) (fun e2 => ⟨fun _ => bad3 (Or.inl e2), fun w => absurd w (by decide)⟩))
      refine ⟨fun w => bad3 (Or.inr (Or.inl ((nI_ltI (b := 5) (by omega) (by omega)).mp w))), fun w => ?_⟩
      have h5 : ¬ (q - p - 1) / 2 < 5 := fun z => w ((nI_ltI (b := 5) (by omega) (by omega)).mpr z)
      have hB0 := hp_B_lt T p 1 0
      have hB3 := hp_B_lt T p 1 3
      refine hp_byteAt (i := 0) hT hl hq (by omega) ha (by omega) ?_
      rw [show (5 : Int32) = nI 5 from rfl, nI_add]
      refine ⟨fun w2 => ?_, fun w2 => bad3 (Or.inr (Or.inr fun z => w2 (by rw [z])))⟩
      have e3 := (nI_eq (by omega) (by omega)).mp w2
      have nb : ¬ hp_bad0 T p q := by
        intro z
        rcases z with z | z | z
        · exact z e2
        · exact h5 z
        · exact z e3
      rw [if_neg nb] at h
      refine hp_byteAt (i := 3) hT hl hq (by omega) ha (by omega) (hp_byteAt (i := 0) hT hl hq (by omega) ha (by omega) (hp_typeHas0 hB3 hB0 (fun ht => ⟨fun _ => ?_, fun w => absurd w (by decide)⟩) (fun ht => ⟨fun w => absurd rfl w, fun _ => ?_⟩)))
      · rw [if_pos ht] at h
        refine hp_sumAt hT hl hq (by omega) ha (by omega) ⟨fun w => ?_, fun w => ?_⟩
        · rw [if_neg fun z => w (by rw [z]; rfl)] at h
          exact h (nI 1) (fun w => absurd w (by decide))
        · have e4 := (nI_eq (b := 0) (by omega) (by omega)).mp w
          rw [if_pos e4] at h
          exact h (nI 1) (fun _ => ⟨rfl, e, ha, nb, ht⟩)
      · rw [if_neg ht] at h
        exact h (nI 1) (fun w => absurd w (by decide))
    · rw [if_neg ha] at h
      exact h (nI 1) (fun w => absurd w (by decide))
  · rw [if_neg e] at h
    exact h d0 (fun w => absurd w (by decide))
theorem hp_m16 {x : Nat} : lN x * (16 : Int64) = lN (16 * x) := by rw [show (16 : Int64) = lN 16 from rfl, lN_mul, Nat.mul_comm]
theorem hp_faultOf0 {a : Nat → Int64} {v : Nat → Int32} {n : Nat} {M : Nat → Option Nat} {A V : Nat → Nat} (h : hp_C a v n M A V) (hn : n ≤ 3000) (hT : hp_TX f len T) (hl : len ≤ 8000) (hq : q ≤ len) (hp : p < q) {σ : hp_S} {base start : Int64} {seg rc dsz more ended d0 : Int32} {da : Nat → Int64} {dv : Nat → Int32} (hs : hp_XS M σ base seg rc da dv dsz more start ended) (hd : σ.2.1 + 255 ≤ 3000) {Q : Int32 → Int64 → Int32 → Int32 → (Nat → Int64) → (Nat → Int32) → Int32 → Int32 → Int64 → Int32 → Prop}
    (k : ∀ base' seg' d' da' dv' dsz' more' start' ended', ((hp_r0 M n T p q σ).1 = 0 → hp_XS M (hp_r0 M n T p q σ).2 base' seg' rc da' dv' dsz' more' start' ended' ∧ (hp_r0 M n T p q σ).2.2.1 ≤ σ.2.1 + (q - p) / 2 ∧ (n + (hp_r0 M n T p q σ).2.2.2.1 ≤ 3000 ∨ (hp_r0 M n T p q σ).2.2.2.1 = σ.2.2.1)) → Q (nI (hp_r0 M n T p q σ).1) base' seg' d' da' dv' dsz' more' start' ended') : hx_v_Colon_faultOf base seg f (nI p) (nI q) d0 da dv dsz more start ended a (nI n) Q := by
  obtain ⟨N, dn, mo, st, en, ba, sg, r⟩ := σ
  obtain ⟨s1, s2, rfl, rfl, rfl, s6, rfl, rfl, s9, rfl, rfl⟩ := hs
  dsimp only at hd
  unfold hx_v_Colon_faultOf
  refine hp_form0 hT hl hq hp (fun s hf => ?_)
  obtain ⟨res, hres⟩ : ∃ z, hp_r0 M n T p q (N, dn, mo, st, en, ba, sg, r) = z := ⟨_, rfl⟩
  rw [hres] at k
  unfold hp_r0 at hres
  dsimp only at hres
  by_cases hf0 : hp_f0 T p q = 0
  · obtain ⟨rfl, e58, ha, nb, hty⟩ := hf hf0
    rw [if_neg (by rw [hf0]; decide)] at hres
    rw [hf0]
    refine ⟨fun _ => ⟨fun we => ?_, fun we => ?_⟩, fun w => absurd rfl w⟩
    · have hen := hp_b_0.mp we
      subst hen
      rw [if_neg (by decide)] at hres
      have g1 : (q - p - 1) % 2 = 0 := Decidable.byContradiction fun z => nb (Or.inl z)
      have g2 : ¬ (q - p - 1) / 2 < 5 := fun z => nb (Or.inr (Or.inl z))
      have g3 : (q - p - 1) / 2 = hp_B T p 1 0 + 5 := Decidable.byContradiction fun z => nb (Or.inr (Or.inr z))
      have hB0 := hp_B_lt T p 1 0
      have hB3 := hp_B_lt T p 1 3
      have n2 := hp_num_lt (hp_B_lt T p 1) 4 2
      have n6 := hp_num_lt (hp_B_lt T p 1) 6 2
      have n4 := hp_num_lt (hp_B_lt T p 1) 4 4
      have n1 := hp_num_lt (hp_B_lt T p 1) 1 2
      refine hp_byteAt (i := 3) hT hl hq (by omega) ha (by omega) ⟨fun w3 => ?_, fun w3 => ?_⟩
      · have e3 : ¬ hp_B T p 1 3 = 0 := fun z => w3 (by rw [z]; rfl)
        rw [if_neg e3] at hres
        unfold hx_v_Colon_takeOther
        refine ⟨fun w => ?_, fun w => ?_, fun w => ?_, fun w => ?_, fun w => ?_, fun w1 w2 w3' w4 w5 => ?_⟩
        · have e := (nI_eq (b := 1) (by omega) (by omega)).mp w
          rw [if_pos e] at hres
          subst hres
          exact k _ _ _ _ _ _ _ _ _ (fun _ => ⟨⟨s1, s2, rfl, rfl, rfl, s6, rfl, rfl, s9, rfl, rfl⟩, by simp, Or.inr rfl⟩)
        · have e := (nI_eq (b := 2) (by omega) (by omega)).mp w
          rw [if_neg (by omega), if_pos e] at hres
          refine hp_numberAt (i := 4) (n := 2) hT hl hq (by omega) ha (by omega) (by rcases hty with z | z | z | z <;> omega) ?_
          rw [hp_m16]
          subst hres
          exact k _ _ _ _ _ _ _ _ _ (fun _ => ⟨⟨s1, s2, rfl, rfl, rfl, s6, rfl, rfl, by omega, rfl, rfl⟩, by simp, Or.inr rfl⟩)
        · have e := (nI_eq (b := 3) (by omega) (by omega)).mp w
          rw [if_neg (by omega), if_neg (by omega), if_pos e] at hres
          refine hp_numberAt (i := 4) (n := 2) hT hl hq (by omega) ha (by omega) (by rcases hty with z | z | z | z <;> omega) (hp_numberAt (i := 6) (n := 2) hT hl hq (by omega) ha (by omega) (by rcases hty with z | z | z | z <;> omega) ?_)
          rw [hp_m16, lN_add]
          subst hres
          exact k _ _ _ _ _ _ _ _ _ (fun _ => ⟨⟨s1, s2, rfl, rfl, rfl, fun x hx => by rw [← Option.some.inj hx]; omega, rfl, rfl, s9, rfl, rfl⟩, by simp, Or.inr rfl⟩)
        · have e := (nI_eq (b := 4) (by omega) (by omega)).mp w
          rw [if_neg (by omega), if_neg (by omega), if_neg (by omega), if_pos e] at hres
          refine hp_numberAt (i := 4) (n := 2) hT hl hq (by omega) ha (by omega) (by rcases hty with z | z | z | z <;> omega) ?_
          rw [show (16 : Int32) = nI 16 from rfl, wb_shl _ (by decide), show hp_num (hp_B T p 1) 4 2 * 2 ^ 16 = 65536 * hp_num (hp_B T p 1) 4 2 by omega]
          subst hres
          exact k _ _ _ _ _ _ _ _ _ (fun _ => ⟨⟨s1, s2, rfl, rfl, rfl, s6, rfl, rfl, by omega, rfl, rfl⟩, by simp, Or.inr rfl⟩)
        · have e := (nI_eq (b := 5) (by omega) (by omega)).mp w
          rw [if_neg (by omega), if_neg (by omega), if_neg (by omega), if_neg (by omega)] at hres
          refine hp_numberAt (i := 4) (n := 4) hT hl hq (by omega) ha (by omega) (by rcases hty with z | z | z | z <;> omega) ?_
          subst hres
          exact k _ _ _ _ _ _ _ _ _ (fun _ => ⟨⟨s1, s2, rfl, rfl, rfl, fun x hx => by rw [← Option.some.inj hx]; omega, rfl, rfl, s9, rfl, rfl⟩, by simp, Or.inr rfl⟩)
        · exfalso
          rcases hty with z | z | z | z
          · exact e3 z
          · exact w1 (by rw [z.1]; rfl)
          · rcases z.1 with y | y
            · exact w2 (by rw [y]; rfl)
            · exact w4 (by rw [y]; rfl)
          · rcases z.1 with y | y
            · exact w3' (by rw [y]; rfl)
            · exact w5 (by rw [y]; rfl)
      · have e3 := (nI_eq (b := 0) (by omega) (by omega)).mp w3
        rw [if_pos e3] at hres
        unfold hp_data at hres
        dsimp only at hres
        refine hp_numberAt (i := 1) (n := 2) hT hl hq (by omega) ha (by omega) (by omega) (hp_byteAt (i := 0) hT hl hq (by omega) ha (by omega) (hp_TD_C _ _ _ _ _ _ _ _ _ _ _ _ _ _ _ _ ?_))
        have adlt : ∀ t, hp_ad0 ba sg (hp_num (hp_B T p 1) 1 2) t < 4294967296 := fun t => Nat.mod_lt _ (by decide)
        refine hp_takeData (from_ := 4) (ad := hp_ad0 ba sg (hp_num (hp_B T p 1) 1 2)) h hn s1 hT hl hq (by omega) ha (by omega) (by omega) s2 (fun t K ht k1 _ => ?_) (fun t _ => by have := adlt t; omega) (fun i j hij hj => ?_) (fun hb => ?_) (fun hall hm => ?_) (fun hall hle da' dv' hdr => ?_)
        · have k1 := k1 (adlt t)
          show hx_v_Colon_addressOfData _ _ _ _ _
          unfold hx_v_Colon_addressOfData
          intro P22 h22
          rw [hp_ladd (by omega)]
          unfold hp_ad0 at k1
          refine ⟨fun w => h22 _ ?_, fun w => h22 _ ?_⟩
          · have e := hp_b_0.mp w
            rw [lN_add, hp_mask32 (by omega)]
            rw [e] at k1
            exact k1
          · have e : sg = true := by
              cases sg with
              | true => rfl
              | false => exact absurd rfl w
            rw [show (65535 : Int64) = lN (2 ^ 16 - 1) from rfl, wb_mask (by omega) (by decide), lN_add, hp_mask32 (by omega)]
            rw [e] at k1
            exact k1
        · unfold hp_ad0
          cases sg
          · simp only [Bool.false_eq_true, if_false]
            omega
          · simp only [if_true]
            omega
        · rw [if_neg (fun hall => by
            obtain ⟨t, ht, z⟩ := hb
            rcases z with z | z
            · have := (hall t ht).1; omega
            · exact z (hall t ht).2)] at hres
          subst hres
          exact k _ _ _ _ _ _ _ _ _ (fun w => absurd (show (8 : Nat) = 0 from w) (by decide))
        · rw [if_pos hall, if_neg (by omega)] at hres
          subst hres
          exact k _ _ _ _ _ _ _ _ _ (fun w => absurd (show (9 : Nat) = 0 from w) (by decide))
        · rw [if_pos hall, if_pos hle] at hres
          subst hres
          refine k _ _ _ _ _ _ _ _ _ (fun _ => ⟨⟨hdr, by omega, rfl, rfl, rfl, s6, rfl, rfl, s9, rfl, rfl⟩, ?_, ?_⟩)
          · show dn + hp_B T p 1 0 ≤ dn + (q - p) / 2
            omega
          · refine Or.inl ?_
            show n + (mo + hp_rem M (hp_ad0 ba sg (hp_num (hp_B T p 1) 1 2)) (hp_B T p 1 0)) ≤ 3000
            omega
    · have hen : en = true := by
        cases en with
        | true => rfl
        | false => exact absurd rfl we
      rw [if_pos hen] at hres
      subst hres
      exact k _ _ _ _ _ _ _ _ _ (fun w => absurd (show (6 : Nat) = 0 from w) (by decide))
  · rw [if_pos hf0] at hres
    have hlt : hp_f0 T p q < 6 := by
      unfold hp_f0
      repeat' split
      all_goals omega
    refine ⟨fun w => absurd ((nI_eq (b := 0) (by omega) (by omega)).mp w) hf0, fun _ => ?_⟩
    subst hres
    exact k _ _ _ _ _ _ _ _ _ (fun w => absurd w hf0)
end HPF
