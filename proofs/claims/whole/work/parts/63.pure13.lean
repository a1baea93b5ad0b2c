/-! records of kind 1 in the class -/
theorem hp_db : ∀ nb, nb < 6 → ∀ w, w < 5 → 1 ≤ nb → nb < w + 2 → ¬ (0 : Int32) ≤ (((nI nb - 1) - nI w) - 1) := by decide +kernel
section HPG
variable {f : Nat → Int32} {len p q : Nat} {T : Nat → Nat}
theorem hp_dt {c : Nat} (h : 48 ≤ c ∧ c ≤ 57) : hp_dI c = nI (c - 48) := by
  unfold hp_dI hp_dg
  rw [if_pos h]
theorem hp_addressBytes {t : Nat} (ht : t < 10) {Q : Int32 → Prop} (h : Q (nI (hp_w t))) : hx_v_SRead_addressBytes (nI t) Q := by
  unfold hx_v_SRead_addressBytes
  refine ⟨fun w => absurd w (nI_pos (by omega)), fun _ => ⟨fun w => absurd ((nI_leI (a := 10) (by omega) (by omega)).mp w) (by omega), fun _ => ?_⟩⟩
  rw [hp_cl (by omega), hp_w_iS]
  exact ⟨vp_in_nI (by omega) (by omega), h⟩
theorem hp_dataBytes (hT : hp_TX f len T) (hl : len ≤ 8000) (hq : q ≤ len) (hp : p + 2 ≤ q) (ht : 48 ≤ T (p + 1) ∧ T (p + 1) ≤ 57) (hnb : 1 ≤ (q - p - 2) / 2) {Q : Int32 → Prop} (h1 : hp_w (T (p + 1) - 48) + 2 ≤ (q - p - 2) / 2 → Q (nI ((q - p - 2) / 2 - 2 - hp_w (T (p + 1) - 48)))) (h0 : (q - p - 2) / 2 < hp_w (T (p + 1) - 48) + 2 → ∀ z, ¬ (0 : Int32) ≤ z → Q z) : hx_v_SRead_dataBytes f (nI p) (nI q) (nI 2) Q := by
  unfold hx_v_SRead_dataBytes
  have hw := hp_w_le (T (p + 1) - 48)
  refine hp_bytes (by omega) (by omega) (by omega) (hp_digitAt (i := 1) hT hl hq (by omega) (fun _ => ?_) (fun w => absurd w (by omega)) (by omega))
  rw [hp_dt ht]
  refine hp_addressBytes (by omega) ?_
  by_cases hc : hp_w (T (p + 1) - 48) + 2 ≤ (q - p - 2) / 2
  · have e : ((nI ((q - p - 2) / 2) - (1 : Int32)) - nI (hp_w (T (p + 1) - 48))) - (1 : Int32) = nI ((q - p - 2) / 2 - 2 - hp_w (T (p + 1) - 48)) := by
      rw [show (1 : Int32) = nI 1 from rfl, pk_sub (by omega), pk_sub (by omega), pk_sub (by omega)]
      exact congrArg nI (by omega)
    rw [e]
    exact h1 hc
  · exact h0 (by omega) _ (hp_db _ (by omega) _ (by omega) hnb (by omega))
theorem hp_typeHas1 {t n : Nat} (ht : t < 10) (hn : n < 2 ^ 31) {Q : Int32 → Prop} (h1 : hp_ty1 t n → Q 1) (h0 : ¬ hp_ty1 t n → Q 0) : hx_v_SRead_typeHas (nI t) (nI n) Q := by
  unfold hx_v_SRead_typeHas
  refine ⟨fun w => ?_, fun w => ⟨fun w2 => ⟨fun w3 => ?_, fun w3 => ⟨fun w4 => ?_, fun w4 => ?_⟩⟩, fun w2 => ?_⟩⟩
  · have := (nI_eq (b := 4) (by omega) (by omega)).mp w
    exact h0 (by omega)
  · have g1 : t ≠ 4 := fun e => w (by rw [e]; rfl)
    have g2 : t ≠ 6 := fun e => w2 (by rw [e]; rfl)
    have := (nI_ltI (b := 5) (by omega) (by omega)).mp w3
    exact h1 (by omega)
  · have g3 : ¬ t < 5 := fun e => w3 ((nI_ltI (b := 5) (by omega) (by omega)).mpr e)
    have g4 : n ≠ 0 := fun e => w4 (by rw [e]; rfl)
    exact h0 (by omega)
  · have g1 : t ≠ 4 := fun e => w (by rw [e]; rfl)
    have g2 : t ≠ 6 := fun e => w2 (by rw [e]; rfl)
    have := (nI_eq (b := 0) (by omega) (by omega)).mp w4
    exact h1 (by omega)
  · have := (nI_eq (b := 6) (by omega) (by omega)).mp w2
    exact h0 (by omega)
theorem hp_form1 (hT : hp_TX f len T) (hl : len ≤ 8000) (hq : q ≤ len) (hp : p < q) {d0 : Int32} {Q : Int32 → Int32 → Prop} (h : ∀ s, (hp_f1 T p q = 0 → s = nI 2 ∧ p + 2 ≤ q ∧ (48 ≤ T (p + 1) ∧ T (p + 1) ≤ 57) ∧ hp_all T p q 2 ∧ ¬ hp_bad1 T p q ∧ hp_ty1 (T (p + 1) - 48) ((q - p - 2) / 2 - 2 - hp_w (T (p + 1) - 48))) → Q (nI (hp_f1 T p q)) s) : hx_v_SRead_faultOfForm f (nI p) (nI q) d0 Q := by
  unfold hx_v_SRead_faultOfForm
  unfold hp_f1 at h
  refine hp_beginsWith (c := 83) hT hl hq hp (by omega) (fun e => ⟨fun _ => ?_, fun w => absurd w (by decide)⟩) (fun e => ⟨fun w => absurd rfl w, fun _ => ?_⟩)
  · rw [if_pos e] at h
    unfold hx_v_Typed_recordLength
    rw [pk_sub (by omega)]
    refine ⟨fun w => ?_, fun w => ?_⟩
    · have h2 := (nI_leI (a := 2) (by omega) (by omega)).mp w
      rw [if_neg (by omega)] at h
      refine hp_digitAt (i := 1) hT hl hq (by omega) (fun _ => ?_) (fun w => absurd w (by omega)) (by omega)
      have ht0 := hT (p + 1) (by omega)
      by_cases ht : 48 ≤ T (p + 1) ∧ T (p + 1) ≤ 57
      · rw [hp_dt ht]
        rw [if_pos ht] at h
        refine ⟨fun w => absurd w (nI_pos (by omega)), fun _ => ⟨fun w => absurd ((nI_leI (a := 10) (by omega) (by omega)).mp w) (by omega), fun _ => ?_⟩⟩
        refine hp_takeBytes (s := 2) hT hl hq (by omega) (by omega) (fun ha => ⟨fun _ => ?_, fun w => absurd w (by decide)⟩) (fun ha => ⟨fun w => absurd rfl w, fun _ => ?_⟩)
        · rw [if_pos ha] at h
          have bad3 : hp_bad1 T p q → Q 3 (nI 2) := fun hb => by
            rw [if_pos hb] at h
            exact h (nI 2) (fun w => absurd w (by decide))
          refine hp_bytes (by omega) (by omega) (by omega) (hp_half (by omega) (by omega) (by omega) (fun e2 => ⟨fun w => absurd rfl w, fun _ => ?_⟩) (fun e2 => ⟨fun _ => bad3 (Or.inl e2), fun w => absurd w (by decide)⟩))
          refine ⟨fun w => bad3 (Or.inr (Or.inl ((nI_eq (b := 0) (by omega) (by omega)).mp w))), fun w => ?_⟩
          have h0 : ¬ (q - p - 2) / 2 = 0 := fun z => w (by rw [z]; rfl)
          have hB0 := hp_B_lt T p 2 0
          refine hp_byteAt (i := 0) hT hl hq (by omega) ha (by omega) ?_
          rw [show nI ((q - p - 2) / 2) - (1 : Int32) = nI ((q - p - 2) / 2 - 1) from pk_sub (b := 1) (by omega)]
          refine ⟨fun w2 => ?_, fun w2 => bad3 (Or.inr (Or.inr (Or.inl fun z => w2 (by rw [z]))))⟩
          have e3 := (nI_eq (by omega) (by omega)).mp w2
          refine hp_dataBytes hT hl hq (by omega) ht (by omega) (fun hge => ⟨fun _ => ?_, fun w => absurd (nI_pos' (by omega)) w⟩) (fun hlt z hz => ⟨fun w => absurd w hz, fun _ => bad3 (Or.inr (Or.inr (Or.inr hlt)))⟩)
          have nb : ¬ hp_bad1 T p q := by
            intro z
            rcases z with z | z | z | z
            · exact z e2
            · exact h0 z
            · exact z e3
            · omega
          rw [if_neg nb] at h
          refine hp_dataBytes hT hl hq (by omega) ht (by omega) (fun _ => hp_typeHas1 (by omega) (by omega) (fun hty => ⟨fun _ => ?_, fun w => absurd w (by decide)⟩) (fun hty => ⟨fun w => absurd rfl w, fun _ => ?_⟩)) (fun hlt => absurd hge (by omega))
          · rw [if_pos hty] at h
            refine hp_sumAt hT hl hq (by omega) ha (by omega) ⟨fun w => ?_, fun w => ?_⟩
            · rw [if_neg fun z => w (by rw [z]; rfl)] at h
              exact h (nI 2) (fun w => absurd w (by decide))
            · have e4 := (nI_eq (b := 255) (by omega) (by omega)).mp w
              rw [if_pos e4] at h
              exact h (nI 2) (fun _ => ⟨rfl, by omega, ht, ha, nb, hty⟩)
          · rw [if_neg hty] at h
            exact h (nI 2) (fun w => absurd w (by decide))
        · rw [if_neg ha] at h
          exact h (nI 2) (fun w => absurd w (by decide))
      · rw [if_neg ht] at h
        have hc : hp_dI (T (p + 1)) < 0 ∨ ¬ hp_dI (T (p + 1)) < 0 ∧ (10 : Int32) ≤ hp_dI (T (p + 1)) := by
          by_cases hs : (hp_dg (T (p + 1))).isSome
          · right
            rw [hp_dI_some hs]
            have hd := hp_d_lt (T (p + 1))
            refine ⟨nI_pos (by omega), (nI_leI (a := 10) (by omega) (by omega)).mpr ?_⟩
            unfold hp_d hp_dg
            unfold hp_dg at hs
            rw [if_neg ht] at hs ⊢
            by_cases c1 : 65 ≤ T (p + 1) ∧ T (p + 1) ≤ 70
            · rw [if_pos c1]
              show 10 ≤ T (p + 1) - 55
              omega
            · rw [if_neg c1] at hs ⊢
              by_cases c2 : 97 ≤ T (p + 1) ∧ T (p + 1) ≤ 102
              · rw [if_pos c2]
                show 10 ≤ T (p + 1) - 87
                omega
              · rw [if_neg c2] at hs
                cases hs
          · left
            rw [hp_dI_none hs]
            decide
        rcases hc with hc | hc
        · exact ⟨fun _ => h d0 (fun w => absurd w (by decide)), fun w => absurd hc w⟩
        · exact ⟨fun w => absurd w hc.1, fun _ => ⟨fun _ => h d0 (fun w => absurd w (by decide)), fun w => absurd hc.2 w⟩⟩
    · have h2 : ¬ 2 ≤ q - p := fun z => w ((nI_leI (a := 2) (by omega) (by omega)).mpr z)
      rw [if_pos (by omega)] at h
      exact h d0 (fun w => absurd w (by decide))
  · rw [if_neg e] at h
    exact h d0 (fun w => absurd w (by decide))
theorem hp_faultOf1 {a : Nat → Int64} {v : Nat → Int32} {n : Nat} {M : Nat → Option Nat} {A V : Nat → Nat} (h : hp_C a v n M A V) (hn : n ≤ 3000) (hT : hp_TX f len T) (hl : len ≤ 8000) (hq : q ≤ len) (hp : p < q) {σ : hp_S} {base start : Int64} {seg rc dsz more ended d0 : Int32} {da : Nat → Int64} {dv : Nat → Int32} (hs : hp_XS M σ base seg rc da dv dsz more start ended) (hd : σ.2.1 + 255 ≤ 3000) (hrc : σ.2.2.2.2.2.2.2 < 2 ^ 31) {Q : Int32 → Int32 → Int32 → (Nat → Int64) → (Nat → Int32) → Int32 → Int32 → Int64 → Int32 → Prop}
    (k : ∀ rc' d' da' dv' dsz' more' start' ended', ((hp_r1 M n T p q σ).1 = 0 → hp_XS M (hp_r1 M n T p q σ).2 base seg rc' da' dv' dsz' more' start' ended' ∧ (hp_r1 M n T p q σ).2.2.1 ≤ σ.2.1 + (q - p) / 2 ∧ (n + (hp_r1 M n T p q σ).2.2.2.1 ≤ 3000 ∨ (hp_r1 M n T p q σ).2.2.2.1 = σ.2.2.1) ∧ (hp_r1 M n T p q σ).2.2.2.2.2.2.2.2 ≤ σ.2.2.2.2.2.2.2 + 1) → Q (nI (hp_r1 M n T p q σ).1) rc' d' da' dv' dsz' more' start' ended') : hx_v_SRead_faultOf rc f (nI p) (nI q) d0 da dv dsz more start ended a (nI n) Q := by
  obtain ⟨N, dn, mo, st, en, ba, sg, r⟩ := σ
  obtain ⟨s1, s2, rfl, rfl, rfl, s6, rfl, rfl, s9, rfl, rfl⟩ := hs
  dsimp only at hd hrc
  unfold hx_v_SRead_faultOf
  refine hp_form1 hT hl hq hp (fun s hf => ?_)
  obtain ⟨res, hres⟩ : ∃ z, hp_r1 M n T p q (N, dn, mo, st, en, ba, sg, r) = z := ⟨_, rfl⟩
  rw [hres] at k
  unfold hp_r1 at hres
  dsimp only at hres
  by_cases hf0 : hp_f1 T p q = 0
  · obtain ⟨rfl, hpq, ht, ha, nb, hty⟩ := hf hf0
    rw [if_neg (by rw [hf0]; decide)] at hres
    rw [hf0]
    refine ⟨fun _ => ⟨fun we => ?_, fun we => ?_⟩, fun w => absurd rfl w⟩
    · have hen := hp_b_0.mp we
      subst hen
      rw [if_neg (by decide)] at hres
      have g1 : (q - p - 2) % 2 = 0 := Decidable.byContradiction fun z => nb (Or.inl z)
      have g2 : ¬ (q - p - 2) / 2 = 0 := fun z => nb (Or.inr (Or.inl z))
      have g3 : (q - p - 2) / 2 - 1 = hp_B T p 2 0 := Decidable.byContradiction fun z => nb (Or.inr (Or.inr (Or.inl z)))
      have g4 : ¬ (q - p - 2) / 2 < hp_w (T (p + 1) - 48) + 2 := fun z => nb (Or.inr (Or.inr (Or.inr z)))
      have hB0 := hp_B_lt T p 2 0
      have hw := hp_w_le (T (p + 1) - 48)
      have nw := hp_num_lt (hp_B_lt T p 2) 1 (hp_w (T (p + 1) - 48))
      have nw4 : 256 ^ hp_w (T (p + 1) - 48) ≤ 256 ^ 4 := Nat.pow_le_pow_right (by decide) hw.2
      refine hp_digitAt (i := 1) hT hl hq (by omega) (fun _ => ?_) (fun w => absurd w (by omega)) (by omega)
      rw [hp_dt ht]
      refine ⟨fun w0 => ?_, fun w0 => ?_⟩
      · have t0 : ¬ T (p + 1) - 48 = 0 := fun z => w0 (by rw [z]; rfl)
        rw [if_neg t0] at hres
        refine hp_addressBytes (by omega) (hp_numberAt (i := 1) hT hl hq (by omega) ha hw.2 (by omega) ⟨fun w5 => ?_, fun w5 => ?_⟩)
        · have t5 : ¬ T (p + 1) - 48 = 5 := fun z => w5 (by rw [z]; rfl)
          rw [if_neg t5] at hres
          refine ⟨fun w7 => ?_, fun w7 => ?_⟩
          · have t7 := (nI_ltI (b := 7) (by omega) (by omega)).mp w7
            rw [if_neg (by omega)] at hres
            refine hp_dataBytes hT hl hq (by omega) ht (by omega) (fun _ => ?_) (fun z => absurd z g4)
            unfold hp_data at hres
            dsimp only at hres
            rw [show (1 : Int32) + nI (hp_w (T (p + 1) - 48)) = nI (1 + hp_w (T (p + 1) - 48)) from nI_add 1 _]
            refine hp_TD_S _ _ _ _ _ _ _ _ _ _ _ _ _ _ ?_
            refine hp_takeData (ad := fun t => hp_num (hp_B T p 2) 1 (hp_w (T (p + 1) - 48)) + t) h hn s1 hT hl hq (by omega) ha (by omega) (by omega) s2 (fun t K ht' k1 k0 => ?_) (fun t _ => by omega) (fun i j hij hj => by omega) (fun hb => ?_) (fun hall hm => ?_) (fun hall hle da' dv' hdr => ?_)
            · show hx_v_SRead_addressOfData _ _ _
              unfold hx_v_SRead_addressOfData
              rw [hp_ladd (by omega)]
              refine ⟨fun w => k0 ?_, fun w => k1 ?_⟩
              · have := (pk_lLT (a := 4294967295) (by omega) (by omega)).mp w
                omega
              · have : ¬ 4294967295 < hp_num (hp_B T p 2) 1 (hp_w (T (p + 1) - 48)) + t := fun z => w ((pk_lLT (a := 4294967295) (by omega) (by omega)).mpr z)
                omega
            · rw [if_neg (fun hall => by
                obtain ⟨t, ht', z⟩ := hb
                rcases z with z | z
                · have := (hall t ht').1; omega
                · exact z (hall t ht').2)] at hres
              subst hres
              exact k _ _ _ _ _ _ _ _ (fun w => absurd (show (8 : Nat) = 0 from w) (by decide))
            · rw [if_pos hall, if_neg (by omega)] at hres
              subst hres
              exact k _ _ _ _ _ _ _ _ (fun w => absurd (show (9 : Nat) = 0 from w) (by decide))
            · rw [if_pos hall, if_pos hle] at hres
              subst hres
              refine k _ _ _ _ _ _ _ _ (fun _ => ⟨⟨hdr, by omega, rfl, rfl, rfl, s6, rfl, rfl, s9, rfl, nI_1 r⟩, ?_, Or.inl ?_, ?_⟩)
              · show dn + ((q - p - 2) / 2 - 2 - hp_w (T (p + 1) - 48)) ≤ dn + (q - p) / 2
                omega
              · show n + (mo + hp_rem M _ _) ≤ 3000
                omega
              · show r + 1 ≤ r + 1
                omega
          · have t7 : ¬ T (p + 1) - 48 < 7 := fun z => w7 ((nI_ltI (b := 7) (by omega) (by omega)).mpr z)
            rw [if_pos (by omega)] at hres
            subst hres
            exact k _ _ _ _ _ _ _ _ (fun _ => ⟨⟨s1, s2, rfl, rfl, rfl, fun x hx => by rw [← Option.some.inj hx]; omega, rfl, rfl, s9, rfl, rfl⟩, by simp, Or.inr rfl, by simp⟩)
        · have t5 := (nI_eq (b := 5) (by omega) (by omega)).mp w5
          rw [if_pos t5] at hres
          rw [nI_l hrc]
          refine ⟨fun w => ?_, fun w => ?_⟩
          · rw [if_neg fun z => w (by rw [z])] at hres
            subst hres
            exact k _ _ _ _ _ _ _ _ (fun w => absurd (show (7 : Nat) = 0 from w) (by decide))
          · rw [if_pos ((pk_lEQ (by omega) (by omega)).mp w)] at hres
            subst hres
            exact k _ _ _ _ _ _ _ _ (fun _ => ⟨⟨s1, s2, rfl, rfl, rfl, s6, rfl, rfl, s9, rfl, rfl⟩, by simp, Or.inr rfl, by simp⟩)
      · have t0 := (nI_eq (b := 0) (by omega) (by omega)).mp w0
        rw [if_pos t0] at hres
        subst hres
        exact k _ _ _ _ _ _ _ _ (fun _ => ⟨⟨s1, s2, rfl, rfl, rfl, s6, rfl, rfl, s9, rfl, rfl⟩, by simp, Or.inr rfl, by simp⟩)
    · have hen : en = true := by
        cases en with
        | true => rfl
        | false => exact absurd rfl we
      rw [if_pos hen] at hres
      subst hres
      exact k _ _ _ _ _ _ _ _ (fun w => absurd (show (6 : Nat) = 0 from w) (by decide))
  · rw [if_pos hf0] at hres
    have hlt : hp_f1 T p q < 6 := by
      unfold hp_f1
      repeat' split
      all_goals omega
    subst hres
    refine ⟨fun w => absurd ((nI_eq (b := 0) (by omega) (by omega)).mp w) hf0, fun _ => k _ _ _ _ _ _ _ _ (fun w => absurd w hf0)⟩
end HPG
