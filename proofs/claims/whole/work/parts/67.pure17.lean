/-! the reference reads a record of kind 1 -/
section HPX
variable {f : Nat → Int32} {len p q : Nat} {T : Nat → Nat}
theorem hp_wideM {t : Nat} (ht : t < 10) {Q : Int32 → Prop} (h : Q (nI (hp_w t))) : hx_v_Model_wideOf (nI t) Q := by
  unfold hx_v_Model_wideOf
  have e8 : ∀ {j : Nat}, j < 256 → (nI t = nI j ↔ t = j) := fun hj => nI_eq (by omega) (by omega)
  unfold hp_w at h
  refine ⟨fun w => ?_, fun w => ⟨fun w2 => ⟨fun w3 => ?_, fun w3 => ⟨fun w4 => ?_, fun w4 => ?_⟩⟩, fun w2 => ?_⟩⟩
  · have := (e8 (j := 2) (by omega)).mp w
    rw [if_pos (Or.inl this)] at h
    exact h
  · have n2 : t ≠ 2 := fun e => w ((e8 (j := 2) (by omega)).mpr e)
    have n8 : t ≠ 8 := fun e => w2 ((e8 (j := 8) (by omega)).mpr e)
    have := (e8 (j := 3) (by omega)).mp w3
    rw [if_neg (by omega), if_pos (Or.inl this)] at h
    exact h
  · have n2 : t ≠ 2 := fun e => w ((e8 (j := 2) (by omega)).mpr e)
    have n8 : t ≠ 8 := fun e => w2 ((e8 (j := 8) (by omega)).mpr e)
    have n3 : t ≠ 3 := fun e => w3 ((e8 (j := 3) (by omega)).mpr e)
    have n7 : t ≠ 7 := fun e => w4 ((e8 (j := 7) (by omega)).mpr e)
    rw [if_neg (by omega), if_neg (by omega)] at h
    exact h
  · have n2 : t ≠ 2 := fun e => w ((e8 (j := 2) (by omega)).mpr e)
    have n8 : t ≠ 8 := fun e => w2 ((e8 (j := 8) (by omega)).mpr e)
    have := (e8 (j := 7) (by omega)).mp w4
    rw [if_neg (by omega), if_pos (Or.inr this)] at h
    exact h
  · have := (e8 (j := 8) (by omega)).mp w2
    rw [if_pos (Or.inr this)] at h
    exact h
theorem hp_readLetterM {a : Nat → Int64} {v : Nat → Int32} {n : Nat} {M : Nat → Option Nat} {A V : Nat → Nat} (h : hp_C a v n M A V) (hn : n ≤ 3000) (hT : hp_TX f len T) (hl : len ≤ 4096) (hq : q ≤ len) (hp : p < q) {σ : hp_S} {na : Nat → Int64} {nv : Nat → Int32} {nsz fresh ended nhs seg rc bc : Int32} {nst base : Int64} {by0 : Nat → Int32} (hs : hp_MS M σ na nv nsz fresh ended nhs nst base seg rc) (hd : σ.2.1 + 255 ≤ 3000) (hmo : n + σ.2.2.1 ≤ 3000) (hrc : σ.2.2.2.2.2.2.2 < 2 ^ 31) {Q : (Nat → Int64) → (Nat → Int32) → Int32 → Int32 → Int32 → Int32 → Int64 → Int32 → (Nat → Int32) → Int32 → Int32 → Prop}
    (k : ∀ na' nv' nsz' fr' en' nhs' nst' rc' by' bc', ((hp_r1 M n T p q σ).1 = 0 → hp_MS M (hp_r1 M n T p q σ).2 na' nv' nsz' fr' en' nhs' nst' base seg rc') → Q na' nv' nsz' fr' en' nhs' nst' rc' by' bc' (nI (hp_r1 M n T p q σ).1)) : hx_v_Model_readLetter (nI p) (nI q) a (nI n) f na nv nsz fresh ended nhs nst rc by0 bc 0 Q := by
  obtain ⟨N, dn, mo, st, en, ba, sg, r⟩ := σ
  obtain ⟨m1, rfl, rfl, mst, rfl, rfl, s9, rfl, rfl⟩ := hs
  dsimp only at hd hmo hrc
  obtain ⟨res, hres⟩ : ∃ z, hp_r1 M n T p q (N, dn, mo, st, en, ba, sg, r) = z := ⟨_, rfl⟩
  rw [hres] at k
  unfold hp_r1 at hres
  dsimp only at hres
  have qf : ∀ c na' nv' nsz' fr' en' nhs' nst' rc' by' bc', c ≠ 0 → res.1 = c → Q na' nv' nsz' fr' en' nhs' nst' rc' by' bc' (nI c) := by
    intro c na' nv' nsz' fr' en' nhs' nst' rc' by' bc' hc e
    have := k na' nv' nsz' fr' en' nhs' nst' rc' by' bc' (fun z => absurd (e.symm.trans z) hc)
    rw [e] at this
    exact this
  have rf : hp_f1 T p q ≠ 0 → res.1 = hp_f1 T p q := by
    intro z
    rw [if_pos z] at hres
    subst hres
    rfl
  have qc : ∀ c na' nv' nsz' fr' en' nhs' nst' rc' by' bc', c ≠ 0 → hp_f1 T p q = c → Q na' nv' nsz' fr' en' nhs' nst' rc' by' bc' (nI c) := fun c na' nv' nsz' fr' en' nhs' nst' rc' by' bc' hc e => qf c _ _ _ _ _ _ _ _ _ _ hc (by rw [rf (by rw [e]; exact hc), e])
  unfold hx_v_Model_readLetter
  intro P17 P59 P63 P64 P84 P170 P171 P202 P207 P239 P243 P244 P267 P287 P327 P391 P433 P454 h17 h59 h63 h64 h84 h170 h171 h202 h207 h239 h243 h244 h267 h287 h327 h391 h433 h454
  have hTp := hT p (by omega)
  rw [hp_cl (by omega), hTp.1]
  refine ⟨vp_in_nI (by omega) (by omega), fun w => ?_, fun w => ?_⟩
  · have hne : ¬ T p = 83 := fun e => w (by rw [e]; rfl)
    apply h17
    exact hp_fine0 (by decide) (fun z => absurd rfl z) (fun _ => ⟨fun z => absurd rfl z, fun _ => qc 1 _ _ _ _ _ _ _ _ _ _ (by decide) (by unfold hp_f1; rw [if_neg hne])⟩)
  · have e83 := (nI_eq (b := 83) (by omega) (by omega)).mp w
    apply h17
    refine hp_fine0 (by decide) (fun _ => ⟨fun _ => ?_, fun z => absurd z (by decide)⟩) (fun z => absurd z (by decide))
    rw [nI_1]
    -- fault 2 for the type's digit
    have bad2 : p + 2 ≤ q → ¬ (48 ≤ T (p + 1) ∧ T (p + 1) ≤ 57) → P63 na nv (nI dn) (nI mo) (hp_b en) nhs nst (nI r) by0 bc 0 := by
      intro h2 hnt
      apply h63
      apply h64
      exact hp_fine0 (by decide) (fun z => absurd rfl z) (fun _ => ⟨fun _ => qc 2 _ _ _ _ _ _ _ _ _ _ (by decide) (by unfold hp_f1; rw [if_pos e83, if_neg (by omega), if_neg hnt]), fun z => absurd rfl z⟩)
    refine ⟨fun w1 => ?_, fun w1 => ?_⟩
    · have e1 := (nI_eq (by omega) (by omega)).mp w1
      apply h59
      apply h64
      refine hp_fine0 (by decide) (fun _ => ⟨fun z => absurd z (by decide), fun _ => ?_⟩) (fun z => absurd z (by decide))
      rw [nI_1]
      refine ⟨fun _ => ?_, fun z => absurd (nI_le (by omega) (by omega)) z⟩
      apply h84
      exact hp_fine0 (by decide) (fun z => absurd rfl z) (fun _ => ⟨fun z => absurd rfl z, fun _ => qc 3 _ _ _ _ _ _ _ _ _ _ (by decide) (by unfold hp_f1; rw [if_pos e83, if_pos (by omega)])⟩)
    · have h2 : p + 2 ≤ q := by
        have : ¬ p + 1 = q := fun e => w1 (by rw [e])
        omega
      have hT1 := hT (p + 1) (by omega)
      have vin : vp_in (nI (p + 1)) 8000 := vp_in_nI (by omega) (by omega)
      rw [hp_cl (by omega), hT1.1]
      refine ⟨vin, fun w2 => bad2 h2 ?_, fun w2 => ⟨vin, fun w3 => bad2 h2 ?_, fun w3 => ?_⟩⟩
      · have := (nI_ltI (b := 48) (by omega) (by omega)).mp w2
        omega
      · have := (nI_ltI (a := 57) (by omega) (by omega)).mp w3
        omega
      · have ht : 48 ≤ T (p + 1) ∧ T (p + 1) ≤ 57 := by
          have g1 : ¬ T (p + 1) < 48 := fun e => w2 ((nI_ltI (b := 48) (by omega) (by omega)).mpr e)
          have g2 : ¬ 57 < T (p + 1) := fun e => w3 ((nI_ltI (a := 57) (by omega) (by omega)).mpr e)
          omega
        apply h59
        apply h64
        refine hp_fine0 (by decide) (fun _ => ⟨fun z => absurd z (by decide), fun _ => ?_⟩) (fun z => absurd z (by decide))
        rw [nI_1]
        refine ⟨fun z => absurd ((nI_leI (by omega) (by omega)).mp z) (by omega), fun _ => ?_⟩
        apply h84
        refine hp_fine0 (by decide) (fun _ => ⟨fun _ => ?_, fun z => absurd z (by decide)⟩) (fun z => absurd z (by decide))
        rw [nI_1, hp_cl (by omega), hT1.1]
        refine ⟨vin, fun z hz => ?_⟩
        rw [show (48 : Int32) = nI 48 from rfl, pk_sub ht.1] at hz
        subst hz
        rw [show (2 : Int32) = nI 2 from rfl, nI_add]
        have hw := hp_w_le (T (p + 1) - 48)
        refine hp_readDigits (s := 2) hT hl hq (by omega) (fun ha by' hby => ?_) (fun ha => ?_)
        · have hfA : hp_f1 T p q = (if hp_bad1 T p q then 3 else if hp_ty1 (T (p + 1) - 48) ((q - p - 2) / 2 - 2 - hp_w (T (p + 1) - 48)) then (if hp_sum (hp_B T p 2) ((q - p - 2) / 2) % 256 = 255 then 0 else 5) else 4) := by
            unfold hp_f1
            rw [if_pos e83, if_neg (by omega), if_pos ht, if_pos ha]
          intro z hz
          rw [pk_sub (by omega), pk_sub (by omega)] at hz
          subst hz
          refine hp_wideM (by omega) ?_
          rw [pk_rem (by omega) (by omega) (by omega)]
          obtain ⟨t, htt⟩ : ∃ t, T (p + 1) - 48 = t := ⟨_, rfl⟩
          rw [htt] at hw ⊢
          simp only [htt] at hres hfA
          have ht10 : t < 10 := by omega
          have bad3 : hp_bad1 T p q → P170 (nI t) (nI (hp_w t)) na nv (nI dn) (nI mo) (hp_b en) nhs nst (nI r) by' (nI ((q - p - 2) / 2)) 0 := by
            intro hb
            apply h170
            apply h171
            exact hp_fine0 (by decide) (fun z => absurd rfl z) (fun _ => ⟨fun z => absurd rfl z, fun _ => qc 3 _ _ _ _ _ _ _ _ _ _ (by decide) (by rw [hfA, if_pos hb])⟩)
          have hB0 := hp_B_lt T p 2 0
          refine ⟨fun w4 => bad3 (Or.inr (Or.inl ?_)), fun w4 => ⟨fun w5 => bad3 (Or.inl fun e => w5 (by rw [e]; rfl)), fun w5 => ⟨hp_v0, ?_⟩⟩⟩
          · have := (nI_leI (b := 0) (by omega) (by omega)).mp w4
            omega
          · have g0 : ¬ q - p - 2 ≤ 0 := fun e => w4 ((nI_leI (b := 0) (by omega) (by omega)).mpr e)
            have g1 := (nI_eq (b := 0) (by omega) (by omega)).mp w5
            rw [sb_cl0, hby 0 (by omega), nI_1]
            refine ⟨fun w6 => bad3 (Or.inr (Or.inr (Or.inl fun e => w6 (by rw [show (q - p - 2) / 2 = hp_B T p 2 0 + 1 by omega])))), fun w6 => ⟨hp_v0, ?_⟩⟩
            have g2 := (nI_eq (by omega) (by omega)).mp w6
            rw [nI_1]
            refine ⟨fun w7 => bad3 (Or.inr (Or.inr (Or.inr ?_))), fun w7 => ?_⟩
            · have := (nI_ltI (by omega) (by omega)).mp w7
              rw [htt]
              omega
            · have g3 : ¬ hp_B T p 2 0 < hp_w t + 1 := fun e => w7 ((nI_ltI (by omega) (by omega)).mpr e)
              have nb : ¬ hp_bad1 T p q := by
                intro e
                rcases e with e | e | e | e
                · exact e g1
                · omega
                · omega
                · rw [htt] at e
                  omega
              rw [if_neg nb] at hfA
              have nw := hp_num_lt (hp_B_lt T p 2) 1 (hp_w t)
              have nw4 : 256 ^ hp_w t ≤ 256 ^ 4 := Nat.pow_le_pow_right (by decide) hw.2
              have e8 : ∀ {j : Nat}, j < 256 → (nI t = nI j ↔ t = j) := fun hj => nI_eq (by omega) (by omega)
              -- the body
              have body : ∀ no : Bool, (no = true ↔ (t = 5 ∨ t = 7 ∨ t = 8 ∨ t = 9)) → hp_f1 T p q = 0 → hp_ty1 t ((q - p - 2) / 2 - 2 - hp_w t) → P287 (nI t) (nI (hp_w t)) (hp_b no) (hp_b (!en)) na nv (nI dn) (nI mo) (hp_b en) nhs nst (nI r) by' (nI ((q - p - 2) / 2)) 0 := by
                intro no hno hf0 hty
                rw [if_neg (by rw [hf0]; decide)] at hres
                apply h287
                cases en with
                | true =>
                  rw [if_pos rfl] at hres
                  exact hp_fine0 (by decide) (fun z => absurd rfl z) (fun _ => ⟨fun z => absurd rfl z, fun _ => qf 6 _ _ _ _ _ _ _ _ _ _ (by decide) (by subst hres; rfl)⟩)
                | false =>
                  rw [if_neg (by decide)] at hres
                  refine hp_fine0 (by decide) (fun _ => ⟨fun _ => ?_, fun z => absurd z (by decide)⟩) (fun z => absurd z (by decide))
                  refine hp_numM (i := 1) (hp_B_lt T p 2) hw.2 (by omega) (fun j hj => hby _ (by omega)) ⟨fun t5 => ?_, fun t5 => ?_⟩
                  · have n5 : t ≠ 5 := fun e => t5 ((e8 (j := 5) (by omega)).mpr e)
                    cases no with
                    | true =>
                      have := hno.mp rfl
                      rw [if_neg (by omega), if_neg n5, if_pos (by omega)] at hres
                      refine ⟨fun z => absurd z (by decide), fun _ => ?_⟩
                      subst hres
                      exact k _ _ _ _ _ _ _ _ _ _ (fun _ => ⟨m1, rfl, rfl, Or.inr ⟨_, rfl, rfl, rfl, by omega⟩, rfl, rfl, s9, rfl, rfl⟩)
                    | false =>
                      have nn : ¬ (t = 5 ∨ t = 7 ∨ t = 8 ∨ t = 9) := fun z => absurd (hno.mpr z) (by decide)
                      refine ⟨fun _ => ⟨fun t0 => ?_, fun t0 => ⟨hp_v0, fun z hz => ?_⟩⟩, fun z => absurd rfl z⟩
                      · have e0 := (nI_leI (b := 0) (by omega) (by omega)).mp t0
                        rw [if_pos (by omega)] at hres
                        subst hres
                        exact k _ _ _ _ _ _ _ _ _ _ (fun _ => ⟨m1, rfl, rfl, mst, rfl, rfl, s9, rfl, rfl⟩)
                      · have e0 : ¬ t ≤ 0 := fun e => t0 ((nI_leI (b := 0) (by omega) (by omega)).mpr e)
                        rw [if_neg (by omega), if_neg n5, if_neg (by omega)] at hres
                        unfold hp_data at hres
                        dsimp only at hres
                        rw [sb_cl0, hby 0 (by omega), pk_sub (by omega), show (1 : Int32) = nI 1 from rfl, pk_sub (by omega), show hp_B T p 2 0 - hp_w t - 1 = (q - p - 2) / 2 - 2 - hp_w t by omega] at hz
                        subst hz
                        rw [nI_1]
                        obtain ⟨cnt, hcnt⟩ : ∃ cnt, (q - p - 2) / 2 - 2 - hp_w t = cnt := ⟨_, rfl⟩
                        rw [hcnt]
                        simp only [hcnt] at hres
                        have hrl := hp_rem_le M (fun t' => hp_num (hp_B T p 2) 1 (hp_w t) + t') cnt
                        obtain ⟨ad, had⟩ : ∃ ad, (fun t' => hp_num (hp_B T p 2) 1 (hp_w t) + t') = ad := ⟨_, rfl⟩
                        rw [had] at hres hrl
                        have adv : ∀ j, ad j = hp_num (hp_B T p 2) 1 (hp_w t) + j := fun j => by rw [← had]
                        have f8 : (∃ j, j < cnt ∧ (4294967296 ≤ ad j ∨ N (ad j) ≠ none)) → ∀ i na' nv' nsz' fr', P391 (nI (hp_w t)) (lN (hp_num (hp_B T p 2) 1 (hp_w t))) (nI cnt) i na' nv' nsz' fr' (hp_b false) nhs nst (nI (r + 1)) by' (nI ((q - p - 2) / 2)) 8 := by
                          intro hb i na' nv' nsz' fr'
                          have hr8 : res.1 = 8 := by
                            rw [if_neg fun hall => by
                              obtain ⟨j, hj, z⟩ := hb
                              rw [adv j] at z
                              rcases z with z | z
                              · have := (hall j hj).1; omega
                              · exact z (hall j hj).2] at hres
                            subst hres
                            rfl
                          have p433 : P433 na' nv' nsz' fr' (hp_b false) nhs nst (nI (r + 1)) by' (nI ((q - p - 2) / 2)) 8 := by
                            apply h433
                            refine ⟨fun _ => ?_, fun _ => ?_⟩
                            · apply h454
                              exact hp_fineF (by decide) (qf 8 _ _ _ _ _ _ _ _ _ _ (by decide) hr8)
                            · apply h454
                              exact hp_fineF (by decide) (qf 8 _ _ _ _ _ _ _ _ _ _ (by decide) hr8)
                          apply h391
                          exact ⟨fun _ => p433, fun _ => ⟨fun _ => p433, fun z => absurd z (by decide)⟩⟩
                        have key : ∀ d i na' nv', cnt - i ≤ d → i ≤ cnt → (∀ j, j < i → ad j < 4294967296 ∧ N (ad j) = none) → hp_ML M na' nv' (hp_ins N ad (fun t' => hp_B T p 2 (1 + hp_w t + t')) i) (dn + i) (mo + hp_rem M ad i) → P391 (nI (hp_w t)) (lN (hp_num (hp_B T p 2) 1 (hp_w t))) (nI cnt) (nI i) na' nv' (nI (dn + i)) (nI (mo + hp_rem M ad i)) (hp_b false) nhs nst (nI (r + 1)) by' (nI ((q - p - 2) / 2)) 0 := by
                          intro d
                          have fin : ∀ na' nv', (∀ j, j < cnt → ad j < 4294967296 ∧ N (ad j) = none) → hp_ML M na' nv' (hp_ins N ad (fun t' => hp_B T p 2 (1 + hp_w t + t')) cnt) (dn + cnt) (mo + hp_rem M ad cnt) → P433 na' nv' (nI (dn + cnt)) (nI (mo + hp_rem M ad cnt)) (hp_b false) nhs nst (nI (r + 1)) by' (nI ((q - p - 2) / 2)) 0 := by
                            intro na' nv' hall hml
                            rw [if_pos (fun j hj => by rw [← adv j]; exact hall j hj)] at hres
                            apply h433
                            rw [nI_add]
                            refine ⟨fun w9 => ?_, fun w9 => ?_⟩
                            · have := (nI_ltI (a := 3000) (by omega) (by omega)).mp w9
                              rw [if_neg (by omega)] at hres
                              apply h454
                              exact hp_fine0 (by decide) (fun z => absurd rfl z) (fun _ => qf 9 _ _ _ _ _ _ _ _ _ _ (by decide) (by subst hres; rfl))
                            · have : ¬ 3000 < n + (mo + hp_rem M ad cnt) := fun z => w9 ((nI_ltI (a := 3000) (by omega) (by omega)).mpr z)
                              rw [if_pos (by omega)] at hres
                              apply h454
                              refine hp_fine0 (by decide) (fun _ => ?_) (fun z => absurd z (by decide))
                              subst hres
                              exact k _ _ _ _ _ _ _ _ _ _ (fun _ => ⟨hml, rfl, rfl, mst, rfl, rfl, s9, rfl, rfl⟩)
                          induction d with
                          | zero =>
                            intro i na' nv' hdi hi hall hml
                            apply h391
                            obtain rfl : i = cnt := by omega
                            exact ⟨fun _ => fin na' nv' hall hml, fun z => absurd (nI_le (Nat.le_refl _) (by omega)) z⟩
                          | succ d ih =>
                            intro i na' nv' hdi hi hall hml
                            apply h391
                            refine ⟨fun z => ?_, fun z => ⟨fun y => absurd rfl y, fun _ => ?_⟩⟩
                            · have := (nI_leI (by omega) (by omega)).mp z
                              obtain rfl : i = cnt := by omega
                              exact fin na' nv' hall hml
                            · have hlt : i < cnt := Nat.not_le.mp fun u => z (nI_le u (by omega))
                              have hai := adv i
                              rw [nI_1, nI_add, hp_cl (by omega), hby (hp_w t + 1 + i) (by omega), hp_ladd (by omega), ← hai, show hp_w t + 1 + i = 1 + hp_w t + i by omega]
                              refine ⟨vp_in_nI (by omega) (by omega), hp_putNew h hn hml (by omega) (by omega) (hp_B_lt T p 2 _) (fun hb => ?_) (fun h32 hN' na2 nv2 hml2 => ?_)⟩
                              · refine f8 ⟨i, hlt, ?_⟩ _ _ _ _ _
                                rw [hp_ins_out _ _ _ _ i (fun j hj => by rw [adv j, hai]; omega)] at hb
                                exact hb
                              · rw [hp_ins_out _ _ _ _ i (fun j hj => by rw [adv j, hai]; omega)] at hN'
                                rw [nI_1]
                                rw [Nat.add_assoc mo] at hml2 ⊢
                                refine ih (i + 1) na2 nv2 (by omega) (by omega) (fun s hs => ?_) hml2
                                by_cases e : s = i
                                · rw [e]; exact ⟨h32, hN'⟩
                                · exact hall s (by omega)
                        exact key cnt 0 na nv (Nat.sub_le _ _) (by omega) (fun s hs => absurd hs (by omega)) m1
                  · have e5 := (e8 (j := 5) (by omega)).mp t5
                    rw [if_neg (by omega), if_pos e5] at hres
                    rw [nI_l hrc]
                    refine ⟨fun w7 => ?_, fun w7 => ?_⟩
                    · rw [if_neg fun z => w7 (by rw [z])] at hres
                      apply h327
                      exact hp_fine0 (by decide) (fun z => absurd rfl z) (fun _ => qf 7 _ _ _ _ _ _ _ _ _ _ (by decide) (by subst hres; rfl))
                    · rw [if_pos ((pk_lEQ (by omega) (by omega)).mp w7)] at hres
                      apply h327
                      refine hp_fine0 (by decide) (fun _ => ?_) (fun z => absurd z (by decide))
                      subst hres
                      exact k _ _ _ _ _ _ _ _ _ _ (fun _ => ⟨m1, rfl, rfl, mst, rfl, rfl, s9, rfl, rfl⟩)
              have p244 : ∀ no y : Bool, (no = true ↔ (t = 5 ∨ t = 7 ∨ t = 8 ∨ t = 9)) → (y = true ↔ hp_ty1 t ((q - p - 2) / 2 - 2 - hp_w t)) → P244 (nI t) (nI (hp_w t)) (hp_b no) (hp_b y) na nv (nI dn) (nI mo) (hp_b en) nhs nst (nI r) by' (nI ((q - p - 2) / 2)) 0 := by
                intro no y hno hy
                apply h244
                cases y with
                | false =>
                  have hnt : ¬ hp_ty1 t ((q - p - 2) / 2 - 2 - hp_w t) := fun z => absurd (hy.mpr z) (by decide)
                  exact hp_fine0 (by decide) (fun z => absurd rfl z) (fun _ => ⟨fun _ => qc 4 _ _ _ _ _ _ _ _ _ _ (by decide) (by rw [hfA, if_neg hnt]), fun z => absurd rfl z⟩)
                | true =>
                  have hty := hy.mp rfl
                  rw [if_pos hty] at hfA
                  refine hp_fine0 (by decide) (fun _ => ⟨fun z => absurd z (by decide), fun _ => ?_⟩) (fun z => absurd z (by decide))
                  refine hp_sumM (hp_B_lt T p 2) (by omega) hby ⟨fun ws => ?_, fun ws => ?_⟩
                  · have hs5 : ¬ hp_sum (hp_B T p 2) ((q - p - 2) / 2) % 256 = 255 := fun e => ws (by rw [e]; rfl)
                    apply h267
                    exact hp_fine0 (by decide) (fun z => absurd rfl z) (fun _ => ⟨fun _ => qc 5 _ _ _ _ _ _ _ _ _ _ (by decide) (by rw [hfA, if_neg hs5]), fun z => absurd rfl z⟩)
                  · have hs0 := (nI_eq (b := 255) (by omega) (by omega)).mp ws
                    rw [if_pos hs0] at hfA
                    have hb := body no hno hfA hty
                    apply h267
                    refine hp_fine0 (by decide) (fun _ => ⟨fun z => absurd z (by decide), fun _ => ⟨fun we => ?_, fun we => ?_⟩⟩) (fun z => absurd z (by decide))
                    · cases en with
                      | true => exact hb
                      | false => exact absurd rfl we
                    · have hen := hp_b_0.mp we
                      rw [hen] at hb ⊢
                      exact hb
              have p207 : ∀ no : Bool, (no = true ↔ (t = 5 ∨ t = 7 ∨ t = 8 ∨ t = 9)) → P207 (nI t) (nI (hp_w t)) (hp_b no) na nv (nI dn) (nI mo) (hp_b en) nhs nst (nI r) by' (nI ((q - p - 2) / 2)) 0 := by
                intro no hno
                have yes : hp_ty1 t ((q - p - 2) / 2 - 2 - hp_w t) → P239 (nI t) (nI (hp_w t)) (hp_b no) na nv (nI dn) (nI mo) (hp_b en) nhs nst (nI r) by' (nI ((q - p - 2) / 2)) 0 := fun e => h239 _ _ _ _ _ _ _ _ _ _ _ _ _ _ (p244 no true hno ⟨fun _ => e, fun _ => rfl⟩)
                have nay : ¬ hp_ty1 t ((q - p - 2) / 2 - 2 - hp_w t) → P243 (nI t) (nI (hp_w t)) (hp_b no) na nv (nI dn) (nI mo) (hp_b en) nhs nst (nI r) by' (nI ((q - p - 2) / 2)) 0 := fun e => h243 _ _ _ _ _ _ _ _ _ _ _ _ _ _ (p244 no false hno ⟨(fun y => by cases y), fun y => absurd y e⟩)
                apply h207
                refine ⟨fun t4 => nay ?_, fun t4 => ⟨fun t6 => nay ?_, fun t6 => ?_⟩⟩
                · have := (e8 (j := 4) (by omega)).mp t4
                  omega
                · have := (e8 (j := 6) (by omega)).mp t6
                  omega
                · have n4 : t ≠ 4 := fun e => t4 ((e8 (j := 4) (by omega)).mpr e)
                  have n6 : t ≠ 6 := fun e => t6 ((e8 (j := 6) (by omega)).mpr e)
                  cases no with
                  | false =>
                    have nn : ¬ (t = 5 ∨ t = 7 ∨ t = 8 ∨ t = 9) := fun z => absurd (hno.mpr z) (by decide)
                    exact ⟨fun _ => yes (by omega), fun z => absurd rfl z⟩
                  | true =>
                    have := hno.mp rfl
                    refine ⟨fun z => absurd z (by decide), fun _ => ⟨hp_v0, ?_⟩⟩
                    rw [sb_cl0, hby 0 (by omega), nI_1]
                    refine ⟨fun z => nay ?_, fun z => yes ?_⟩
                    · have : ¬ hp_B T p 2 0 = hp_w t + 1 := fun e => z (by rw [e])
                      omega
                    · have := (nI_eq (by omega) (by omega)).mp z
                      omega
              apply h171
              refine hp_fine0 (by decide) (fun _ => ⟨fun _ => ?_, fun z => absurd z (by decide)⟩) (fun z => absurd z (by decide))
              have p202 : (t = 5 ∨ t = 7 ∨ t = 8 ∨ t = 9) → P202 (nI t) (nI (hp_w t)) na nv (nI dn) (nI mo) (hp_b en) nhs nst (nI r) by' (nI ((q - p - 2) / 2)) 0 := fun e => h202 _ _ _ _ _ _ _ _ _ _ _ _ _ (p207 true ⟨fun _ => e, fun _ => rfl⟩)
              refine ⟨fun z => p202 (Or.inl ((e8 (j := 5) (by omega)).mp z)), fun z5 => ⟨fun z => p202 (Or.inr (Or.inl ((e8 (j := 7) (by omega)).mp z))), fun z7 => ⟨fun z => p202 (Or.inr (Or.inr (Or.inl ((e8 (j := 8) (by omega)).mp z)))), fun z8 => ⟨fun z9 => ?_, fun z => p202 (Or.inr (Or.inr (Or.inr ((e8 (j := 9) (by omega)).mp z))))⟩⟩⟩⟩
              refine p207 false ⟨(fun y => by cases y), fun y => ?_⟩
              exfalso
              rcases y with y | y | y | y
              · exact z5 ((e8 (j := 5) (by omega)).mpr y)
              · exact z7 ((e8 (j := 7) (by omega)).mpr y)
              · exact z8 ((e8 (j := 8) (by omega)).mpr y)
              · exact z9 ((e8 (j := 9) (by omega)).mpr y)
        · have hf2 : hp_f1 T p q = 2 := by
            unfold hp_f1
            rw [if_pos e83, if_neg (by omega), if_pos ht, if_neg ha]
          intro z _
          refine hp_wideM (by omega) ?_
          have p171 : ∀ x y, P171 (nI (T (p + 1) - 48)) x y na nv (nI dn) (nI mo) (hp_b en) nhs nst (nI r) by0 0 2 := fun x y => h171 _ _ _ _ _ _ _ _ _ _ _ _ _ _ (hp_fineF (by decide) ⟨fun z => absurd rfl z, fun _ => qc 2 _ _ _ _ _ _ _ _ _ _ (by decide) hf2⟩)
          have p170 : ∀ x, P170 (nI (T (p + 1) - 48)) x na nv (nI dn) (nI mo) (hp_b en) nhs nst (nI r) by0 0 2 := fun x => h170 _ _ _ _ _ _ _ _ _ _ _ _ _ (p171 x 0)
          exact ⟨fun _ => p170 _, fun _ => ⟨fun _ => p170 _, fun _ => ⟨hp_v0, fun _ => p170 _, fun _ => ⟨hp_v0, fun _ => p170 _, fun _ => p171 _ 1⟩⟩⟩⟩
end HPX
