/-! the reference reads a record of kind 0 -/
def hp_MS (M : Nat → Option Nat) (σ : hp_S) (na : Nat → Int64) (nv : Nat → Int32) (nsz fresh ended nhs : Int32) (nst base : Int64) (seg rc : Int32) : Prop :=
  match σ with
  | (N, dn, mo, st, en, ba, sg, r) => hp_ML M na nv N dn mo ∧ nsz = nI dn ∧ fresh = nI mo ∧ ((st = none ∧ nhs = 0) ∨ (∃ x, st = some x ∧ nhs = 1 ∧ nst = lN x ∧ x < 4294967296)) ∧ ended = hp_b en ∧ base = lN ba ∧ ba < 4294967296 ∧ seg = hp_b sg ∧ rc = nI r
theorem hp_v0 : vp_in (0 : Int32) 4100 := vp_in_nI (n := 0) (by decide) (by decide)
theorem hp_v3 : vp_in (3 : Int32) 4100 := vp_in_nI (n := 3) (by decide) (by decide)
theorem hp_bz0 : hx_bz 0 := ⟨rfl, rfl⟩
theorem hp_bz1 : hx_bz 1 := ⟨rfl, rfl⟩
section HPV
variable {f : Nat → Int32} {len p q : Nat} {T : Nat → Nat}
theorem hp_readColonM {a : Nat → Int64} {v : Nat → Int32} {n : Nat} {M : Nat → Option Nat} {A V : Nat → Nat} (h : hp_C a v n M A V) (hn : n ≤ 3000) (hT : hp_TX f len T) (hl : len ≤ 4096) (hq : q ≤ len) (hp : p < q) {σ : hp_S} {na : Nat → Int64} {nv : Nat → Int32} {nsz fresh ended nhs seg rc bc : Int32} {nst base : Int64} {by0 : Nat → Int32} (hs : hp_MS M σ na nv nsz fresh ended nhs nst base seg rc) (hd : σ.2.1 + 255 ≤ 3000) (hmo : n + σ.2.2.1 ≤ 3000) {Q : (Nat → Int64) → (Nat → Int32) → Int32 → Int32 → Int32 → Int32 → Int64 → Int64 → Int32 → (Nat → Int32) → Int32 → Int32 → Prop}
    (k : ∀ na' nv' nsz' fr' en' nhs' nst' ba' sg' by' bc', ((hp_r0 M n T p q σ).1 = 0 → hp_MS M (hp_r0 M n T p q σ).2 na' nv' nsz' fr' en' nhs' nst' ba' sg' rc) → Q na' nv' nsz' fr' en' nhs' nst' ba' sg' by' bc' (nI (hp_r0 M n T p q σ).1)) : hx_v_Model_readColon (nI p) (nI q) a (nI n) f na nv nsz fresh ended nhs nst base seg by0 bc 0 Q := by
  obtain ⟨N, dn, mo, st, en, ba, sg, r⟩ := σ
  obtain ⟨m1, rfl, rfl, mst, rfl, rfl, s9, rfl, rfl⟩ := hs
  dsimp only at hd hmo
  obtain ⟨res, hres⟩ : ∃ z, hp_r0 M n T p q (N, dn, mo, st, en, ba, sg, r) = z := ⟨_, rfl⟩
  rw [hres] at k
  unfold hp_r0 at hres
  dsimp only at hres
  have qf : ∀ c na' nv' nsz' fr' en' nhs' nst' ba' sg' by' bc', c ≠ 0 → res.1 = c → Q na' nv' nsz' fr' en' nhs' nst' ba' sg' by' bc' (nI c) := by
    intro c na' nv' nsz' fr' en' nhs' nst' ba' sg' by' bc' hc e
    have := k na' nv' nsz' fr' en' nhs' nst' ba' sg' by' bc' (fun z => absurd (e.symm.trans z) hc)
    rw [e] at this
    exact this
  have rf : hp_f0 T p q ≠ 0 → res.1 = hp_f0 T p q := by
    intro z
    rw [if_pos z] at hres
    subst hres
    rfl
  unfold hx_v_Model_readColon
  intro P17 P71 P72 P108 P120 P130 P142 P152 P156 P157 P182 P202 P227 P275 P303 P324 P360 P372 P398 P444 h17 h71 h72 h108 h120 h130 h142 h152 h156 h157 h182 h202 h227 h275 h303 h324 h360 h372 h398 h444
  have hTp := hT p (by omega)
  rw [hp_cl (by omega), hTp.1]
  refine ⟨vp_in_nI (by omega) (by omega), fun w => ?_, fun w => ?_⟩
  · have hne : ¬ T p = 58 := fun e => w (by rw [e]; rfl)
    have hf1 : hp_f0 T p q = 1 := by unfold hp_f0; rw [if_neg hne]
    apply h17
    exact hp_fine0 (by decide) (fun z => absurd rfl z) (fun _ => ⟨fun z => absurd rfl z, fun _ => qf 1 _ _ _ _ _ _ _ _ _ _ _ (by decide) (by rw [rf (by rw [hf1]; decide), hf1])⟩)
  · have e58 := (nI_eq (b := 58) (by omega) (by omega)).mp w
    apply h17
    refine hp_fine0 (by decide) (fun _ => ⟨fun _ => ?_, fun z => absurd z (by decide)⟩) (fun z => absurd z (by decide))
    rw [nI_1]
    refine hp_readDigits (s := 1) hT hl hq (by omega) (fun ha by' hby => ?_) (fun ha => ?_)
    · -- all digits
      have hfA : hp_f0 T p q = (if hp_bad0 T p q then 3 else if hp_ty0 (hp_B T p 1 3) (hp_B T p 1 0) then (if hp_sum (hp_B T p 1) ((q - p - 1) / 2) % 256 = 0 then 0 else 5) else 4) := by
        unfold hp_f0
        rw [if_pos e58, if_pos ha]
      intro z hz
      rw [pk_sub (by omega), show (1 : Int32) = nI 1 from rfl, pk_sub (by omega)] at hz
      subst hz
      rw [show (2 : Int32) = nI 2 from rfl, pk_rem (by omega) (by omega) (by omega)]
      have bad3 : hp_bad0 T p q → P71 na nv (nI dn) (nI mo) (hp_b en) nhs nst (lN ba) (hp_b sg) by' (nI ((q - p - 1) / 2)) 0 := by
        intro hb
        have hf3 : hp_f0 T p q = 3 := by rw [hfA, if_pos hb]
        apply h71
        apply h72
        exact hp_fine0 (by decide) (fun z => absurd rfl z) (fun _ => ⟨fun z => absurd rfl z, fun _ => qf 3 _ _ _ _ _ _ _ _ _ _ _ (by decide) (by rw [rf (by rw [hf3]; decide), hf3])⟩)
      have hB0 := hp_B_lt T p 1 0
      have hB3 := hp_B_lt T p 1 3
      refine ⟨fun w1 => bad3 (Or.inl fun e => w1 (by rw [e]; rfl)), fun w1 => ⟨fun w2 => bad3 (Or.inr (Or.inl ?_)), fun w2 => ⟨hp_v0, ?_⟩⟩⟩
      · have := (nI_ltI (b := 10) (by omega) (by omega)).mp w2
        omega
      · have g1 := (nI_eq (b := 0) (by omega) (by omega)).mp w1
        have g2 : ¬ q - p - 1 < 10 := fun e => w2 ((nI_ltI (b := 10) (by omega) (by omega)).mpr e)
        rw [sb_cl0, hby 0 (by omega), show (5 : Int32) = nI 5 from rfl, nI_add]
        refine ⟨fun w3 => bad3 (Or.inr (Or.inr fun e => w3 (by rw [e]))), fun w3 => ?_⟩
        have g3 := (nI_eq (by omega) (by omega)).mp w3
        have nb : ¬ hp_bad0 T p q := by
          intro e
          rcases e with e | e | e
          · exact e g1
          · omega
          · exact e g3
        rw [if_neg nb] at hfA
        apply h72
        refine hp_fine0 (by decide) (fun _ => ⟨fun _ => ⟨hp_v3, fun z hz => ?_⟩, fun z => absurd z (by decide)⟩) (fun z => absurd z (by decide))
        rw [show (3 : Int32).toNatClampNeg = 3 from rfl, hby 3 (by omega)] at hz
        subst hz
        rw [sb_cl0, hby 0 (by omega)]
        have n2 := hp_num_lt (hp_B_lt T p 1) 4 2
        have n6 := hp_num_lt (hp_B_lt T p 1) 6 2
        have n4 := hp_num_lt (hp_B_lt T p 1) 4 4
        have n1 := hp_num_lt (hp_B_lt T p 1) 1 2
        -- what follows a right form
        have body : hp_f0 T p q = 0 → hp_ty0 (hp_B T p 1 3) (hp_B T p 1 0) → en = false → hx_v_Model_isFine 1 6 0 (fun c204 f0_fault => ((¬ c204 = (0 : Int32)) → (((¬ nI (hp_B T p 1 3) = (0 : Int32)) → (((¬ nI (hp_B T p 1 3) = (1 : Int32)) → ((nI (hp_B T p 1 3) = (2 : Int32) → (P360 (nI (hp_B T p 1 3)) na nv (nI dn) (nI mo) (hp_b en) nhs nst (lN ba) (hp_b sg) by' (nI ((q - p - 1) / 2)) f0_fault)) ∧ ((¬ nI (hp_B T p 1 3) = (2 : Int32)) → (((¬ nI (hp_B T p 1 3) = (4 : Int32)) → (((¬ nI (hp_B T p 1 3) = (3 : Int32)) → (hx_v_Model_number (4 : Int32) (4 : Int32) by' (fun c441 => P444 c441 na nv (nI dn) (nI mo) (hp_b en) (1 : Int32) nst (lN ba) (hp_b sg) by' (nI ((q - p - 1) / 2)) f0_fault))) ∧ (nI (hp_B T p 1 3) = (3 : Int32) → (hx_v_Model_number (4 : Int32) (2 : Int32) by' (fun c423 => hx_v_Model_number (6 : Int32) (2 : Int32) by' (fun c431 => P444 (((16 : Int64) * c423) + c431) na nv (nI dn) (nI mo) (hp_b en) (1 : Int32) nst (lN ba) (hp_b sg) by' (nI ((q - p - 1) / 2)) f0_fault)))))) ∧ (nI (hp_B T p 1 3) = (4 : Int32) → (P360 (nI (hp_B T p 1 3)) na nv (nI dn) (nI mo) (hp_b en) nhs nst (lN ba) (hp_b sg) by' (nI ((q - p - 1) / 2)) f0_fault)))))) ∧ (nI (hp_B T p 1 3) = (1 : Int32) → (Q na nv (nI dn) (nI mo) (1 : Int32) nhs nst (lN ba) (hp_b sg) by' (nI ((q - p - 1) / 2)) f0_fault)))) ∧ (nI (hp_B T p 1 3) = (0 : Int32) → (hx_v_Model_number (1 : Int32) (2 : Int32) by' (fun c219 => P227 c219 (0 : Int32) na nv (nI dn) (nI mo) (hp_b en) nhs nst (lN ba) (hp_b sg) by' (nI ((q - p - 1) / 2)) f0_fault))))) ∧ (c204 = (0 : Int32) → (Q na nv (nI dn) (nI mo) (hp_b en) nhs nst (lN ba) (hp_b sg) by' (nI ((q - p - 1) / 2)) f0_fault))) := by
          intro hf0 hty hen
          rw [if_neg (by rw [hf0]; decide), if_neg (by rw [hen]; decide)] at hres
          refine hp_fine0 (by decide) (fun _ => ⟨fun _ => ⟨fun t0 => ⟨fun t1 => ⟨fun t2 => ?_, fun t2 => ⟨fun t4 => ⟨fun t3 => ?_, fun t3 => ?_⟩, fun t4 => ?_⟩⟩, fun t1 => ?_⟩, fun t0 => ?_⟩, fun z => absurd z (by decide)⟩) (fun z => absurd z (by decide))
          · -- 2
            have e2 := (nI_eq (b := 2) (by omega) (by omega)).mp t2
            rw [if_neg (by omega), if_neg (by omega), if_pos e2] at hres
            apply h360
            refine ⟨fun z => absurd t2 z, fun _ => ?_⟩
            apply h372
            refine ⟨hp_bz1, hp_numM (i := 4) (n := 2) (hp_B_lt T p 1) (by omega) (by omega) (fun j hj => hby _ (by rcases hty with y | y | y | y <;> omega)) ⟨fun z => absurd z (by decide), fun _ => ?_⟩⟩
            apply h398
            rw [hp_m16]
            subst hres
            exact k _ _ _ _ _ _ _ _ _ _ _ (fun _ => ⟨m1, rfl, rfl, mst, rfl, rfl, by omega, rfl, rfl⟩)
          · -- 5
            have e5 : hp_B T p 1 3 = 5 := by
              rcases hty with y | y | y | y
              · exact absurd (by rw [y]; rfl) t0
              · exact absurd (by rw [y.1]; rfl) t1
              · rcases y.1 with x | x
                · exact absurd (by rw [x]; rfl) t2
                · exact absurd (by rw [x]; rfl) t4
              · rcases y.1 with x | x
                · exact absurd (by rw [x]; rfl) t3
                · exact x
            rw [if_neg (by omega), if_neg (by omega), if_neg (by omega), if_neg (by omega), if_neg (by omega)] at hres
            refine hp_numM (i := 4) (n := 4) (hp_B_lt T p 1) (by omega) (by omega) (fun j hj => hby _ (by rcases hty with y | y | y | y <;> omega)) ?_
            apply h444
            subst hres
            exact k _ _ _ _ _ _ _ _ _ _ _ (fun _ => ⟨m1, rfl, rfl, Or.inr ⟨_, rfl, rfl, rfl, by omega⟩, rfl, rfl, s9, rfl, rfl⟩)
          · -- 3
            have e3 := (nI_eq (b := 3) (by omega) (by omega)).mp t3
            rw [if_neg (by omega), if_neg (by omega), if_neg (by omega), if_pos e3] at hres
            refine hp_numM (i := 4) (n := 2) (hp_B_lt T p 1) (by omega) (by omega) (fun j hj => hby _ (by rcases hty with y | y | y | y <;> omega)) (hp_numM (i := 6) (n := 2) (hp_B_lt T p 1) (by omega) (by omega) (fun j hj => hby _ (by rcases hty with y | y | y | y <;> omega)) ?_)
            apply h444
            rw [show (16 : Int64) = lN 16 from rfl, lN_mul, lN_add]
            subst hres
            exact k _ _ _ _ _ _ _ _ _ _ _ (fun _ => ⟨m1, rfl, rfl, Or.inr ⟨_, rfl, rfl, rfl, by omega⟩, rfl, rfl, s9, rfl, rfl⟩)
          · -- 4
            have e4 := (nI_eq (b := 4) (by omega) (by omega)).mp t4
            rw [if_neg (by omega), if_neg (by omega), if_neg (by omega), if_neg (by omega), if_pos e4] at hres
            apply h360
            refine ⟨fun _ => ?_, fun z => absurd z t2⟩
            apply h372
            refine ⟨hp_bz0, hp_numM (i := 4) (n := 2) (hp_B_lt T p 1) (by omega) (by omega) (fun j hj => hby _ (by rcases hty with y | y | y | y <;> omega)) ⟨fun _ => ?_, fun z => absurd rfl z⟩⟩
            apply h398
            rw [show (65536 : Int64) = lN 65536 from rfl, lN_mul, Nat.mul_comm]
            subst hres
            exact k _ _ _ _ _ _ _ _ _ _ _ (fun _ => ⟨m1, rfl, rfl, mst, rfl, rfl, by omega, rfl, rfl⟩)
          · -- 1
            have e1 := (nI_eq (b := 1) (by omega) (by omega)).mp t1
            rw [if_neg (by omega), if_pos e1] at hres
            subst hres
            exact k _ _ _ _ _ _ _ _ _ _ _ (fun _ => ⟨m1, rfl, rfl, mst, rfl, rfl, s9, rfl, rfl⟩)
          · -- 0: data
            have e0 := (nI_eq (b := 0) (by omega) (by omega)).mp t0
            rw [if_pos e0] at hres
            unfold hp_data at hres
            dsimp only at hres
            refine hp_numM (i := 1) (n := 2) (hp_B_lt T p 1) (by omega) (by omega) (fun j hj => hby _ (by omega)) ?_
            have adlt : ∀ t, hp_ad0 ba sg (hp_num (hp_B T p 1) 1 2) t < 4294967296 := fun t => Nat.mod_lt _ (by decide)
            have adis : ∀ i j, i < j → j < hp_B T p 1 0 → hp_ad0 ba sg (hp_num (hp_B T p 1) 1 2) i ≠ hp_ad0 ba sg (hp_num (hp_B T p 1) 1 2) j := by
              intro i j hij hj
              unfold hp_ad0
              cases sg
              · simp only [Bool.false_eq_true, if_false]
                omega
              · simp only [if_true]
                omega
            generalize had : hp_ad0 ba sg (hp_num (hp_B T p 1) 1 2) = ad at hres adlt adis
            have hrl := hp_rem_le M ad (hp_B T p 1 0)
            -- behind the loop with fault 8
            have f8 : (∃ t, t < hp_B T p 1 0 ∧ N (ad t) ≠ none) → ∀ t na' nv' nsz' fr', P227 (lN (hp_num (hp_B T p 1) 1 2)) t na' nv' nsz' fr' (hp_b en) nhs nst (lN ba) (hp_b sg) by' (nI ((q - p - 1) / 2)) 8 := by
              intro hb t na' nv' nsz' fr'
              have hr8 : res.1 = 8 := by
                rw [if_neg fun hall => by obtain ⟨t, ht, z⟩ := hb; exact z (hall t ht).2] at hres
                subst hres
                rfl
              have p303 : P303 na' nv' nsz' fr' (hp_b en) nhs nst (lN ba) (hp_b sg) by' (nI ((q - p - 1) / 2)) 8 := by
                apply h303
                refine ⟨fun _ => ?_, fun _ => ?_⟩
                · apply h324
                  exact hp_fineF (by decide) (qf 8 _ _ _ _ _ _ _ _ _ _ _ (by decide) hr8)
                · apply h324
                  exact hp_fineF (by decide) (qf 8 _ _ _ _ _ _ _ _ _ _ _ (by decide) hr8)
              apply h227
              exact ⟨hp_v0, fun _ => p303, fun _ => ⟨fun _ => p303, fun z => absurd z (by decide)⟩⟩
            have key : ∀ d t na' nv', hp_B T p 1 0 - t ≤ d → t ≤ hp_B T p 1 0 → (∀ s, s < t → N (ad s) = none) → hp_ML M na' nv' (hp_ins N ad (fun t => hp_B T p 1 (4 + t)) t) (dn + t) (mo + hp_rem M ad t) → P227 (lN (hp_num (hp_B T p 1) 1 2)) (nI t) na' nv' (nI (dn + t)) (nI (mo + hp_rem M ad t)) (hp_b en) nhs nst (lN ba) (hp_b sg) by' (nI ((q - p - 1) / 2)) 0 := by
              intro d
              have fin : ∀ na' nv', (∀ s, s < hp_B T p 1 0 → N (ad s) = none) → hp_ML M na' nv' (hp_ins N ad (fun t => hp_B T p 1 (4 + t)) (hp_B T p 1 0)) (dn + hp_B T p 1 0) (mo + hp_rem M ad (hp_B T p 1 0)) → P303 na' nv' (nI (dn + hp_B T p 1 0)) (nI (mo + hp_rem M ad (hp_B T p 1 0))) (hp_b en) nhs nst (lN ba) (hp_b sg) by' (nI ((q - p - 1) / 2)) 0 := by
                intro na' nv' hall hml
                rw [if_pos (fun t ht => ⟨adlt t, hall t ht⟩)] at hres
                apply h303
                rw [nI_add]
                refine ⟨fun w9 => ?_, fun w9 => ?_⟩
                · have := (nI_ltI (a := 3000) (by omega) (by omega)).mp w9
                  rw [if_neg (by omega)] at hres
                  apply h324
                  exact hp_fine0 (by decide) (fun z => absurd rfl z) (fun _ => qf 9 _ _ _ _ _ _ _ _ _ _ _ (by decide) (by subst hres; rfl))
                · have : ¬ 3000 < n + (mo + hp_rem M ad (hp_B T p 1 0)) := fun z => w9 ((nI_ltI (a := 3000) (by omega) (by omega)).mpr z)
                  rw [if_pos (by omega)] at hres
                  apply h324
                  refine hp_fine0 (by decide) (fun _ => ?_) (fun z => absurd z (by decide))
                  subst hres
                  exact k _ _ _ _ _ _ _ _ _ _ _ (fun _ => ⟨hml, rfl, rfl, mst, rfl, rfl, s9, rfl, rfl⟩)
              induction d with
              | zero =>
                intro t na' nv' hdt ht hall hml
                apply h227
                rw [sb_cl0, hby 0 (by omega)]
                obtain rfl : t = hp_B T p 1 0 := by omega
                exact ⟨hp_v0, fun _ => fin na' nv' hall hml, fun z => absurd (nI_le (Nat.le_refl _) (by omega)) z⟩
              | succ d ih =>
                intro t na' nv' hdt ht hall hml
                apply h227
                rw [sb_cl0, hby 0 (by omega)]
                refine ⟨hp_v0, fun z => ?_, fun z => ⟨fun y => absurd rfl y, fun _ => ?_⟩⟩
                · have := (nI_leI (by omega) (by omega)).mp z
                  obtain rfl : t = hp_B T p 1 0 := by omega
                  exact fin na' nv' hall hml
                · have hlt : t < hp_B T p 1 0 := Nat.not_le.mp fun u => z (nI_le u (by omega))
                  have step : ∀ y, (ba + y) % 4294967296 = ad t → y < 4294967296 → P275 (lN (hp_num (hp_B T p 1) 1 2)) (nI t) (lN y) (lN ba) na' nv' (nI (dn + t)) (nI (mo + hp_rem M ad t)) (hp_b en) nhs nst (lN ba) (hp_b sg) by' (nI ((q - p - 1) / 2)) 0 := by
                    intro y hy hy32
                    apply h275
                    intro z hz
                    rw [lN_add] at hz
                    subst hz
                    rw [show (4 : Int32) + nI t = nI (4 + t) from nI_add 4 t, hp_cl (by omega), hby (4 + t) (by omega), show (4294967296 : Int64) = lN 4294967296 from rfl, pk_lRem (by omega) (by omega) (by omega), hy]
                    have hat := adlt t
                    refine ⟨vp_in_nI (by omega) (by omega), hp_putNew h hn hml (by omega) (by omega) (hp_B_lt T p 1 (4 + t)) (fun hb => ?_) (fun _ hN' na2 nv2 hml2 => ?_)⟩
                    · refine f8 ⟨t, hlt, ?_⟩ _ _ _ _ _
                      rcases hb with hb | hb
                      · omega
                      · rw [hp_ins_out _ _ _ _ t (fun j hj => adis j t hj hlt)] at hb
                        exact hb
                    · rw [hp_ins_out _ _ _ _ t (fun j hj => adis j t hj hlt)] at hN'
                      rw [nI_1]
                      rw [Nat.add_assoc mo] at hml2 ⊢
                      refine ih (t + 1) na2 nv2 (by omega) (by omega) (fun s hs => ?_) hml2
                      by_cases e : s = t
                      · rw [e]; exact hN'
                      · exact hall s (by omega)
                  rw [hp_ladd (by omega)]
                  refine ⟨fun ws => step _ ?_ (by omega), fun ws => ?_⟩
                  · have e := hp_b_0.mp ws
                    rw [← had, e]
                    rfl
                  · have e : sg = true := by
                      cases sg with
                      | true => rfl
                      | false => exact absurd rfl ws
                    rw [show (65536 : Int64) = lN 65536 from rfl, pk_lRem (by omega) (by omega) (by omega)]
                    refine step _ ?_ (by omega)
                    rw [← had, e]
                    rfl
            exact key _ 0 na nv (Nat.sub_le _ _) (by omega) (fun s hs => absurd hs (by omega)) m1
        have p157 : ∀ y : Bool, (y = true ↔ hp_ty0 (hp_B T p 1 3) (hp_B T p 1 0)) → P157 (nI (hp_B T p 1 3)) (hp_b y) na nv (nI dn) (nI mo) (hp_b en) nhs nst (lN ba) (hp_b sg) by' (nI ((q - p - 1) / 2)) 0 := by
          intro y hy
          apply h157
          cases y with
          | false =>
            have hnt : ¬ hp_ty0 (hp_B T p 1 3) (hp_B T p 1 0) := fun z => absurd (hy.mpr z) (by decide)
            rw [if_neg hnt] at hfA
            exact hp_fine0 (by decide) (fun z => absurd rfl z) (fun _ => ⟨fun _ => qf 4 _ _ _ _ _ _ _ _ _ _ _ (by decide) (by rw [rf (by rw [hfA]; decide), hfA]), fun z => absurd rfl z⟩)
          | true =>
            have hty := hy.mp rfl
            rw [if_pos hty] at hfA
            refine hp_fine0 (by decide) (fun _ => ⟨fun z => absurd z (by decide), fun _ => ?_⟩) (fun z => absurd z (by decide))
            refine hp_sumM (hp_B_lt T p 1) (by omega) hby ⟨fun ws => ?_, fun ws => ?_⟩
            · have hs5 : ¬ hp_sum (hp_B T p 1) ((q - p - 1) / 2) % 256 = 0 := fun e => ws (by rw [e]; rfl)
              rw [if_neg hs5] at hfA
              apply h182
              exact hp_fine0 (by decide) (fun z => absurd rfl z) (fun _ => ⟨fun _ => qf 5 _ _ _ _ _ _ _ _ _ _ _ (by decide) (by rw [rf (by rw [hfA]; decide), hfA]), fun z => absurd rfl z⟩)
            · have hs0 := (nI_eq (b := 0) (by omega) (by omega)).mp ws
              rw [if_pos hs0] at hfA
              apply h182
              refine hp_fine0 (by decide) (fun _ => ⟨fun z => absurd z (by decide), fun _ => ⟨fun we => ?_, fun we => ?_⟩⟩) (fun z => absurd z (by decide))
              · have hen : en = true := by
                  cases en with
                  | true => rfl
                  | false => exact absurd rfl we
                apply h202
                refine hp_fine0 (by decide) (fun z => absurd rfl z) (fun _ => ⟨fun z => absurd rfl z, fun _ => qf 6 _ _ _ _ _ _ _ _ _ _ _ (by decide) ?_⟩)
                rw [if_neg (by rw [hfA]; decide), if_pos hen] at hres
                subst hres
                rfl
              · apply h202
                exact body hfA hty (hp_b_0.mp we)
        have hP152 : hp_ty0 (hp_B T p 1 3) (hp_B T p 1 0) → P152 (nI (hp_B T p 1 3)) na nv (nI dn) (nI mo) (hp_b en) nhs nst (lN ba) (hp_b sg) by' (nI ((q - p - 1) / 2)) 0 := fun e => h152 _ _ _ _ _ _ _ _ _ _ _ _ _ (p157 true ⟨fun _ => e, fun _ => rfl⟩)
        have hP156 : ¬ hp_ty0 (hp_B T p 1 3) (hp_B T p 1 0) → P156 (nI (hp_B T p 1 3)) na nv (nI dn) (nI mo) (hp_b en) nhs nst (lN ba) (hp_b sg) by' (nI ((q - p - 1) / 2)) 0 := fun e => h156 _ _ _ _ _ _ _ _ _ _ _ _ _ (p157 false ⟨(fun y => by cases y), fun y => absurd y e⟩)
        have t8 : ∀ {j : Nat}, j < 256 → (nI (hp_B T p 1 3) = nI j ↔ hp_B T p 1 3 = j) := fun hj => nI_eq (by omega) (by omega)
        have b8 : ∀ {j : Nat}, j < 256 → (nI (hp_B T p 1 0) = nI j ↔ hp_B T p 1 0 = j) := fun hj => nI_eq (by omega) (by omega)
        have hP142 : (hp_B T p 1 3 = 3 ∨ hp_B T p 1 3 = 5) → P142 (nI (hp_B T p 1 3)) na nv (nI dn) (nI mo) (hp_b en) nhs nst (lN ba) (hp_b sg) by' (nI ((q - p - 1) / 2)) 0 := by
          intro e
          apply h142
          rw [sb_cl0, hby 0 (by omega)]
          exact ⟨hp_v0, fun z => hP156 (by have : hp_B T p 1 0 ≠ 4 := fun y => z ((b8 (j := 4) (by omega)).mpr y); omega), fun z => hP152 (by have := (b8 (j := 4) (by omega)).mp z; omega)⟩
        have hP130 : hp_B T p 1 3 ≠ 0 → ¬ (hp_B T p 1 3 = 1 ∧ hp_B T p 1 0 = 0) → ¬ ((hp_B T p 1 3 = 2 ∨ hp_B T p 1 3 = 4) ∧ hp_B T p 1 0 = 2) → P130 (nI (hp_B T p 1 3)) na nv (nI dn) (nI mo) (hp_b en) nhs nst (lN ba) (hp_b sg) by' (nI ((q - p - 1) / 2)) 0 := by
          intro n0 n1 n2
          apply h130
          refine ⟨fun z => hP142 (Or.inl ((t8 (j := 3) (by omega)).mp z)), fun z => ⟨fun y => hP156 ?_, fun y => hP142 (Or.inr ((t8 (j := 5) (by omega)).mp y))⟩⟩
          have g3 : hp_B T p 1 3 ≠ 3 := fun x => z ((t8 (j := 3) (by omega)).mpr x)
          have g5 : hp_B T p 1 3 ≠ 5 := fun x => y ((t8 (j := 5) (by omega)).mpr x)
          omega
        have hP120 : (hp_B T p 1 3 = 2 ∨ hp_B T p 1 3 = 4) → P120 (nI (hp_B T p 1 3)) na nv (nI dn) (nI mo) (hp_b en) nhs nst (lN ba) (hp_b sg) by' (nI ((q - p - 1) / 2)) 0 := by
          intro e
          apply h120
          rw [sb_cl0, hby 0 (by omega)]
          exact ⟨hp_v0, fun z => hP152 (by have := (b8 (j := 2) (by omega)).mp z; omega), fun z => hP130 (by omega) (by omega) (by have : hp_B T p 1 0 ≠ 2 := fun y => z ((b8 (j := 2) (by omega)).mpr y); omega)⟩
        have hP108 : hp_B T p 1 3 ≠ 0 → ¬ (hp_B T p 1 3 = 1 ∧ hp_B T p 1 0 = 0) → P108 (nI (hp_B T p 1 3)) na nv (nI dn) (nI mo) (hp_b en) nhs nst (lN ba) (hp_b sg) by' (nI ((q - p - 1) / 2)) 0 := by
          intro n0 n1
          apply h108
          refine ⟨fun z => hP120 (Or.inl ((t8 (j := 2) (by omega)).mp z)), fun z => ⟨fun y => hP130 n0 n1 ?_, fun y => hP120 (Or.inr ((t8 (j := 4) (by omega)).mp y))⟩⟩
          have g2 : hp_B T p 1 3 ≠ 2 := fun x => z ((t8 (j := 2) (by omega)).mpr x)
          have g4 : hp_B T p 1 3 ≠ 4 := fun x => y ((t8 (j := 4) (by omega)).mpr x)
          omega
        refine ⟨fun z => hP152 (Or.inl ((t8 (j := 0) (by omega)).mp z)), fun z => ?_⟩
        have n0 : hp_B T p 1 3 ≠ 0 := fun x => z ((t8 (j := 0) (by omega)).mpr x)
        refine ⟨fun y => hP108 n0 (fun x => y ((t8 (j := 1) (by omega)).mpr x.1)), fun y => ?_⟩
        have e1 := (t8 (j := 1) (by omega)).mp y
        exact ⟨hp_v0, fun x => hP152 (Or.inr (Or.inl ⟨e1, (b8 (j := 0) (by omega)).mp x⟩)), fun x => hP108 n0 (fun u => x ((b8 (j := 0) (by omega)).mpr u.2))⟩
    · -- not all digits: fault 2
      have hf2 : hp_f0 T p q = 2 := by
        unfold hp_f0
        rw [if_pos e58, if_neg ha]
      have p72 : ∀ y, P72 y na nv (nI dn) (nI mo) (hp_b en) nhs nst (lN ba) (hp_b sg) by0 0 2 := fun y => h72 _ _ _ _ _ _ _ _ _ _ _ _ _ (hp_fineF (by decide) ⟨fun z => absurd rfl z, fun _ => qf 2 _ _ _ _ _ _ _ _ _ _ _ (by decide) (by rw [rf (by rw [hf2]; decide), hf2])⟩)
      have p71 : P71 na nv (nI dn) (nI mo) (hp_b en) nhs nst (lN ba) (hp_b sg) by0 0 2 := h71 _ _ _ _ _ _ _ _ _ _ _ _ (p72 0)
      intro z _
      exact ⟨fun _ => p71, fun _ => ⟨fun _ => p71, fun _ => ⟨hp_v0, fun _ => p71, fun _ => p72 1⟩⟩⟩
end HPV
