/-! the reference reads a text -/
def hp_SM (s : Option Nat) (hs : Int32) (st : Int64) : Prop := (s = none ∧ hs = 0) ∨ (∃ x, s = some x ∧ hs = 1 ∧ st = lN x ∧ x < 4294967296)
noncomputable def hp_stp (kind : Nat) (M : Nat → Option Nat) (n : Nat) (T : Nat → Nat) : Nat → Nat → hp_S → Nat × hp_S := if kind = 0 then hp_r0 M n T else hp_r1 M n T
theorem hp_ins_over {M N : Nat → Option Nat} {X Y : Nat → Nat} {ns : Nat} (m1 : ∀ k, k < ns → N (X k) = some (Y k)) (m2 : ∀ x y, N x = some y → ∃ k, k < ns ∧ X k = x) (m3 : ∀ j k, j < k → k < ns → X j ≠ X k) : hp_ins M X Y ns = hp_over M N := by
  funext x
  unfold hp_over
  cases q : N x with
  | none =>
    refine hp_ins_out M X Y x ns (fun s hs e => ?_)
    have := m1 s hs
    rw [e, q] at this
    cases this
  | some y =>
    obtain ⟨k, hk, e⟩ := m2 x y q
    have h1 := m1 k hk
    rw [e, q] at h1
    rw [← e, hp_ins_in M X Y ns hk m3]
    exact h1.symm
/-- a record leaves at most half its length in new bytes, and the count within 3000 -/
theorem hp_data_sz {M : Nat → Option Nat} {n : Nat} {ad val : Nat → Nat} {cnt : Nat} {σ : hp_S} (h : (hp_data M n ad val cnt σ).1 = 0) : (hp_data M n ad val cnt σ).2.2.1 = σ.2.1 + cnt ∧ n + (hp_data M n ad val cnt σ).2.2.2.1 ≤ 3000 ∧ (hp_data M n ad val cnt σ).2.2.2.2.2.2.2.2 = σ.2.2.2.2.2.2.2 := by
  obtain ⟨N, dn, mo, st, en, ba, sg, r⟩ := σ
  unfold hp_data at h ⊢
  dsimp only at h ⊢
  split at h
  · split at h
    · rename_i h1 h2
      rw [if_pos h1, if_pos h2]
      refine ⟨rfl, ?_, rfl⟩
      dsimp only
      omega
    · cases h
  · cases h
theorem hp_r0_sz {M : Nat → Option Nat} {n : Nat} {T : Nat → Nat} {p q : Nat} {σ : hp_S} (h : (hp_r0 M n T p q σ).1 = 0) (hm : n + σ.2.2.1 ≤ 3000) : (hp_r0 M n T p q σ).2.2.1 ≤ σ.2.1 + (q - p) / 2 ∧ n + (hp_r0 M n T p q σ).2.2.2.1 ≤ 3000 ∧ (hp_r0 M n T p q σ).2.2.2.2.2.2.2.2 = σ.2.2.2.2.2.2.2 := by
  obtain ⟨N, dn, mo, st, en, ba, sg, r⟩ := σ
  dsimp only at hm
  have hB := hp_B_lt T p 1 0
  by_cases hf : hp_f0 T p q = 0
  · have hlen : hp_B T p 1 0 ≤ (q - p) / 2 := by
      unfold hp_f0 at hf
      split at hf
      · split at hf
        · split at hf
          · cases hf
          · rename_i hb
            have : (q - p - 1) / 2 = hp_B T p 1 0 + 5 := Decidable.byContradiction fun z => hb (Or.inr (Or.inr z))
            omega
        · cases hf
      · cases hf
    unfold hp_r0 at h ⊢
    dsimp only at h ⊢
    rw [if_neg (by rw [hf]; decide)] at h ⊢
    by_cases h1 : en = true
    · rw [if_pos h1] at h
      cases h
    · rw [if_neg h1] at h ⊢
      by_cases h2 : hp_B T p 1 3 = 0
      · rw [if_pos h2] at h ⊢
        have := hp_data_sz h
        refine ⟨?_, this.2.1, this.2.2⟩
        rw [this.1]
        show dn + _ ≤ dn + _
        omega
      · rw [if_neg h2]
        repeat' split
        all_goals exact ⟨by dsimp only; omega, hm, rfl⟩
  · exfalso
    unfold hp_r0 at h
    dsimp only at h
    rw [if_pos hf] at h
    exact hf h
theorem hp_r1_sz {M : Nat → Option Nat} {n : Nat} {T : Nat → Nat} {p q : Nat} {σ : hp_S} (h : (hp_r1 M n T p q σ).1 = 0) (hm : n + σ.2.2.1 ≤ 3000) : (hp_r1 M n T p q σ).2.2.1 ≤ σ.2.1 + (q - p) / 2 ∧ n + (hp_r1 M n T p q σ).2.2.2.1 ≤ 3000 ∧ (hp_r1 M n T p q σ).2.2.2.2.2.2.2.2 ≤ σ.2.2.2.2.2.2.2 + 1 := by
  obtain ⟨N, dn, mo, st, en, ba, sg, r⟩ := σ
  dsimp only at hm
  by_cases hf : hp_f1 T p q = 0
  · unfold hp_r1 at h ⊢
    dsimp only at h ⊢
    rw [if_neg (by rw [hf]; decide)] at h ⊢
    by_cases h1 : en = true
    · rw [if_pos h1] at h
      cases h
    · rw [if_neg h1] at h ⊢
      by_cases h2 : T (p + 1) - 48 = 0
      · rw [if_pos h2]
        exact ⟨by dsimp only; omega, hm, by dsimp only; omega⟩
      · rw [if_neg h2] at h ⊢
        by_cases h3 : T (p + 1) - 48 = 5
        · rw [if_pos h3]
          exact ⟨by dsimp only; omega, hm, by dsimp only; omega⟩
        · rw [if_neg h3] at h ⊢
          by_cases h4 : 7 ≤ T (p + 1) - 48
          · rw [if_pos h4]
            exact ⟨by dsimp only; omega, hm, by dsimp only; omega⟩
          · rw [if_neg h4] at h ⊢
            have := hp_data_sz h
            refine ⟨?_, this.2.1, ?_⟩
            · rw [this.1]
              show dn + _ ≤ dn + _
              omega
            · rw [this.2.2]
              exact Nat.le_refl _
  · exfalso
    unfold hp_r1 at h
    dsimp only at h
    rw [if_pos hf] at h
    exact hf h
section HPY
variable {f : Nat → Int32} {len : Nat} {T : Nat → Nat}
theorem hp_readM {a : Nat → Int64} {v : Nat → Int32} {n : Nat} {M : Nat → Option Nat} {A V : Nat → Nat} (h : hp_C a v n M A V) (hn : n ≤ 3000) (hT : hp_TX f len T) (hl : len ≤ 4096) {kind : Nat} (hk : kind ≤ 1) {s : Option Nat} {hs : Int32} {st : Int64} (hsm : hp_SM s hs st) {na : Nat → Int64} {nv : Nat → Int32} {nsz0 fr0 en0 nhs0 sg0 rc0 bc0 fa0 pl0 : Int32} {nst0 ba0 : Int64} {by0 : Nat → Int32} {Q : Int32 → Int32 → (Nat → Int64) → (Nat → Int32) → Int32 → Int32 → Int64 → Int32 → Int32 → (Nat → Int64) → (Nat → Int32) → Int32 → Int32 → Int32 → Int32 → Int64 → Int64 → Int32 → Int32 → (Nat → Int32) → Int32 → Int32 → Prop}
    (kf : ∀ c pl σ' na' nv' nsz fr en nhs nst ba sg rc by' bc fa, hp_RD (hp_stp kind M n T) T len (len + 1) 0 0 hp_S0 c pl σ' → c ≠ 0 → Q (nI c) 0 a v (nI n) hs st 0 (nI pl) na' nv' nsz fr en nhs nst ba sg rc by' bc fa)
    (k0 : ∀ pl σ' a' v' hs' st' na' nv' nsz fr en nhs nst ba sg rc by' bc fa, hp_RD (hp_stp kind M n T) T len (len + 1) 0 0 hp_S0 0 pl σ' → hp_R a' v' (n + σ'.2.2.1) (hp_over M σ'.1) → hp_SM (σ'.2.2.2.1 <|> s) hs' st' → Q 0 0 a' v' (nI (n + σ'.2.2.1)) hs' st' 0 (-1) na' nv' nsz fr en nhs nst ba sg rc by' bc fa) :
    hx_v_Model_read (nI kind) a v (nI n) hs st f (nI len) pl0 na nv nsz0 fr0 en0 nhs0 nst0 ba0 sg0 rc0 by0 bc0 fa0 Q := by
  unfold hx_v_Model_read hx_v_Model_beginText
  intro P32 P47 P71 P98 P119 P122 P130 P156 P204 P209 P231 h32 h47 h71 h98 h119 h122 h130 h156 h204 h209 h231
  refine ⟨fun w => absurd w (nI_pos (by omega)), fun _ => ⟨fun _ => ?_, fun w => absurd (show nI kind ≤ nI 1 from nI_le (by omega) (by omega)) w⟩⟩
  -- the end of a text with a fault
  have endF : ∀ c pl σ' na' nv' nsz fr en nhs nst ba sg rc by' bc, hp_RD (hp_stp kind M n T) T len (len + 1) 0 0 hp_S0 c pl σ' → c ≠ 0 → c < 11 → P130 0 a v (nI n) hs st 0 (nI pl) na' nv' nsz fr en nhs nst ba sg rc by' bc (nI c) := by
    intro c pl σ' na' nv' nsz fr en nhs nst ba sg rc by' bc hr hc hc11
    apply h130
    exact hp_fineF (fun e => hc ((nI_eq (b := 0) (by omega) (by omega)).mp e)) ⟨fun z => absurd rfl z, fun _ => kf c pl σ' _ _ _ _ _ _ _ _ _ _ _ _ _ hr hc⟩
  -- without one
  have end0 : ∀ nr σ na' nv' nsz fr en nhs nst ba sg rc by' bc, hp_MS M σ na' nv' nsz fr en nhs nst ba sg rc → n + σ.2.2.1 ≤ 3000 → σ.2.1 ≤ 3000 → (∀ c pl σ', (c = (if σ.2.2.2.2.1 = true then 0 else 10) ∧ pl = nr ∧ σ' = σ) → hp_RD (hp_stp kind M n T) T len (len + 1) 0 0 hp_S0 c pl σ') → P130 0 a v (nI n) hs st 0 (nI nr) na' nv' nsz fr en nhs nst ba sg rc by' bc 0 := by
    intro nr σ na' nv' nsz fr en nhs nst ba sg rc by' bc hms hmo hdn hrd
    obtain ⟨N, dn, mo, st', en', ba', sg', r⟩ := σ
    obtain ⟨⟨X, Y, m1, m2, m3, m4⟩, rfl, rfl, mst, rfl, rfl, s9, rfl, rfl⟩ := hms
    dsimp only at hmo hdn hrd
    apply h130
    cases en' with
    | false => exact hp_fine0 (by decide) (fun z => absurd rfl z) (fun _ => ⟨fun z => absurd rfl z, fun _ => kf 10 nr _ _ _ _ _ _ _ _ _ _ _ _ _ _ (hrd 10 nr _ ⟨rfl, rfl, rfl⟩) (by decide)⟩)
    | true =>
      refine hp_fine0 (by decide) (fun _ => ⟨fun _ => ?_, fun z => absurd z (by decide)⟩) (fun z => absurd z (by decide))
      have hr := hrd 0 nr _ ⟨rfl, rfl, rfl⟩
      subst m4
      have key : ∀ d k a' v', dn - k ≤ d → k ≤ dn → hp_R a' v' (n + hp_rem M X k) (hp_ins M X Y k) → P156 (nI k) 0 a' v' (nI (n + hp_rem M X k)) hs st 0 (-1) na' nv' (nI dn) (nI (hp_rem M X dn)) (hp_b true) nhs nst (lN ba') (hp_b sg') (nI r) by' bc 0 := by
        intro d
        have fin : ∀ a' v', hp_R a' v' (n + hp_rem M X dn) (hp_ins M X Y dn) → (((¬ hs = (0 : Int32)) → (P204 0 a' v' (nI (n + hp_rem M X dn)) hs st 0 (-1) na' nv' (nI dn) (nI (hp_rem M X dn)) (hp_b true) nhs nst (lN ba') (hp_b sg') (nI r) by' bc 0)) ∧ (hs = (0 : Int32) → ((nhs = (0 : Int32) → (P209 (0 : Int32) 0 a' v' (nI (n + hp_rem M X dn)) hs st 0 (-1) na' nv' (nI dn) (nI (hp_rem M X dn)) (hp_b true) nhs nst (lN ba') (hp_b sg') (nI r) by' bc 0)) ∧ ((¬ nhs = (0 : Int32)) → (P204 0 a' v' (nI (n + hp_rem M X dn)) hs st 0 (-1) na' nv' (nI dn) (nI (hp_rem M X dn)) (hp_b true) nhs nst (lN ba') (hp_b sg') (nI r) by' bc 0))))) := by
          intro a' v' hR
          rw [hp_ins_over (fun k hk => (m1 k hk).2.2.2.2) m2 m3] at hR
          have go : ∀ hs' y, hp_SM (st' <|> s) hs' y → P231 y 0 a' v' (nI (n + hp_rem M X dn)) hs' st 0 (-1) na' nv' (nI dn) (nI (hp_rem M X dn)) (hp_b true) nhs nst (lN ba') (hp_b sg') (nI r) by' bc 0 := by
            intro hs' y hy
            apply h231
            exact k0 nr _ a' v' hs' y _ _ _ _ _ _ _ _ _ _ _ _ _ hr hR hy
          have p209 : ∀ hs', hx_bz hs' → (∀ y, (nhs = 0 → y = st) → (¬ nhs = 0 → y = nst) → hp_SM (st' <|> s) hs' y) → P209 hs' 0 a' v' (nI (n + hp_rem M X dn)) hs st 0 (-1) na' nv' (nI dn) (nI (hp_rem M X dn)) (hp_b true) nhs nst (lN ba') (hp_b sg') (nI r) by' bc 0 := by
            intro hs' hb hy
            apply h209
            exact ⟨hb, fun z => go hs' st (hy st (fun _ => rfl) (fun w => absurd z w)), fun z => go hs' nst (hy nst (fun w => absurd w z) (fun _ => rfl))⟩
          refine ⟨fun z => ?_, fun z => ⟨fun y => ?_, fun y => ?_⟩⟩
          · apply h204
            refine p209 1 hp_bz1 (fun y y0 y1 => ?_)
            rcases mst with ⟨e1, e2⟩ | ⟨x, e1, e2, e3, e4⟩
            · subst e1
              rcases hsm with ⟨g1, g2⟩ | ⟨x, g1, g2, g3, g4⟩
              · exact absurd g2 z
              · exact Or.inr ⟨x, by rw [g1]; rfl, rfl, by rw [y0 e2, g3], g4⟩
            · exact Or.inr ⟨x, by rw [e1]; rfl, rfl, by rw [y1 (by rw [e2]; decide), e3], e4⟩
          · refine p209 0 hp_bz0 (fun w y0 y1 => ?_)
            rcases mst with ⟨e1, e2⟩ | ⟨x, e1, e2, e3, e4⟩
            · subst e1
              rcases hsm with ⟨g1, g2⟩ | ⟨x, g1, g2, g3, g4⟩
              · exact Or.inl ⟨by rw [g1]; rfl, rfl⟩
              · rw [g2] at z
                exact absurd z (by decide)
            · rw [e2] at y
              exact absurd y (by decide)
          · apply h204
            refine p209 1 hp_bz1 (fun w y0 y1 => ?_)
            rcases mst with ⟨e1, e2⟩ | ⟨x, e1, e2, e3, e4⟩
            · exact absurd e2 y
            · exact Or.inr ⟨x, by rw [e1]; rfl, rfl, by rw [y1 y, e3], e4⟩
        induction d with
        | zero =>
          intro k a' v' hd hk hR
          apply h156
          obtain rfl : k = dn := by omega
          exact ⟨fun _ => fin a' v' hR, fun z => absurd (nI_le (Nat.le_refl _) (by omega)) z⟩
        | succ d ih =>
          intro k a' v' hd hk hR
          apply h156
          refine ⟨fun z => ?_, fun z => ?_⟩
          · have := (nI_leI (by omega) (by omega)).mp z
            obtain rfl : k = dn := by omega
            exact fin a' v' hR
          · have hlt : k < dn := Nat.not_le.mp fun u => z (nI_le u (by omega))
            have hm := m1 k hlt
            have vin : vp_in (nI k) 4100 := vp_in_nI (by omega) (by omega)
            have hmo' := hp_rem_mono M X k (dn - k)
            rw [show k + (dn - k) = dn by omega] at hmo'
            rw [hp_cl (by omega), hm.1, hm.2.1]
            refine ⟨vin, vin, ?_⟩
            obtain ⟨A1, V1, hc1⟩ := hR
            refine hp_putM hc1 (by omega) hm.2.2.1 hm.2.2.2.1 (fun a2 v2 hR2 => ?_)
            rw [hp_ins_out M X Y (X k) k (fun j hj => m3 j k hj hlt)] at hR2 ⊢
            rw [Nat.add_assoc] at hR2 ⊢
            rw [nI_1]
            exact ih (k + 1) a2 v2 (by omega) (by omega) hR2
      exact key dn 0 a v (by omega) (by omega) ⟨A, V, h⟩
  have key : ∀ F b nr σ, len - b < F → b ≤ len → nr ≤ b → 2 * σ.2.1 ≤ b → n + σ.2.2.1 ≤ 3000 → σ.2.2.2.2.2.2.2 ≤ b → (∀ c pl σ', hp_RD (hp_stp kind M n T) T len F b nr σ c pl σ' → hp_RD (hp_stp kind M n T) T len (len + 1) 0 0 hp_S0 c pl σ') → ∀ d x na' nv' nsz fr en nhs nst ba sg rc by' bc, hp_MS M σ na' nv' nsz fr en nhs nst ba sg rc → len + 1 - x ≤ d → b ≤ x → x ≤ len + 1 → (∀ k, b ≤ k → k < x → k < len → T k = 32) → P32 (nI len) (nI x) 0 a v (nI n) hs st 0 (nI nr) na' nv' nsz fr en nhs nst ba sg rc by' bc 0 := by
    intro F
    induction F with
    | zero => intro b nr σ hF; omega
    | succ F ihF =>
      intro b nr σ hF hb hnr hdn hmo hrc hrd d
      induction d with
      | zero =>
        intro x na' nv' nsz fr en nhs nst ba sg rc by' bc hms hd hbx hxl hsp
        apply h32
        refine ⟨fun _ => end0 nr σ _ _ _ _ _ _ _ _ _ _ _ _ hms hmo (by omega) (fun c pl σ' hc => hrd c pl σ' ⟨len, ⟨hb, Nat.le_refl _, fun k h1 h2 => hsp k h1 (by omega) h2, Or.inl rfl⟩, Or.inl ⟨rfl, hc⟩⟩), fun w => absurd (nI_le (by omega) (by omega)) w⟩
      | succ d ihd =>
        intro x na' nv' nsz fr en nhs nst ba sg rc by' bc hms hd hbx hxl hsp
        apply h32
        refine ⟨fun w => ?_, fun w => ⟨fun z => absurd rfl z, fun _ => ?_⟩⟩
        · have := (nI_leI (by omega) (by omega)).mp w
          exact end0 nr σ _ _ _ _ _ _ _ _ _ _ _ _ hms hmo (by omega) (fun c pl σ' hc => hrd c pl σ' ⟨len, ⟨hb, Nat.le_refl _, fun k h1 h2 => hsp k h1 (by omega) h2, Or.inl rfl⟩, Or.inl ⟨rfl, hc⟩⟩)
        · have hxlt : x < len := Nat.not_le.mp fun u => w (nI_le u (by omega))
          -- a record from x to q
          have recd : ∀ q, x < q → hp_ne T len x q → P71 (nI len) (nI x) (nI q) 0 a v (nI n) hs st 0 (nI nr) na' nv' nsz fr en nhs nst ba sg rc by' bc 0 := by
            intro q hxq hq
            have g2 := hq.2.1
            have hp : hp_ns T len b x := ⟨hbx, by omega, fun k h1 h2 => hsp k h1 h2 (by omega), Or.inr (hq.2.2.1 x (Nat.le_refl _) hxq)⟩
            -- behind the record
            have aft : ∀ na2 nv2 nsz2 fr2 en2 nhs2 nst2 ba2 sg2 rc2 by2 bc2, ((hp_stp kind M n T x q σ).1 = 0 → hp_MS M (hp_stp kind M n T x q σ).2 na2 nv2 nsz2 fr2 en2 nhs2 nst2 ba2 sg2 rc2 ∧ (hp_stp kind M n T x q σ).2.2.1 ≤ σ.2.1 + (q - x) / 2 ∧ n + (hp_stp kind M n T x q σ).2.2.2.1 ≤ 3000 ∧ (hp_stp kind M n T x q σ).2.2.2.2.2.2.2.2 ≤ σ.2.2.2.2.2.2.2 + 1) → (hp_stp kind M n T x q σ).1 < 11 → P98 (nI len) (nI q) 0 a v (nI n) hs st 0 (nI nr) na2 nv2 nsz2 fr2 en2 nhs2 nst2 ba2 sg2 rc2 by2 bc2 (nI (hp_stp kind M n T x q σ).1) := by
              intro na2 nv2 nsz2 fr2 en2 nhs2 nst2 ba2 sg2 rc2 by2 bc2 hres hlt
              apply h98
              by_cases hz : (hp_stp kind M n T x q σ).1 = 0
              · obtain ⟨r1, r2, r3, r4⟩ := hres hz
                rw [hz]
                refine ⟨fun z => absurd rfl z, fun _ => ?_⟩
                apply h119
                apply h122
                intro z hz'
                rw [nI_1] at hz'
                subst hz'
                rw [nI_1]
                refine ihF q (nr + 1) _ (by omega) g2 (by omega) (by omega) r3 (by omega) (fun c pl σ' hr => hrd c pl σ' ⟨x, hp, Or.inr ⟨hxlt, q, hq, Or.inl ⟨hz, hr⟩⟩⟩) (len + 1) (q + 1) _ _ _ _ _ _ _ _ _ _ _ _ r1 (by omega) (by omega) (by omega) (fun k h1 h2 h3 => ?_)
                rcases hq.2.2.2 with e | e
                · omega
                · rw [show k = q by omega]; exact e
              · have hne : ¬ nI (hp_stp kind M n T x q σ).1 = 0 := fun e => hz ((nI_eq (b := 0) (by omega) (by omega)).mp e)
                refine ⟨fun _ => ?_, fun z => absurd z hne⟩
                apply h119
                apply h122
                intro z _
                have e := endF _ nr σ na2 nv2 nsz2 fr2 en2 nhs2 nst2 ba2 sg2 rc2 by2 bc2 (hrd _ nr σ ⟨x, hp, Or.inr ⟨hxlt, q, hq, Or.inr ⟨hz, rfl, rfl, rfl⟩⟩⟩) hz hlt
                apply h32
                exact ⟨fun _ => e, fun _ => ⟨fun _ => e, fun y => absurd y hne⟩⟩
            apply h71
            refine ⟨fun z => absurd ((nI_leI (by omega) (by omega)).mp z) (by omega), fun _ => ⟨fun z => ?_, fun z => ?_⟩⟩
            · have hk1 : ¬ kind = 0 := fun e => z (by rw [e]; rfl)
              have es : hp_stp kind M n T = hp_r1 M n T := by unfold hp_stp; rw [if_neg hk1]
              rw [es] at aft
              refine hp_readLetterM h hn hT hl g2 hxq hms (by omega) hmo (by omega) (fun na2 nv2 nsz2 fr2 en2 nhs2 nst2 rc2 by2 bc2 hres => aft _ _ _ _ _ _ _ _ _ _ _ _ (fun e => ⟨hres e, hp_r1_sz e hmo⟩) (hp_r1_lt M n T x q σ))
            · have hk0 := (nI_eq (b := 0) (by omega) (by omega)).mp z
              have es : hp_stp kind M n T = hp_r0 M n T := by unfold hp_stp; rw [if_pos hk0]
              rw [es] at aft
              refine hp_readColonM h hn hT hl g2 hxq hms (by omega) hmo (fun na2 nv2 nsz2 fr2 en2 nhs2 nst2 ba2 sg2 by2 bc2 hres => aft _ _ _ _ _ _ _ _ _ _ _ _ (fun e => ⟨hres e, (hp_r0_sz e hmo).1, (hp_r0_sz e hmo).2.1, by rw [(hp_r0_sz e hmo).2.2]; omega⟩) (hp_r0_lt M n T x q σ))
          have scan : ∀ d q, len - q ≤ d → x ≤ q → q ≤ len → (∀ k, x ≤ k → k < q → T k ≠ 32) → P47 (nI len) (nI x) (nI q) 0 a v (nI n) hs st 0 (nI nr) na' nv' nsz fr en nhs nst ba sg rc by' bc 0 := by
            intro d
            have fin : ∀ q, hp_ne T len x q → P71 (nI len) (nI x) (nI q) 0 a v (nI n) hs st 0 (nI nr) na' nv' nsz fr en nhs nst ba sg rc by' bc 0 := by
              intro q hq
              by_cases e : x = q
              · subst e
                have hsp' : T x = 32 := hq.2.2.2.resolve_left (by omega)
                apply h71
                refine ⟨fun _ => ?_, fun z => absurd (nI_le (Nat.le_refl _) (by omega)) z⟩
                apply h122
                intro z hz
                rw [nI_1] at hz
                subst hz
                refine ihd (x + 1) _ _ _ _ _ _ _ _ _ _ _ _ hms (by omega) (by omega) (by omega) (fun k h1 h2 h3 => ?_)
                by_cases e2 : k = x
                · rw [e2]; exact hsp'
                · exact hsp k h1 (by omega) h3
              · exact recd q (by have := hq.1; omega) hq
            induction d with
            | zero =>
              intro q hd hxq hql hall
              apply h47
              exact ⟨fun _ => fin q ⟨hxq, hql, hall, Or.inl (by omega)⟩, fun z => absurd (nI_le (by omega) (by omega)) z⟩
            | succ d ih =>
              intro q hd hxq hql hall
              apply h47
              refine ⟨fun z => ?_, fun z => ?_⟩
              · have := (nI_leI (by omega) (by omega)).mp z
                exact fin q ⟨hxq, hql, hall, Or.inl (by omega)⟩
              · have hlt : q < len := Nat.not_le.mp fun u => z (nI_le u (by omega))
                have ht := hT q hlt
                rw [hp_cl (by omega), ht.1]
                refine ⟨vp_in_nI (by omega) (by omega), fun y => fin q ⟨hxq, hql, hall, Or.inr ((nI_eq (b := 32) (by omega) (by omega)).mp y)⟩, fun y => ?_⟩
                have hne : T q ≠ 32 := fun e => y (by rw [e]; rfl)
                rw [nI_1]
                refine ih (q + 1) (by omega) (by omega) (by omega) (fun k h1 h2 => ?_)
                by_cases e : k = q
                · rw [e]; exact hne
                · exact hall k h1 (by omega)
          exact scan len x (by omega) (Nat.le_refl _) (by omega) (fun k h1 h2 => absurd h2 (by omega))
  refine key (len + 1) 0 0 hp_S0 (by omega) (by omega) (by omega) (by decide) (by show n + 0 ≤ 3000; omega) (by decide) (fun c pl σ' hr => hr) (len + 1) 0 na nv _ _ _ _ _ _ _ _ _ _ ?_ (by omega) (by omega) (by omega) (fun k _ h2 => absurd h2 (by omega))
  exact ⟨⟨fun _ => 0, fun _ => 0, fun k hk => absurd hk (by omega), (fun x y hx => by cases hx), fun j k _ hk => absurd hk (by omega), rfl⟩, rfl, rfl, Or.inl ⟨rfl, rfl⟩, rfl, rfl, by omega, rfl, rfl⟩
end HPY
