/-! type, and the packed characters; overlay -/
def hp_by (m s : Nat) : Nat := m / 2 ^ (8 * s) % 256
theorem hp_by_lt (m s : Nat) : hp_by m s < 256 := Nat.mod_lt _ (by decide)
theorem hp_pkC {m s : Nat} (hm : m < 2 ^ 64) (hs : s < 8) : (((lN m).toUInt64 >>> (((8 : Int32) * nI s).toInt64.toUInt64 &&& Int64.toUInt64 63)).toInt64).toInt32 &&& (255 : Int32) = nI (hp_by m s) := by
  rw [show (8 : Int32) * nI s = nI (8 * s) from pk_mul 8 s, wb_shr hm (by omega), lN_i, pk_and _ 8 rfl]
  unfold hp_by
  generalize m / 2 ^ (8 * s) = x
  have e : (nI x).toBitVec.toNat = x % 2 ^ 32 := BitVec.toNat_ofNat ..
  rw [e]
  exact congrArg nI (by omega)
theorem hp_pkM {m s : Nat} (hs : s < 8) : (lN m >>> (((8 : Int32) * nI s).toInt64 &&& 63)) &&& (255 : Int64) = lN (hp_by m s) := by
  rw [show (8 : Int32) * nI s = nI (8 * s) from pk_mul 8 s, wb_c _ (by omega)]
  apply wb_inj
  apply BitVec.eq_of_getLsbD_eq
  intro i hi
  rw [Int64.toBitVec_and, BitVec.getLsbD_and, Int64.toBitVec_shiftRight, wb_tb, wb_tb, wb_tb, wb_sm _ (by omega)]
  have h1 : (BitVec.ofNat 64 (8 * s)).toNat = 8 * s := by rw [BitVec.toNat_ofNat, Nat.mod_eq_of_lt (by omega)]
  have h2 : (255 : Int64).toBitVec.getLsbD i = decide (i < 8) := by
    show (BitVec.ofNat 64 255).getLsbD i = _
    rw [BitVec.getLsbD_ofNat, show 255 = 2 ^ 8 - 1 from rfl, Nat.testBit_two_pow_sub_one]
    simp [hi]
  rw [h2, BitVec.sshiftRight_eq', h1, BitVec.getLsbD_sshiftRight]
  unfold hp_by
  rw [BitVec.getLsbD_ofNat, BitVec.getLsbD_ofNat, show 256 = 2 ^ 8 from rfl, Nat.testBit_mod_two_pow, Nat.testBit_div_two_pow]
  by_cases h8 : i < 8
  · have hh : 8 * s + i < 64 := by omega
    rw [if_pos hh, decide_eq_true hh, decide_eq_true hi, decide_eq_true h8, decide_eq_false (show ¬ 64 ≤ i by omega), Nat.add_comm i (8 * s)]
    simp
  · simp [h8]
theorem hp_b8 : ∀ b, b < 128 → (nI b).toInt8.toInt32 = nI b := by decide +kernel
theorem hp_and8 (x : Int64) : (x &&& (255 : Int64)).toInt32.toInt8 = x.toInt32.toInt8 := by
  apply Int8.toBitVec_inj.mp
  apply BitVec.eq_of_getLsbD_eq
  intro i hi
  have h2 : (255 : Int64).toBitVec.getLsbD i = decide (i < 8) := by
    show (BitVec.ofNat 64 255).getLsbD i = _
    rw [BitVec.getLsbD_ofNat, show 255 = 2 ^ 8 - 1 from rfl, Nat.testBit_two_pow_sub_one]
    simp [show i < 64 by omega]
  simp only [Int32.toBitVec_toInt8, Int64.toBitVec_toInt32, BitVec.getLsbD_signExtend, Int64.toBitVec_and, BitVec.getLsbD_and, h2]
  simp [hi, show i < 32 by omega, show i < 64 by omega]
/-- n characters, packed in m, may be typed behind len others -/
def hp_okt (m len : Nat) (c : Int32) (k : Nat) : Prop := 1 ≤ k ∧ k ≤ 8 ∧ c = nI k ∧ len + k ≤ 8000 ∧ ∀ s, s < k → 32 ≤ hp_by m s ∧ hp_by m s ≤ 126
theorem hp_okt_eq {m len : Nat} {c : Int32} {k k' : Nat} (h : hp_okt m len c k) (h' : hp_okt m len c k') : k = k' := by
  obtain ⟨_, h2, h3, _⟩ := h
  obtain ⟨_, g2, g3, _⟩ := h'
  exact (nI_eq (by omega) (by omega)).mp (h3.symm.trans g3)
theorem hp_typeX {m len : Nat} {c : Int32} {f : Nat → Int32} {Q : Int32 → (Nat → Int32) → Int32 → Prop} (hm : m < 2 ^ 64) (hlen : len ≤ 8000) (ok : ∀ k f', hp_okt m len c k → (∀ j, j < len → f' j = f j) → (∀ s, s < k → f' (len + s) = nI (hp_by m (k - 1 - s))) → Q (nI (len + k)) f' (nI (len + k))) (no : (¬ ∃ k, hp_okt m len c k) → Q (-1) f (nI len)) : hx_v_Loom_type (lN m) c f (nI len) Q := by
  unfold hx_v_Loom_type hx_v_Typed_append hx_v_Typed_packedAt
  intro P28 P69 h28 h69
  refine ⟨fun q => no fun ⟨k, k1, k2, k3, _⟩ => ?_, fun q => ⟨fun q2 => no fun ⟨k, k1, k2, k3, _⟩ => ?_, fun q2 => ?_⟩⟩
  · rw [k3] at q
    have := (nI_ltI (a := k) (b := 1) (by omega) (by omega)).mp q
    omega
  · rw [k3] at q2
    have := (nI_ltI (a := 8) (b := k) (by omega) (by omega)).mp q2
    omega
  · obtain ⟨k, k1, k2, rfl⟩ := hp_rng (lo := 1) (hi := 8) (by omega) (by omega) q q2
    rw [show (8000 : Int32) = nI 8000 from rfl, pk_sub hlen]
    refine ⟨fun q3 => ?_, fun q3 => no fun ⟨k', k1', k2', k3', k4', _⟩ => ?_⟩
    · have hle := (nI_leI (by omega) (by omega)).mp q3
      have key2 : hp_okt m len (nI k) k → ∀ t f', t ≤ k → (∀ j, j < len → f' j = f j) → (∀ s, s < k - t → f' (len + s) = nI (hp_by m (k - 1 - s))) → P69 (nI t - 1) f' (nI (len + (k - t))) := by
        intro hok t
        induction t with
        | zero =>
          intro f' _ h1 h2
          apply h69
          refine ⟨fun _ => ?_, fun z => absurd (by decide) z⟩
          exact ok k f' hok h1 h2
        | succ t ih =>
          intro f' ht h1 h2
          have e1 : nI (t + 1) - 1 = nI t := nI_pred t
          rw [e1]
          apply h69
          refine ⟨fun z => absurd z (nI_pos (by omega)), fun _ => ?_⟩
          have hb := hok.2.2.2.2 t (by omega)
          rw [hp_pkC hm (by omega)]
          refine ⟨vp_in_nI (by omega) (by omega), ?_⟩
          rw [hp_cl (by omega), nI_1, hp_b8 _ (by omega), vp_nar_byte, hp_b8 _ (by omega), show nI t + (-1) = nI t - 1 by rw [Int32.sub_eq_add_neg], show len + (k - (t + 1)) + 1 = len + (k - t) by omega]
          refine ih _ (by omega) (fun j hj => ?_) (fun s hs => ?_)
          · rw [pk_un (by omega)]; exact h1 j hj
          · by_cases e : s = k - (t + 1)
            · rw [e, pk_us, show k - 1 - (k - (t + 1)) = t by omega]
            · rw [pk_un (by omega)]; exact h2 s (by omega)
      have key1 : ∀ d t, k - t ≤ d → t ≤ k → (∀ s, s < t → 32 ≤ hp_by m s ∧ hp_by m s ≤ 126) → P28 (nI t) f (nI len) := by
        intro d
        have fin : (∀ s, s < k → 32 ≤ hp_by m s ∧ hp_by m s ≤ 126) → ∀ z : Int32, z = nI k - (1 : Int32) → P69 z f (nI len) := by
          intro hall z hz
          subst hz
          have := key2 ⟨k1, k2, rfl, by omega, hall⟩ k f (Nat.le_refl _) (fun _ _ => rfl) (fun s hs => absurd hs (by omega))
          rw [show len + (k - k) = len by omega] at this
          exact this
        induction d with
        | zero =>
          intro t hd ht hall
          apply h28
          obtain rfl : t = k := by omega
          exact ⟨fun _ => fin hall, fun z => absurd (nI_le (Nat.le_refl _) (by omega)) z⟩
        | succ d ih =>
          intro t hd ht hall
          apply h28
          refine ⟨fun z => ?_, fun z => ?_⟩
          · have := (nI_leI (by omega) (by omega)).mp z
            obtain rfl : t = k := by omega
            exact fin hall
          · have hlt : t < k := Nat.not_le.mp fun w => z (nI_le w (by omega))
            have hb := hp_by_lt m t
            rw [hp_pkC hm (by omega)]
            refine ⟨fun c1 => no fun ⟨k', k1', k2', k3', _, k5'⟩ => ?_, fun c1 => ⟨fun c2 => ?_, fun c2 => no fun ⟨k', k1', k2', k3', _, k5'⟩ => ?_⟩⟩
            · have e := (nI_eq (by omega) (by omega)).mp k3'
              have := (nI_ltI (b := 32) (by omega) (by omega)).mp c1
              have := k5' t (by omega)
              omega
            · rw [nI_1]
              refine ih (t + 1) (by omega) (by omega) (fun s hs => ?_)
              by_cases e : s = t
              · rw [e]
                have g1 : ¬ hp_by m t < 32 := fun w => c1 ((nI_ltI (b := 32) (by omega) (by omega)).mpr w)
                have g2 := (nI_leI (b := 126) (by omega) (by omega)).mp c2
                omega
              · exact hall s (by omega)
            · have e := (nI_eq (by omega) (by omega)).mp k3'
              have := k5' t (by omega)
              exact c2 (show nI _ ≤ nI 126 from nI_le (by omega) (by omega))
      exact key1 k 0 (by omega) (by omega) (fun s hs => absurd hs (by omega))
    · have := (nI_eq (by omega) (by omega)).mp k3'
      exact q3 (nI_le (by omega) (by omega))
theorem hp_typeM {m len : Nat} {c : Int32} {f : Nat → Int32} {Q : Int32 → Int32 → (Nat → Int32) → Int32 → Prop} (hm : m < 2 ^ 64) (hlen : len ≤ 8000) (ok : ∀ k f', hp_okt m len c k → (∀ j, j < len → f' j = f j) → (∀ s, s < k → f' (len + s) = nI (hp_by m (k - 1 - s))) → Q (nI (len + k)) 0 f' (nI (len + k))) (no : (¬ ∃ k, hp_okt m len c k) → Q (-1) 0 f (nI len)) : hx_v_Model_type (lN m) c f (nI len) Q := by
  unfold hx_v_Model_type
  intro P32 P33 P38 P84 P85 P93 P105 h32 h33 h38 h84 h85 h93 h105
  have bad : (¬ ∃ k, hp_okt m len c k) → P93 0 0 f (nI len) := fun q => h93 _ _ _ _ ⟨fun z => absurd rfl z, fun _ => no q⟩
  have bad38 : ∀ t, (¬ ∃ k, hp_okt m len c k) → P38 0 t 0 f (nI len) := fun t q => h38 _ _ _ _ _ ⟨fun _ => bad q, fun z => absurd rfl z⟩
  have bad32 : (¬ ∃ k, hp_okt m len c k) → P32 0 f (nI len) := fun q => h32 _ _ _ (h33 _ _ _ _ (bad38 _ q))
  refine ⟨fun q => bad32 fun ⟨k, k1, k2, k3, _⟩ => ?_, fun q => ⟨fun q2 => bad32 fun ⟨k, k1, k2, k3, _⟩ => ?_, fun q2 => ?_⟩⟩
  · rw [k3] at q
    have := (nI_ltI (a := k) (b := 1) (by omega) (by omega)).mp q
    omega
  · rw [k3] at q2
    have := (nI_ltI (a := 8) (b := k) (by omega) (by omega)).mp q2
    omega
  · obtain ⟨k, k1, k2, rfl⟩ := hp_rng (lo := 1) (hi := 8) (by omega) (by omega) q q2
    rw [nI_add]
    refine ⟨fun q3 => bad32 fun ⟨k', k1', k2', k3', k4', _⟩ => ?_, fun q3 => h33 _ _ _ _ ?_⟩
    · have := (nI_eq (by omega) (by omega)).mp k3'
      have := (nI_ltI (a := 8000) (by omega) (by omega)).mp q3
      omega
    · have hle : len + k ≤ 8000 := Nat.not_lt.mp fun z => q3 ((nI_ltI (a := 8000) (by omega) (by omega)).mpr z)
      have key2 : hp_okt m len (nI k) k → ∀ t f', t ≤ k → (∀ j, j < len → f' j = f j) → (∀ s, s < k - t → f' (len + s) = nI (hp_by m (k - 1 - s))) → P105 (nI t - 1) 0 f' (nI (len + (k - t))) := by
        intro hok t
        induction t with
        | zero =>
          intro f' _ h1 h2
          apply h105
          refine ⟨fun _ => ?_, fun z => absurd (by decide) z⟩
          exact ok k f' hok h1 h2
        | succ t ih =>
          intro f' ht h1 h2
          have e1 : nI (t + 1) - 1 = nI t := nI_pred t
          rw [e1]
          apply h105
          refine ⟨fun z => absurd z (nI_pos (by omega)), fun _ => ?_⟩
          have hb := hok.2.2.2.2 t (by omega)
          rw [← hp_and8, hp_pkM (by omega), lN_i]
          refine ⟨vp_in_nI (by omega) (by omega), ?_⟩
          rw [hp_cl (by omega), nI_1, hp_b8 _ (by omega), vp_nar_byte, hp_b8 _ (by omega), show nI t + (-1) = nI t - 1 by rw [Int32.sub_eq_add_neg], show len + (k - (t + 1)) + 1 = len + (k - t) by omega]
          refine ih _ (by omega) (fun j hj => ?_) (fun s hs => ?_)
          · rw [pk_un (by omega)]; exact h1 j hj
          · by_cases e : s = k - (t + 1)
            · rw [e, pk_us, show k - 1 - (k - (t + 1)) = t by omega]
            · rw [pk_un (by omega)]; exact h2 s (by omega)
      have key1 : ∀ d t, k - t ≤ d → t ≤ k → (∀ s, s < t → 32 ≤ hp_by m s ∧ hp_by m s ≤ 126) → P38 1 (nI t) 0 f (nI len) := by
        intro d
        have fin : (∀ s, s < k → 32 ≤ hp_by m s ∧ hp_by m s ≤ 126) → P93 1 0 f (nI len) := by
          intro hall
          apply h93
          refine ⟨fun _ z hz => ?_, fun z => absurd z (by decide)⟩
          subst hz
          have := key2 ⟨k1, k2, rfl, by omega, hall⟩ k f (Nat.le_refl _) (fun _ _ => rfl) (fun s hs => absurd hs (by omega))
          rw [show len + (k - k) = len by omega] at this
          exact this
        induction d with
        | zero =>
          intro t hd ht hall
          apply h38
          obtain rfl : t = k := by omega
          exact ⟨fun z => absurd z (by decide), fun _ => ⟨fun _ => fin hall, fun z => absurd (nI_le (Nat.le_refl _) (by omega)) z⟩⟩
        | succ d ih =>
          intro t hd ht hall
          apply h38
          refine ⟨fun z => absurd z (by decide), fun _ => ⟨fun z => ?_, fun z => ?_⟩⟩
          · have := (nI_leI (by omega) (by omega)).mp z
            obtain rfl : t = k := by omega
            exact fin hall
          · have hlt : t < k := Nat.not_le.mp fun w => z (nI_le w (by omega))
            have hb := hp_by_lt m t
            intro w hw
            rw [hp_pkM (by omega)] at hw
            subst hw
            have no' : ¬ (32 ≤ hp_by m t ∧ hp_by m t ≤ 126) → ¬ ∃ k', hp_okt m len (nI k) k' := by
              intro hn ⟨k', k1', k2', k3', _, k5'⟩
              have e := (nI_eq (by omega) (by omega)).mp k3'
              exact hn (k5' t (by omega))
            refine ⟨fun c1 => h84 _ _ _ _ (h85 _ _ _ _ _ (bad38 _ (no' fun hn => ?_))), fun c1 => ⟨fun c2 => h84 _ _ _ _ (h85 _ _ _ _ _ (bad38 _ (no' fun hn => ?_))), fun c2 => h85 _ _ _ _ _ ?_⟩⟩
            · have := (pk_lLT (b := 32) (by omega) (by omega)).mp c1
              omega
            · have := (pk_lLT (a := 126) (by omega) (by omega)).mp c2
              omega
            · rw [nI_1]
              refine ih (t + 1) (by omega) (by omega) (fun s hs => ?_)
              by_cases e : s = t
              · rw [e]
                have g1 : ¬ hp_by m t < 32 := fun w => c1 ((pk_lLT (b := 32) (by omega) (by omega)).mpr w)
                have g2 : ¬ 126 < hp_by m t := fun w => c2 ((pk_lLT (a := 126) (by omega) (by omega)).mpr w)
                omega
              · exact hall s (by omega)
      exact key1 k 0 (by omega) (by omega) (fun s hs => absurd hs (by omega))
/-- a draft laid over the image -/
theorem hp_overlay {a da : Nat → Int64} {v dv : Nat → Int32} {n dn : Nat} {M N : Nat → Option Nat} {A V DA DV : Nat → Nat} {Q : (Nat → Int64) → (Nat → Int32) → Int32 → Prop} (h : hp_C a v n M A V) (g : hp_C da dv dn N DA DV) (hn : n + hp_rem M DA dn ≤ 3000) (hdn : dn ≤ 3000) (hq : ∀ a' v', hp_R a' v' (n + hp_rem M DA dn) (hp_over M N) → Q a' v' (nI (n + hp_rem M DA dn))) : hx_v_Image_overlay (nI (hp_rem M DA dn)) a v (nI n) da dv (nI dn) Q := by
  unfold hx_v_Image_overlay
  intro P44 P107 P131 P162 h44 h107 h131 h162
  intro z6 e6 z15 e15
  have key : ∀ d p q r a1 v1, p + q ≤ d → hp_OV a v n M N A dn DA (n + hp_rem M DA dn) p q r a1 v1 → P44 (nI p - 1) (nI r - 1) (nI q - 1) a1 v1 (nI (n + hp_rem M DA dn)) := by
    intro d
    induction d with
    | zero =>
      intro p q r a1 v1 hd I
      obtain rfl : q = 0 := by omega
      apply h44
      exact ⟨fun _ => hq a1 v1 (hp_ov_end h g I), fun z => absurd (by decide) z⟩
    | succ d ih =>
      intro p q r a1 v1 hd I
      cases q with
      | zero =>
        apply h44
        exact ⟨fun _ => hq a1 v1 (hp_ov_end h g I), fun z => absurd (by decide) z⟩
      | succ q =>
        have hpn := I.1
        have hqn := I.2.1
        have hrn := I.2.2.2.1
        have hint := I.2.2.2.2.1
        have hD := g.1 q (by omega)
        have eq1 : nI (q + 1) - 1 = nI q := nI_pred q
        have eqm : ∀ t, nI t + (-1) = nI t - 1 := fun t => by rw [Int32.sub_eq_add_neg]
        have r0 : 0 < r := by
          by_cases hc : 0 < p ∧ DA q < A (p - 1)
          · exact (hp_ov_A h g I hc.1 (by omega) (by simpa using hc.2)).1
          · by_cases hc2 : 0 < p ∧ A (p - 1) = DA q
            · exact (hp_ov_D (p' := p - 1) h g I (by omega) (Or.inl ⟨hc2.1, by simpa using hc2.2, rfl⟩)).1
            · exact (hp_ov_D (p' := p) h g I (by omega) (Or.inr ⟨fun hp => by simp; omega, rfl⟩)).1
        obtain ⟨r, rfl⟩ : ∃ t, r = t + 1 := ⟨r - 1, by omega⟩
        have er1 : nI (r + 1) - 1 = nI r := nI_pred r
        rw [eq1, er1]
        have vq : vp_in (nI q) 3000 := vp_in_nI (by omega) (by omega)
        have vr : vp_in (nI r) 3000 := vp_in_nI (by omega) (by omega)
        -- the other's entry goes in
        have step : ∀ p', ((0 < p ∧ A (p - 1) = DA q ∧ p' = p - 1) ∨ ((0 < p → A (p - 1) < DA q) ∧ p' = p)) → P131 (nI p' - 1) (nI r) (nI q) a1 v1 (nI (n + hp_rem M DA dn)) := by
          intro p' hc
          have J := (hp_ov_D (p' := p') h g I (by omega) (by simpa using hc)).2
          apply h131
          refine ⟨vq, vr, vq, vr, ?_⟩
          apply h162
          rw [eqm, eqm, hp_cl (by omega), hp_cl (by omega)]
          exact ih p' q r _ _ (by rcases hc with ⟨_, _, e⟩ | ⟨_, e⟩ <;> omega) J
        have both : P107 (nI p - 1) (nI r) (nI q) a1 v1 (nI (n + hp_rem M DA dn)) ∨ (0 < p ∧ DA q < A (p - 1)) := by
          by_cases hlt : 0 < p ∧ DA q < A (p - 1)
          · exact Or.inr hlt
          · left
            apply h107
            cases p with
            | zero => exact ⟨fun _ => step 0 (Or.inr ⟨fun z => absurd z (by omega), rfl⟩), fun z => absurd (by decide) z⟩
            | succ p =>
              have ep1 : nI (p + 1) - 1 = nI p := nI_pred p
              have hA := h.1 p (by omega)
              rw [ep1, hp_cl (by omega), hp_cl (by omega), (hint p (by omega)).1, hA.1, hD.1]
              refine ⟨fun z => absurd z (nI_pos (by omega)), fun _ => ⟨vp_in_nI (by omega) (by omega), vq, fun z => ?_, fun z => ?_⟩⟩
              · have hne : A p ≠ DA q := fun e => z (by rw [e])
                have := step (p + 1) (Or.inr ⟨fun _ => by simp at hlt ⊢; omega, rfl⟩)
                rw [ep1] at this
                exact this
              · have he : A p = DA q := (pk_lEQ (by omega) (by omega)).mp z
                have := step p (Or.inl ⟨by omega, by simpa using he, by simp⟩)
                rw [eqm]
                exact this
        apply h44
        refine ⟨fun z => absurd z (nI_pos (by omega)), fun _ => ⟨fun z => absurd z (nI_pos (by omega)), fun _ => ?_⟩⟩
        cases p with
        | zero =>
          refine ⟨fun _ => ?_, fun z => absurd (by decide) z⟩
          rcases both with hb | hb
          · exact hb
          · exact absurd hb.1 (by omega)
        | succ p =>
          have ep1 : nI (p + 1) - 1 = nI p := nI_pred p
          have hA := h.1 p (by omega)
          rw [ep1] at both ⊢
          rw [hp_cl (by omega), hp_cl (by omega), hp_cl (by omega), (hint p (by omega)).1, (hint p (by omega)).2, hA.1, hD.1]
          have vp : vp_in (nI p) 3000 := vp_in_nI (by omega) (by omega)
          refine ⟨fun z => absurd z (nI_pos (by omega)), fun _ => ⟨vp, vq, fun z => ?_, fun z => ⟨vp, vr, vp, vr, ?_⟩⟩⟩
          · rcases both with hb | hb
            · exact hb
            · have := (pk_lLE (by omega) (by omega)).mp z
              have h2 := hb.2
              simp at h2
              omega
          · have hlt : DA q < A p := Nat.not_le.mp fun w => z ((pk_lLE (by omega) (by omega)).mpr w)
            have J := (hp_ov_A h g I (by omega) (by omega) (by simpa using hlt)).2
            apply h162
            rw [eqm, eqm, ← hA.1]
            have := ih p (q + 1) r _ _ (by omega) J
            rw [eq1] at this
            exact this
  have hn0 : n ≤ 3000 := by omega
  refine ⟨fun q => ?_, fun q => ?_⟩
  · intro z42 e42
    subst e6 e15 e42
    rw [nI_add]
    exact key (n + dn) n dn (n + hp_rem M DA dn) a v (by omega) (hp_ov_0 rfl)
  · exfalso
    apply q
    subst e15
    rw [nI_add]
    cases hm : n + hp_rem M DA dn with
    | zero => decide
    | succ t =>
      rw [show nI (t + 1) - (1 : Int32) = nI t from nI_pred t]
      exact (nI_ltI (b := 3000) (by omega) (by omega)).mpr (by omega)
