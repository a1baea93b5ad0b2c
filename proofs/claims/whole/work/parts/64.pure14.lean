/-! the class reads a text -/
def hp_ns (T : Nat → Nat) (len b p : Nat) : Prop := b ≤ p ∧ p ≤ len ∧ (∀ k, b ≤ k → k < p → T k = 32) ∧ (p = len ∨ T p ≠ 32)
def hp_ne (T : Nat → Nat) (len p q : Nat) : Prop := p ≤ q ∧ q ≤ len ∧ (∀ k, p ≤ k → k < q → T k ≠ 32) ∧ (q = len ∨ T q = 32)
theorem hp_ns_uniq {T : Nat → Nat} {len b p p' : Nat} (h : hp_ns T len b p) (h' : hp_ns T len b p') : p = p' := by
  have half : ∀ {p p' : Nat}, hp_ns T len b p → hp_ns T len b p' → ¬ p < p' := by
    intro p p' h h' q
    rcases h.2.2.2 with z | z
    · have := h'.2.1; omega
    · exact z (h'.2.2.1 p h.1 q)
  have := half h h'
  have := half h' h
  omega
theorem hp_ne_uniq {T : Nat → Nat} {len p q q' : Nat} (h : hp_ne T len p q) (h' : hp_ne T len p q') : q = q' := by
  have half : ∀ {q q' : Nat}, hp_ne T len p q → hp_ne T len p q' → ¬ q < q' := by
    intro q q' h h' z
    rcases h.2.2.2 with y | y
    · have := h'.2.1; omega
    · exact h'.2.2.1 q h.1 z y
  have := half h h'
  have := half h' h
  omega
abbrev hp_S0 : hp_S := (fun _ => none, 0, 0, none, false, 0, false, 0)
/-- a text read from b on, F records at most: the fault, its place, the state -/
def hp_RD (step : Nat → Nat → hp_S → Nat × hp_S) (T : Nat → Nat) (len : Nat) : Nat → Nat → Nat → hp_S → Nat → Nat → hp_S → Prop
  | 0, _, _, _, _, _, _ => False
  | F + 1, b, nr, σ, c, pl, σ' => ∃ p, hp_ns T len b p ∧ ((p = len ∧ c = (if σ.2.2.2.2.1 = true then 0 else 10) ∧ pl = nr ∧ σ' = σ) ∨ (p < len ∧ ∃ q, hp_ne T len p q ∧ (((step p q σ).1 = 0 ∧ hp_RD step T len F q (nr + 1) (step p q σ).2 c pl σ') ∨ ((step p q σ).1 ≠ 0 ∧ c = (step p q σ).1 ∧ pl = nr ∧ σ' = σ))))
theorem hp_RD_uniq {step : Nat → Nat → hp_S → Nat × hp_S} {T : Nat → Nat} {len : Nat} : ∀ F b nr σ c pl σ' c2 pl2 σ2, hp_RD step T len F b nr σ c pl σ' → hp_RD step T len F b nr σ c2 pl2 σ2 → c = c2 ∧ pl = pl2 ∧ σ' = σ2
  | 0, _, _, _, _, _, _, _, _, _, h, _ => absurd h id
  | F + 1, b, nr, σ, c, pl, σ', c2, pl2, σ2, h, h2 => by
    obtain ⟨p, hp, h⟩ := h
    obtain ⟨p2, hp2, h2⟩ := h2
    obtain rfl := hp_ns_uniq hp hp2
    rcases h with ⟨e, h1, h3, h4⟩ | ⟨e, q, hq, h⟩
    · rcases h2 with ⟨_, g1, g3, g4⟩ | ⟨e2, _⟩
      · exact ⟨h1.trans g1.symm, h3.trans g3.symm, h4.trans g4.symm⟩
      · omega
    · rcases h2 with ⟨e2, _⟩ | ⟨_, q2, hq2, h2⟩
      · omega
      · obtain rfl := hp_ne_uniq hq hq2
        rcases h with ⟨z, h⟩ | ⟨z, h1, h3, h4⟩
        · rcases h2 with ⟨_, h2⟩ | ⟨y, _⟩
          · exact hp_RD_uniq F _ _ _ _ _ _ _ _ _ h h2
          · exact absurd z y
        · rcases h2 with ⟨y, _⟩ | ⟨_, g1, g3, g4⟩
          · exact absurd y z
          · exact ⟨h1.trans g1.symm, h3.trans g3.symm, h4.trans g4.symm⟩
theorem hp_f0_lt (T : Nat → Nat) (p q : Nat) : hp_f0 T p q < 6 := by
  unfold hp_f0
  repeat' split
  all_goals omega
theorem hp_f1_lt (T : Nat → Nat) (p q : Nat) : hp_f1 T p q < 6 := by
  unfold hp_f1
  repeat' split
  all_goals omega
theorem hp_data_lt (M : Nat → Option Nat) (n : Nat) (ad val : Nat → Nat) (cnt : Nat) (σ : hp_S) : (hp_data M n ad val cnt σ).1 < 11 := by
  obtain ⟨N, dn, mo, st, en, ba, sg, r⟩ := σ
  unfold hp_data
  dsimp only
  repeat' split
  all_goals (dsimp only; omega)
theorem hp_r0_lt (M : Nat → Option Nat) (n : Nat) (T : Nat → Nat) (p q : Nat) (σ : hp_S) : (hp_r0 M n T p q σ).1 < 11 := by
  obtain ⟨N, dn, mo, st, en, ba, sg, r⟩ := σ
  have h1 := hp_f0_lt T p q
  unfold hp_r0
  dsimp only
  generalize hp_f0 T p q = x at h1 ⊢
  repeat' split
  all_goals first | exact hp_data_lt _ _ _ _ _ _ | (dsimp only; omega)
theorem hp_r1_lt (M : Nat → Option Nat) (n : Nat) (T : Nat → Nat) (p q : Nat) (σ : hp_S) : (hp_r1 M n T p q σ).1 < 11 := by
  obtain ⟨N, dn, mo, st, en, ba, sg, r⟩ := σ
  have h1 := hp_f1_lt T p q
  unfold hp_r1
  dsimp only
  generalize hp_f1 T p q = x at h1 ⊢
  repeat' split
  all_goals first | exact hp_data_lt _ _ _ _ _ _ | (dsimp only; omega) | (dsimp only; split <;> omega)
section HPR
variable {f : Nat → Int32} {len : Nat} {T : Nat → Nat}
theorem hp_toNext (hT : hp_TX f len T) (hl : len ≤ 8000) {b : Nat} (hb : b ≤ len) {d0 : Int32} {Q : Int32 → Int32 → Int32 → Int32 → Prop} (h : ∀ p q, hp_ns T len b p → hp_ne T len p q → (p < q → Q 1 (nI p) (nI q) (nI q)) ∧ (p = len → Q 0 (nI p) (nI q) (nI q))) : hx_v_Typed_toNextRecord f (nI len) (nI b) d0 Q := by
  unfold hx_v_Typed_toNextRecord
  intro P8 P46 P54 P92 h8 h46 h54 h92
  have key2 : ∀ p, hp_ns T len b p → ∀ d q, len - q ≤ d → p ≤ q → q ≤ len → (∀ k, p ≤ k → k < q → T k ≠ 32) → P54 (nI p) (nI q) d0 := by
    intro p hp d
    have fin : ∀ q, hp_ne T len p q → P92 (nI p) (nI q) d0 := by
      intro q hq
      have g1 := hq.1
      have g2 := hq.2.1
      have g3 := hp.2.1
      have hk := h p q hp hq
      apply h92
      refine ⟨fun w => hk.2 ?_, fun w => hk.1 (Nat.not_le.mp fun z => w (nI_le z (by omega)))⟩
      have := (nI_leI (by omega) (by omega)).mp w
      rcases hp.2.2.2 with z | z
      · exact z
      · rcases hq.2.2.2 with y | y
        · omega
        · rw [show q = p by omega] at y
          exact absurd y z
    induction d with
    | zero =>
      intro q hd hpq hql hall
      apply h54
      exact ⟨fun _ => fin q ⟨hpq, hql, hall, Or.inl (by omega)⟩, fun w => absurd (nI_le (by omega) (by omega)) w⟩
    | succ d ih =>
      intro q hd hpq hql hall
      apply h54
      refine ⟨fun w => ?_, fun w => ?_⟩
      · have := (nI_leI (by omega) (by omega)).mp w
        exact fin q ⟨hpq, hql, hall, Or.inl (by omega)⟩
      · have hlt : q < len := Nat.not_le.mp fun z => w (nI_le z (by omega))
        have ht := hT q hlt
        rw [hp_cl (by omega), ht.1]
        refine ⟨vp_in_nI (by omega) (by omega), fun z => fin q ⟨hpq, hql, hall, Or.inr ((nI_eq (b := 32) (by omega) (by omega)).mp z)⟩, fun z => ?_⟩
        have hne : T q ≠ 32 := fun e => z (by rw [e]; rfl)
        rw [nI_1]
        refine ih (q + 1) (by omega) (by omega) (by omega) (fun k hk hkq => ?_)
        by_cases e : k = q
        · rw [e]; exact hne
        · exact hall k hk (by omega)
  have key1 : ∀ d p, len - p ≤ d → b ≤ p → p ≤ len → (∀ k, b ≤ k → k < p → T k = 32) → P8 (nI p) (nI b) d0 := by
    intro d
    have fin : ∀ p, hp_ns T len b p → P46 (nI p) (nI b) d0 := by
      intro p hp
      apply h46
      exact key2 p hp len p (by omega) (Nat.le_refl _) hp.2.1 (fun k h1 h2 => absurd h2 (by omega))
    induction d with
    | zero =>
      intro p hd hbp hpl hall
      apply h8
      exact ⟨fun _ => fin p ⟨hbp, hpl, hall, Or.inl (by omega)⟩, fun w => absurd (nI_le (by omega) (by omega)) w⟩
    | succ d ih =>
      intro p hd hbp hpl hall
      apply h8
      refine ⟨fun w => ?_, fun w => ?_⟩
      · have := (nI_leI (by omega) (by omega)).mp w
        exact fin p ⟨hbp, hpl, hall, Or.inl (by omega)⟩
      · have hlt : p < len := Nat.not_le.mp fun z => w (nI_le z (by omega))
        have ht := hT p hlt
        rw [hp_cl (by omega), ht.1]
        refine ⟨vp_in_nI (by omega) (by omega), fun z => fin p ⟨hbp, hpl, hall, Or.inr fun e => z (by rw [e]; rfl)⟩, fun z => ?_⟩
        have he := (nI_eq (b := 32) (by omega) (by omega)).mp z
        rw [nI_1]
        refine ih (p + 1) (by omega) (by omega) (by omega) (fun k hk hkq => ?_)
        by_cases e : k = p
        · rw [e]; exact he
        · exact hall k hk (by omega)
  exact key1 len b (by omega) (Nat.le_refl _) hb (fun k h1 h2 => absurd h2 (by omega))
theorem hp_XS0 (M : Nat → Option Nat) (da : Nat → Int64) (dv : Nat → Int32) : hp_XS M hp_S0 0 0 0 da dv 0 0 (-1) 0 :=
  ⟨⟨fun _ => 0, fun _ => 0, ⟨fun k hk => absurd hk (by omega), fun j k hj hk => absurd hk (by omega), fun x y hx => (by cases hx)⟩, rfl⟩, by omega, rfl, rfl, rfl, (fun x hx => by cases hx), rfl, rfl, by omega, rfl, rfl⟩
theorem hp_stv {st : Option Nat} (h : ∀ x, st = some x → x < 4294967296) : hp_st st = -1 ↔ st = none := by
  cases st with
  | none => exact ⟨fun _ => rfl, fun _ => rfl⟩
  | some x =>
    have := h x rfl
    exact ⟨fun e => absurd e (hp_lne (by omega)), fun e => by cases e⟩
/-- the start behind a text -/
def hp_ns0 (s0 : Int64) (st : Option Nat) : Int64 := match st with
  | some x => lN x
  | none => s0
theorem hp_readC {a : Nat → Int64} {v : Nat → Int32} {n : Nat} {M : Nat → Option Nat} {A V : Nat → Nat} (h : hp_C a v n M A V) (hn : n ≤ 3000) (hT : hp_TX f len T) (hl : len ≤ 4096) {da : Nat → Int64} {dv : Nat → Int32} {s0 : Int64} {fp : Int32} {Q : Int32 → (Nat → Int64) → (Nat → Int32) → Int32 → Int32 → Int32 → Int32 → (Nat → Int64) → (Nat → Int32) → Int32 → Int32 → Int64 → Int32 → Int64 → Int32 → Int64 → Int32 → Prop}
    (kf : ∀ c pl σ' fi be df da' dv' ds mo ds0 en ba sg, hp_RD (hp_r0 M n T) T len (len + 1) 0 0 hp_S0 c pl σ' → c ≠ 0 → c < 11 → pl ≤ len → Q (nI c) a v (nI n) fi be df da' dv' ds mo ds0 en ba sg s0 (nI pl))
    (k0 : ∀ pl σ' a' v' fi be df da' dv' ds mo ds0 en ba sg, hp_RD (hp_r0 M n T) T len (len + 1) 0 0 hp_S0 0 pl σ' → n + σ'.2.2.1 ≤ 3000 → hp_R a' v' (n + σ'.2.2.1) (hp_over M σ'.1) → (∀ x, σ'.2.2.2.1 = some x → x < 4294967296) → Q 0 a' v' (nI (n + σ'.2.2.1)) fi be df da' dv' ds mo ds0 en ba sg (hp_ns0 s0 σ'.2.2.2.1) (-1)) :
    hx_v_Loom_readRecords_Colon a v (nI n) f (nI len) da dv s0 fp Q := by
  unfold hx_v_Loom_readRecords_Colon hx_v_Draft_restart hx_v_Image_forget hx_v_Colon_restart hx_v_Typed_rewind
  intro P20 P71 h20 h71
  -- the end of the text
  have fin : ∀ nr σ fi be df da' dv' ds mo ds0 en ba sg, hp_XS M σ ba sg 0 da' dv' ds mo ds0 en → n + σ.2.2.1 ≤ 3000 → σ.2.1 ≤ 3000 → nr ≤ len → (∀ c pl σ', (c = (if σ.2.2.2.2.1 = true then 0 else 10) ∧ pl = nr ∧ σ' = σ) → hp_RD (hp_r0 M n T) T len (len + 1) 0 0 hp_S0 c pl σ') → P71 (nI nr) a v (nI n) fi be df da' dv' ds mo ds0 en ba sg s0 fp := by
    intro nr σ fi be df da' dv' ds mo ds0 en ba sg hx hmo hdn hnr hrd
    obtain ⟨N, dn, mo', st, en', ba', sg', r⟩ := σ
    obtain ⟨⟨DA, DV, hc, hm⟩, s2, rfl, rfl, rfl, s6, rfl, rfl, s9, rfl, _⟩ := hx
    dsimp only at hmo hdn hrd
    apply h71
    refine ⟨fun w => ?_, fun w => ?_⟩
    · have hen : en' = true := by
        cases en' with
        | true => rfl
        | false => exact absurd rfl w
      have hr := hrd 0 nr _ ⟨by rw [if_pos hen], rfl, rfl⟩
      subst hm
      refine hp_overlay h hc hmo hdn (fun a' v' hov => ⟨fun z => ?_, fun z => ?_⟩)
      · have e := (hp_stv s6).mp z
        have := k0 nr _ a' v' fi be df da' dv' (nI dn) (nI (hp_rem M DA dn)) (hp_st st) (hp_b en') (lN ba') (hp_b sg') hr hmo hov s6
        rw [e] at this ⊢
        exact this
      · have := k0 nr _ a' v' fi be df da' dv' (nI dn) (nI (hp_rem M DA dn)) (hp_st st) (hp_b en') (lN ba') (hp_b sg') hr hmo hov s6
        cases st with
        | none => exact absurd rfl z
        | some x => exact this
    · have hen : en' = false := hp_b_0.mp w
      exact kf 10 nr _ _ _ _ _ _ _ _ _ _ _ _ (hrd 10 nr _ ⟨by rw [hen]; rfl, rfl, rfl⟩) (by decide) (by omega) hnr
  have key : ∀ F b nr σ fi df da' dv' ds mo ds0 en ba sg, len - b < F → b ≤ len → nr ≤ b → 2 * σ.2.1 ≤ b → n + σ.2.2.1 ≤ 3000 → hp_XS M σ ba sg 0 da' dv' ds mo ds0 en → (∀ c pl σ', hp_RD (hp_r0 M n T) T len F b nr σ c pl σ' → hp_RD (hp_r0 M n T) T len (len + 1) 0 0 hp_S0 c pl σ') → P20 (nI nr) a v (nI n) fi (nI b) df da' dv' ds mo ds0 en ba sg s0 fp := by
    intro F
    induction F with
    | zero => intro b nr σ fi df da' dv' ds mo ds0 en ba sg hF; omega
    | succ F ih =>
      intro b nr σ fi df da' dv' ds mo ds0 en ba sg hF hb hnr hdn hmo hx hrd
      apply h20
      refine ⟨fun w => absurd ((nI_leI (a := 8000) (by omega) (by omega)).mp w) (by omega), fun _ => ?_⟩
      refine hp_toNext hT (by omega) hb (fun p q hp hq => ⟨fun hpq => ⟨fun w => absurd w (by decide), fun _ => ?_⟩, fun hpl => ⟨fun _ => ?_, fun w => absurd rfl w⟩⟩)
      · have g1 := hp.1
        have g2 := hq.2.1
        refine hp_faultOf0 h hn hT (by omega) g2 hpq hx (by omega) (fun ba' sg' df' da2 dv2 ds' mo' ds0' en' hres => ?_)
        by_cases hz : (hp_r0 M n T p q σ).1 = 0
        · obtain ⟨x1, x2, x3⟩ := hres hz
          rw [hz]
          refine ⟨fun _ => ?_, fun w => absurd rfl w⟩
          rw [nI_1]
          refine ih q (nr + 1) _ _ _ _ _ _ _ _ _ _ _ (by omega) g2 (by omega) (by omega) (by rcases x3 with y | y <;> omega) x1 (fun c pl σ' hr => hrd c pl σ' ⟨p, hp, Or.inr ⟨by omega, q, hq, Or.inl ⟨hz, hr⟩⟩⟩)
        · have hc := hp_r0_lt M n T p q σ
          refine ⟨fun w => absurd ((nI_eq (b := 0) (by omega) (by omega)).mp w) hz, fun _ => ?_⟩
          exact kf _ nr σ _ _ _ _ _ _ _ _ _ _ _ (hrd _ nr σ ⟨p, hp, Or.inr ⟨by omega, q, hq, Or.inr ⟨hz, rfl, rfl, rfl⟩⟩⟩) hz hc (by omega)
      · exact fin nr σ _ _ _ _ _ _ _ _ _ _ _ hx hmo (by omega) (by omega) (fun c pl σ' hc => hrd c pl σ' ⟨p, hp, Or.inl ⟨hpl, hc⟩⟩)
  exact key (len + 1) 0 0 hp_S0 _ _ da dv _ _ _ _ _ _ (by omega) (by omega) (by omega) (by decide) (by show n + 0 ≤ 3000; omega) (hp_XS0 M da dv) (fun c pl σ' hr => hr)
theorem hp_readS {a : Nat → Int64} {v : Nat → Int32} {n : Nat} {M : Nat → Option Nat} {A V : Nat → Nat} (h : hp_C a v n M A V) (hn : n ≤ 3000) (hT : hp_TX f len T) (hl : len ≤ 4096) {da : Nat → Int64} {dv : Nat → Int32} {s0 : Int64} {fp : Int32} {Q : Int32 → (Nat → Int64) → (Nat → Int32) → Int32 → Int32 → Int32 → Int32 → (Nat → Int64) → (Nat → Int32) → Int32 → Int32 → Int64 → Int32 → Int32 → Int64 → Int32 → Prop}
    (kf : ∀ c pl σ' fi be df da' dv' ds mo ds0 en rc, hp_RD (hp_r1 M n T) T len (len + 1) 0 0 hp_S0 c pl σ' → c ≠ 0 → c < 11 → pl ≤ len → Q (nI c) a v (nI n) fi be df da' dv' ds mo ds0 en rc s0 (nI pl))
    (k0 : ∀ pl σ' a' v' fi be df da' dv' ds mo ds0 en rc, hp_RD (hp_r1 M n T) T len (len + 1) 0 0 hp_S0 0 pl σ' → n + σ'.2.2.1 ≤ 3000 → hp_R a' v' (n + σ'.2.2.1) (hp_over M σ'.1) → (∀ x, σ'.2.2.2.1 = some x → x < 4294967296) → Q 0 a' v' (nI (n + σ'.2.2.1)) fi be df da' dv' ds mo ds0 en rc (hp_ns0 s0 σ'.2.2.2.1) (-1)) :
    hx_v_Loom_readRecords_SRead a v (nI n) f (nI len) da dv s0 fp Q := by
  unfold hx_v_Loom_readRecords_SRead hx_v_Draft_restart hx_v_Image_forget hx_v_SRead_restart hx_v_Typed_rewind
  intro P20 P71 h20 h71
  -- the end of the text
  have fin : ∀ nr σ fi be df da' dv' ds mo ds0 en rc, hp_XS M σ 0 0 rc da' dv' ds mo ds0 en → n + σ.2.2.1 ≤ 3000 → σ.2.1 ≤ 3000 → nr ≤ len → (∀ c pl σ', (c = (if σ.2.2.2.2.1 = true then 0 else 10) ∧ pl = nr ∧ σ' = σ) → hp_RD (hp_r1 M n T) T len (len + 1) 0 0 hp_S0 c pl σ') → P71 (nI nr) a v (nI n) fi be df da' dv' ds mo ds0 en rc s0 fp := by
    intro nr σ fi be df da' dv' ds mo ds0 en rc hx hmo hdn hnr hrd
    obtain ⟨N, dn, mo', st, en', ba', sg', r⟩ := σ
    obtain ⟨⟨DA, DV, hc, hm⟩, s2, rfl, rfl, rfl, s6, rfl, _, _, _, _⟩ := hx
    dsimp only at hmo hdn hrd
    apply h71
    refine ⟨fun w => ?_, fun w => ?_⟩
    · have hen : en' = true := by
        cases en' with
        | true => rfl
        | false => exact absurd rfl w
      have hr := hrd 0 nr _ ⟨by rw [if_pos hen], rfl, rfl⟩
      subst hm
      refine hp_overlay h hc hmo hdn (fun a' v' hov => ⟨fun z => ?_, fun z => ?_⟩)
      · have e := (hp_stv s6).mp z
        have := k0 nr _ a' v' fi be df da' dv' (nI dn) (nI (hp_rem M DA dn)) (hp_st st) (hp_b en') rc hr hmo hov s6
        rw [e] at this ⊢
        exact this
      · have := k0 nr _ a' v' fi be df da' dv' (nI dn) (nI (hp_rem M DA dn)) (hp_st st) (hp_b en') rc hr hmo hov s6
        cases st with
        | none => exact absurd rfl z
        | some x => exact this
    · have hen : en' = false := hp_b_0.mp w
      exact kf 10 nr _ _ _ _ _ _ _ _ _ _ _ (hrd 10 nr _ ⟨by rw [hen]; rfl, rfl, rfl⟩) (by decide) (by omega) hnr
  have key : ∀ F b nr σ fi df da' dv' ds mo ds0 en rc, len - b < F → b ≤ len → nr ≤ b → 2 * σ.2.1 ≤ b → n + σ.2.2.1 ≤ 3000 → σ.2.2.2.2.2.2.2 ≤ b → hp_XS M σ 0 0 rc da' dv' ds mo ds0 en → (∀ c pl σ', hp_RD (hp_r1 M n T) T len F b nr σ c pl σ' → hp_RD (hp_r1 M n T) T len (len + 1) 0 0 hp_S0 c pl σ') → P20 (nI nr) a v (nI n) fi (nI b) df da' dv' ds mo ds0 en rc s0 fp := by
    intro F
    induction F with
    | zero => intro b nr σ fi df da' dv' ds mo ds0 en rc hF; omega
    | succ F ih =>
      intro b nr σ fi df da' dv' ds mo ds0 en rc hF hb hnr hdn hmo hrc0 hx hrd
      have hrc : σ.2.2.2.2.2.2.2 < 2 ^ 31 := by omega
      apply h20
      refine ⟨fun w => absurd ((nI_leI (a := 8000) (by omega) (by omega)).mp w) (by omega), fun _ => ?_⟩
      refine hp_toNext hT (by omega) hb (fun p q hp hq => ⟨fun hpq => ⟨fun w => absurd w (by decide), fun _ => ?_⟩, fun hpl => ⟨fun _ => ?_, fun w => absurd rfl w⟩⟩)
      · have g1 := hp.1
        have g2 := hq.2.1
        refine hp_faultOf1 h hn hT (by omega) g2 hpq hx (by omega) hrc (fun rc' df' da2 dv2 ds' mo' ds0' en' hres => ?_)
        by_cases hz : (hp_r1 M n T p q σ).1 = 0
        · obtain ⟨x1, x2, x3, x4⟩ := hres hz
          rw [hz]
          refine ⟨fun _ => ?_, fun w => absurd rfl w⟩
          rw [nI_1]
          refine ih q (nr + 1) _ _ _ _ _ _ _ _ _ _ (by omega) g2 (by omega) (by omega) (by rcases x3 with y | y <;> omega) (by omega) x1 (fun c pl σ' hr => hrd c pl σ' ⟨p, hp, Or.inr ⟨by omega, q, hq, Or.inl ⟨hz, hr⟩⟩⟩)
        · have hc := hp_r1_lt M n T p q σ
          refine ⟨fun w => absurd ((nI_eq (b := 0) (by omega) (by omega)).mp w) hz, fun _ => ?_⟩
          exact kf _ nr σ _ _ _ _ _ _ _ _ _ _ (hrd _ nr σ ⟨p, hp, Or.inr ⟨by omega, q, hq, Or.inr ⟨hz, rfl, rfl, rfl⟩⟩⟩) hz hc (by omega)
      · exact fin nr σ _ _ _ _ _ _ _ _ _ _ hx hmo (by omega) (by omega) (fun c pl σ' hc => hrd c pl σ' ⟨p, hp, Or.inl ⟨hpl, hc⟩⟩)
  exact key (len + 1) 0 0 hp_S0 _ _ da dv _ _ _ _ _ (by omega) (by omega) (by omega) (by decide) (by show n + 0 ≤ 3000; omega) (by decide) (hp_XS0 M da dv) (fun c pl σ' hr => hr)
end HPR
