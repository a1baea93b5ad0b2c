/-! one call of the law: both sides answer the same and stay alike -/
def hp_im (xa : Nat → Int64) (xv : Nat → Int32) (xs : Int32) (ma : Nat → Int64) (mv : Nat → Int32) (ms : Int32) : Prop := ∃ n n' M, n ≤ 3000 ∧ n' ≤ 3000 ∧ hp_R xa xv n M ∧ hp_R ma mv n' M ∧ xs = nI n ∧ ms = nI n'
def hp_tx (c : Nat) (tf : Nat → Int32) (tl : Int32) (mt : Nat → Int32) (ml : Int32) : Prop := ∃ len T, len ≤ 8 * c ∧ hp_TX tf len T ∧ hp_TX mt len T ∧ tl = nI len ∧ ml = nI len
def hp_sa (st : Int64) (mhs : Int32) (mst : Int64) : Prop := ∃ s, st = hp_st s ∧ hp_SM s mhs mst
def hp_to (told : Nat → Int32) (tn : Int32) (mtold : Nat → Int32) (mtn : Int32) : Prop := ∃ k, k ≤ 12000 ∧ tn = nI k ∧ mtn = nI k ∧ ∀ j, j < k → told j = mtold j
theorem hp_im_C {xa : Nat → Int64} {xv : Nat → Int32} {xs : Int32} {ma : Nat → Int64} {mv : Nat → Int32} {ms : Int32} (h : hp_im xa xv xs ma mv ms) : ∃ n M A V, n ≤ 3000 ∧ hp_C xa xv n M A V ∧ hp_C ma mv n M A V ∧ xs = nI n ∧ ms = nI n := by
  obtain ⟨n, n', M, hn, _, R, R', e, e'⟩ := h
  obtain ⟨A, V, en, C, C'⟩ := hp_common R R'
  subst en
  exact ⟨n, M, A, V, hn, C, C', e, e'⟩
section HPL
variable {c : Nat} {xa ma : Nat → Int64} {xv mv tf mt told mtold : Nat → Int32} {xs ms tl ml tn mtn mhs : Int32} {st mst : Int64} {G1 G2 G3 : Prop} {w1 w2 w3 : Int32}
theorem hp_case0 (I : hp_tx c tf tl mt ml) (hc : c < 512) (g1 : G1) (g2 : G2) (g3 : G3) {x : Int64} {K : Int32 → (Nat → Int32) → Int32 → Int32 → Int32 → (Nat → Int32) → Int32 → Prop} (k : ∀ r tf tl th mt ml, hp_tx (c + 1) tf tl mt ml → K r tf tl r th mt ml) : hx_v_Loom_type x w3 tf tl (fun r tf tl => G1 ∧ G2 ∧ G3 ∧ hx_v_Model_type x w3 mt ml (fun r' th mt ml => K r tf tl r' th mt ml)) := by
  obtain ⟨len, T, hl, hT, hT', e, e'⟩ := I
  obtain ⟨m, hm, ex⟩ := wb_of x
  subst e e' ex
  refine hp_typeX hm (by omega) (fun j f' ok h1 h2 => ⟨g1, g2, g3, hp_typeM hm (by omega) (fun j' f2 ok' h3 h4 => ?_) (fun no => absurd ⟨j, ok⟩ no)⟩) (fun no => ⟨g1, g2, g3, hp_typeM hm (by omega) (fun j' f2 ok' _ _ => absurd ⟨j', ok'⟩ no) (fun _ => k _ _ _ _ _ _ ⟨len, T, by omega, hT, hT', rfl, rfl⟩)⟩)
  have ej := hp_okt_eq ok ok'
  subst ej
  obtain ⟨o1, o2, _, _, o5⟩ := ok
  have fin : ∀ f g : Nat → Int32, hp_TX f len T → (∀ i, i < len → g i = f i) → (∀ s, s < j → g (len + s) = nI (hp_by m (j - 1 - s))) → hp_TX g (len + j) (fun i => if i < len then T i else hp_by m (j - 1 - (i - len))) := by
    intro f g hf u1 u2 i hi
    show g i = nI (if i < len then T i else hp_by m (j - 1 - (i - len))) ∧ 32 ≤ (if i < len then T i else hp_by m (j - 1 - (i - len))) ∧ (if i < len then T i else hp_by m (j - 1 - (i - len))) ≤ 126
    by_cases q : i < len
    · rw [if_pos q, u1 i q]
      exact hf i q
    · rw [if_neg q]
      have := u2 (i - len) (by omega)
      rw [show len + (i - len) = i by omega] at this
      have b := o5 (j - 1 - (i - len)) (by omega)
      exact ⟨this, b.1, b.2⟩
  exact k _ _ _ _ _ _ ⟨len + j, _, by omega, fin _ _ hT h1 h2, fin _ _ hT' h3 h4, rfl, rfl⟩
theorem hp_case3 (I : hp_im xa xv xs ma mv ms) (g1 : G1) (g2 : G2) {K : Int32 → (Nat → Int64) → (Nat → Int32) → Int32 → Int32 → Int32 → (Nat → Int64) → (Nat → Int32) → Int32 → Prop} (k : ∀ r xa xv xs th ma mv ms, hp_im xa xv xs ma mv ms → K r xa xv xs r th ma mv ms) : hx_v_Loom_set w1 w2 xa xv xs (fun r xa xv xs => G1 ∧ G2 ∧ hx_v_Model_set w1 w2 ma mv ms (fun r' th ma mv ms => K r xa xv xs r' th ma mv ms)) := by
  have I0 := I
  obtain ⟨n, M, A, V, hn, C, C', e, e'⟩ := hp_im_C I
  subst e e'
  refine hp_setX C hn (fun b a1 v1 ok R => ⟨g1, g2, hp_setM C' hn (fun b' a2 v2 ok' R' => ?_) (fun no => absurd ⟨b, ok⟩ no)⟩) (fun no => ⟨g1, g2, hp_setM C' hn (fun b' _ _ ok' _ => absurd ⟨b', ok'⟩ no) (fun _ => k _ _ _ _ _ _ _ _ I0)⟩)
  obtain ⟨p1, p2, p3⟩ := ok
  obtain ⟨q1, q2, _⟩ := ok'
  have eb : b = b' := (nI_eq (by omega) (by omega)).mp (p1.symm.trans q1)
  subst eb
  exact k _ _ _ _ _ _ _ _ ⟨_, _, _, p3, p3, R, R', rfl, rfl⟩
theorem hp_case4 (I : hp_im xa xv xs ma mv ms) (g1 : G1) {K : Int32 → (Nat → Int64) → (Nat → Int32) → Int32 → Int32 → Int32 → (Nat → Int64) → (Nat → Int32) → Int32 → Prop} (k : ∀ r xa xv xs th ma mv ms, hp_im xa xv xs ma mv ms → K r xa xv xs r th ma mv ms) : hx_v_Loom_drop w1 xa xv xs (fun r xa xv xs => G1 ∧ hx_v_Model_drop w1 ma mv ms (fun r' th ma mv ms => K r xa xv xs r' th ma mv ms)) := by
  obtain ⟨n, M, A, V, hn, C, C', e, e'⟩ := hp_im_C I
  subst e e'
  refine hp_dropX C hn (fun r a1 v1 n1 p1 p2 p3 R => ⟨g1, hp_dropM C' hn (fun r' a2 v2 n2 q1 q2 q3 R' => ?_)⟩)
  have er : r = r' := by
    cases hM : M (hp_u w1) with
    | none => rw [p2 hM, q2 hM]
    | some b => rw [p1 b hM, q1 b hM]
  subst er
  exact k _ _ _ _ _ _ _ _ ⟨_, _, _, p3, q3, R, R', rfl, rfl⟩
theorem hp_case5 (I : hp_im xa xv xs ma mv ms) (g1 : G1) {K : Int32 → Int32 → Int32 → Prop} (k : ∀ r th, K r r th) : hx_v_Loom_get w1 xa xv xs (fun r => G1 ∧ hx_v_Model_get w1 ma mv ms (fun r' th => K r r' th)) := by
  obtain ⟨n, M, A, V, hn, C, C', e, e'⟩ := hp_im_C I
  subst e e'
  exact hp_getX C hn ⟨g1, hp_getM C' hn (k _ _)⟩
theorem hp_case6 (I : hp_im xa xv xs ma mv ms) (g1 : G1) (g2 : G2) (g3 : G3) {K : Int32 → (Nat → Int64) → (Nat → Int32) → Int32 → Int32 → Int32 → (Nat → Int64) → (Nat → Int32) → Int32 → Prop} (k : ∀ r xa xv xs th ma mv ms, hp_im xa xv xs ma mv ms → K r xa xv xs r th ma mv ms) : hx_v_Loom_fill w1 w2 w3 xa xv xs (fun r xa xv xs => G1 ∧ G2 ∧ G3 ∧ hx_v_Model_fill w1 w2 w3 ma mv ms (fun r' th ma mv ms => K r xa xv xs r' th ma mv ms)) := by
  have I0 := I
  obtain ⟨n, M, A, V, hn, C, C', e, e'⟩ := hp_im_C I
  subst e e'
  refine hp_fillX C hn (fun j b a1 v1 ok R => ⟨g1, g2, g3, hp_fillM C' hn (fun j' b' a2 v2 ok' R' => ?_) (fun no => absurd ⟨j, b, ok⟩ no)⟩) (fun no => ⟨g1, g2, g3, hp_fillM C' hn (fun j' b' _ _ ok' _ => absurd ⟨j', b', ok'⟩ no) (fun _ => k _ _ _ _ _ _ _ _ I0)⟩)
  obtain ⟨p0, p1, p2, p3⟩ := ok
  obtain ⟨q0, q1, q2, _⟩ := ok'
  have eb : b = b' := (nI_eq (by omega) (by omega)).mp (p1.symm.trans q1)
  have ej := hp_ok_eq p0 q0
  subst eb ej
  exact k _ _ _ _ _ _ _ _ ⟨_, _, _, p3, p3, R, R', rfl, rfl⟩
theorem hp_case7 (I : hp_im xa xv xs ma mv ms) (g1 : G1) (g2 : G2) (g3 : G3) {ha : Nat → Int64} {hv cp : Nat → Int32} {K : Int32 → (Nat → Int64) → (Nat → Int32) → (Nat → Int64) → (Nat → Int32) → Int32 → Int32 → Int32 → (Nat → Int64) → (Nat → Int32) → Int32 → (Nat → Int32) → Prop} (k : ∀ r xa xv ha hv xs th ma mv ms cp, hp_im xa xv xs ma mv ms → K r xa xv ha hv xs r th ma mv ms cp) : hx_v_Loom_copy w1 w2 w3 xa xv ha hv xs (fun r xa xv ha hv xs => G1 ∧ G2 ∧ G3 ∧ hx_v_Model_copy w1 w2 w3 ma mv ms cp (fun r' th ma mv ms cp => K r xa xv ha hv xs r' th ma mv ms cp)) := by
  have I0 := I
  obtain ⟨n, M, A, V, hn, C, C', e, e'⟩ := hp_im_C I
  subst e e'
  refine hp_copyX C hn (fun j a1 v1 _ _ ok R => ⟨g1, g2, g3, hp_copyM C' hn (fun j' a2 v2 _ ok' R' => ?_) (fun _ no => absurd ⟨j, ok⟩ no)⟩) (fun _ _ no => ⟨g1, g2, g3, hp_copyM C' hn (fun j' _ _ _ ok' _ => absurd ⟨j', ok'⟩ no) (fun _ _ => k _ _ _ _ _ _ _ _ _ _ _ I0)⟩)
  obtain ⟨p0, p1, p3⟩ := ok
  obtain ⟨q0, q1, _⟩ := ok'
  have ej := hp_ok_eq p0 q0
  subst ej
  exact k _ _ _ _ _ _ _ _ _ _ _ ⟨_, _, _, p3, p3, R, R', rfl, rfl⟩
theorem hp_case8 (I : hp_im xa xv xs ma mv ms) {K : Int32 → Int32 → Int32 → Int32 → Int32 → Prop} (k : ∀ r xs th ms, hp_im xa xv xs ma mv ms → K r xs r th ms) : hx_v_Loom_clear xs (fun r xs => hx_v_Model_clear ms (fun r' th ms => K r xs r' th ms)) := by
  obtain ⟨n, M, A, V, hn, C, C', e, e'⟩ := hp_im_C I
  subst e e'
  have R0 : ∀ (a : Nat → Int64) (v : Nat → Int32), hp_R a v 0 (fun _ => none) := fun a v => ⟨fun _ => 0, fun _ => 0, fun j hj => absurd hj (Nat.not_lt_zero j), fun i j _ hj => absurd hj (Nat.not_lt_zero j), fun x y h => by cases h⟩
  exact k (nI n) 0 0 0 ⟨0, 0, _, by omega, by omega, R0 _ _, R0 _ _, rfl, rfl⟩
theorem hp_case9 (I : hp_sa st mhs mst) (g1 : G1) (g2 : G2) {K : Int32 → Int64 → Int32 → Int32 → Int32 → Int64 → Prop} (k : ∀ r st th mhs mst, hp_sa st mhs mst → K r st r th mhs mst) : hx_v_Loom_begin w1 w2 st (fun r st => G1 ∧ G2 ∧ hx_v_Model_begin w1 w2 mhs mst (fun r' th mhs mst => K r st r' th mhs mst)) := by
  have neg : ¬ w1 = 0 → ¬ w1 = 1 → G1 ∧ G2 ∧ hx_v_Model_begin w1 w2 mhs mst (fun r' th mhs mst => K 0 st r' th mhs mst) := by
    intro q0 q1
    refine ⟨g1, g2, ?_⟩
    intro P27 h27
    refine ⟨fun _ => k _ _ _ _ _ I, fun q => ⟨fun q2 => ?_, fun _ => k _ _ _ _ _ I⟩⟩
    obtain ⟨j, hj, e⟩ := nI_of q
    subst e
    have u := (nI_leI (b := 1) (by omega) (by omega)).mp q2
    have : j = 0 ∨ j = 1 := by omega
    rcases this with e | e
    · exact absurd (by rw [e]; rfl) q0
    · exact absurd (by rw [e]; rfl) q1
  intro P11 P27 h11 h27
  have go : (w1 = 0 ∨ w1 = 1) → P11 st := by
    intro hw
    apply h11
    refine ⟨fun q => ?_, fun q => ?_⟩
    · have e : w1 = 0 := hw.resolve_right q
      subst e
      apply h27
      refine ⟨g1, g2, ?_⟩
      intro Q27 g27
      refine ⟨fun q => absurd q (by decide), fun _ => ⟨fun _ => ⟨fun _ => ?_, fun q => absurd q (by decide)⟩, fun q => absurd (by decide) q⟩⟩
      apply g27
      exact ⟨hp_bz0, hp_unsignedM (k _ _ _ _ _ ⟨none, rfl, Or.inl ⟨rfl, rfl⟩⟩)⟩
    · subst q
      refine hp_unsignedX ?_
      apply h27
      refine ⟨g1, g2, ?_⟩
      intro Q27 g27
      refine ⟨fun q => absurd q (by decide), fun _ => ⟨fun _ => ⟨fun q => absurd rfl q, fun _ => ?_⟩, fun q => absurd (by decide) q⟩⟩
      apply g27
      exact ⟨hp_bz1, hp_unsignedM (k _ _ _ _ _ ⟨some (hp_u w2), rfl, Or.inr ⟨_, rfl, rfl, rfl, hp_u_lt w2⟩⟩)⟩
  exact ⟨fun q => go (Or.inl q), fun q0 => ⟨fun q => go (Or.inr q), fun q1 => neg q0 q1⟩⟩
theorem hp_case10 (I : hp_sa st mhs mst) {K : Int64 → Int64 → Int32 → Prop} (k : ∀ r th, K r r th) : hx_v_Loom_start st (fun r => hx_v_Model_start mhs mst (fun r' th => K r r' th)) := by
  obtain ⟨s, e, hs⟩ := I
  subst e
  rcases hs with ⟨e1, e2⟩ | ⟨x, e1, e2, e3, e4⟩
  · subst e1 e2
    exact ⟨fun _ => k _ _, fun q => absurd rfl q⟩
  · subst e1 e2 e3
    exact ⟨fun q => absurd q (by decide), fun _ => k _ _⟩
theorem hp_case11 (I : hp_im xa xv xs ma mv ms) (J : hp_to told tn mtold mtn) (g1 : G1) {K : Int32 → Int32 → Int32 → Prop} (k : ∀ r th, K r r th) : hx_v_Loom_count w1 xa xv xs tn (fun r => G1 ∧ hx_v_Model_count w1 ma mv ms mtn (fun r' th => K r r' th)) := by
  obtain ⟨n, M, A, V, hn, C, C', e, e'⟩ := hp_im_C I
  obtain ⟨t, ht, f1, f2, _⟩ := J
  subst e e' f1 f2
  exact hp_countX C hn ⟨g1, hp_countM C' hn (k _ _)⟩
theorem hp_case12 (I : hp_im xa xv xs ma mv ms) (g1 : G1) (g2 : G2) {K : Int64 → Int64 → Int32 → Prop} (k : ∀ r th, K r r th) : hx_v_Loom_run w1 w2 xa xs (fun r => G1 ∧ G2 ∧ hx_v_Model_run w1 w2 ma ms (fun r' th => K r r' th)) := by
  obtain ⟨n, M, A, V, hn, C, C', e, e'⟩ := hp_im_C I
  subst e e'
  refine hp_runX C hn (fun r hr => ⟨g1, g2, hp_runM C' hn (fun r' hr' => ?_)⟩)
  have := hp_run_uniq hn hr hr'
  subst this
  exact k _ _
theorem hp_case13 (I : hp_im xa xv xs ma mv ms) (g1 : G1) {K : Int64 → Int64 → Int32 → Prop} (k : ∀ r th, K r r th) : hx_v_Loom_next w1 xa xs (fun r => G1 ∧ hx_v_Model_next w1 ma ms (fun r' th => K r r' th)) := by
  obtain ⟨n, M, A, V, hn, C, C', e, e'⟩ := hp_im_C I
  subst e e'
  obtain ⟨i, hi⟩ : ∃ i, hp_ix n A (hp_u w1) i := hp_ix_ex _ _ C.2.1
  exact hp_nextX C hn hi (fun q => ⟨g1, hp_nextM C' hn hi (fun _ => k _ _) (fun q' => absurd q (by omega))⟩) (fun q => ⟨g1, hp_nextM C' hn hi (fun q' => absurd q (by omega)) (fun _ => k _ _)⟩)
theorem hp_case14 (I : hp_im xa xv xs ma mv ms) (J : hp_to told tn mtold mtn) (S : hp_sa st mhs mst) (g1 : G1) (g2 : G2) {at' wr sm : Int32} {up : Int64} {dr : Nat → Int32} {ds msm : Int32} {K : Int32 → (Nat → Int32) → Int32 → Int32 → Int32 → Int32 → Int64 → Int32 → Int32 → (Nat → Int32) → (Nat → Int32) → Int32 → Int32 → Int32 → Prop} (k : ∀ r told tn at' wr sm up th mtold dr mtn ds msm, hp_to told tn mtold mtn → K r told tn at' wr sm up r th mtold dr mtn ds msm) : hx_v_Loom_tell w1 w2 xa xv xs told tn at' wr sm up st (fun r told tn at' wr sm up => G1 ∧ G2 ∧ hx_v_Model_tell w1 w2 ma mv ms mhs mst mtold dr mtn ds msm (fun r' th mtold dr mtn ds msm => K r told tn at' wr sm up r' th mtold dr mtn ds msm)) := by
  obtain ⟨n, M, A, V, hn, C, C', e, e'⟩ := hp_im_C I
  obtain ⟨s, es, hs⟩ := S
  subst e e' es
  have hx : ∀ x, s = some x → x < 4294967296 := by
    intro x ex
    rcases hs with ⟨e1, _⟩ | ⟨y, e1, _, _, e4⟩
    · rw [e1] at ex; cases ex
    · rw [e1] at ex; cases ex; exact e4
  refine hp_tellX (fun bad => ⟨g1, g2, hp_tellMbad bad (k _ _ _ _ _ _ _ _ _ _ _ _ _ J)⟩) (fun kind wide ok => ?_)
  obtain ⟨o1, o2, o3, o4⟩ := ok
  subst o3 o4
  refine hp_weave C hn o1 o2 hx (fun hF told' a' w' s' u' ht => ⟨g1, g2, hp_tellM C' hn o1 o2 hs (fun _ mt' d' l' s2 ht' => k _ _ _ _ _ _ _ _ _ _ _ _ _ ⟨_, hF, rfl, rfl, fun j hj => by rw [ht j hj, ht' j hj]⟩) (fun q => absurd hF (by omega))⟩) (fun hF a' w' s' u' => ⟨g1, g2, hp_tellM C' hn o1 o2 hs (fun q => absurd q (by omega)) (fun _ d' l' s2 => k _ _ _ _ _ _ _ _ _ _ _ _ _ J)⟩)
theorem hp_case15 (J : hp_to told tn mtold mtn) (g1 : G1) {K : Int32 → Int32 → Int32 → Prop} (k : ∀ r th, K r r th) : hx_v_Loom_character w1 told tn (fun r => G1 ∧ hx_v_Model_character w1 mtold mtn (fun r' th => K r r' th)) := by
  obtain ⟨t, ht, f1, f2, hj⟩ := J
  subst f1 f2
  refine ⟨fun q => ⟨g1, fun _ => k _ _, fun q' => absurd q q'⟩, fun q => ⟨fun q1 => ⟨g1, fun _ => k _ _, fun _ => ⟨fun _ => k _ _, fun q2 => absurd q1 q2⟩⟩, fun q1 => ?_⟩⟩
  obtain ⟨j, hj31, e⟩ := nI_of q
  subst e
  have hlt : j < t := Nat.not_le.mp fun u => q1 (nI_le u (by omega))
  refine ⟨vp_in_nI (by omega) (by omega), g1, fun q2 => absurd q2 q, fun _ => ⟨fun q2 => absurd q2 q1, fun _ => ⟨vp_in_nI (by omega) (by omega), ?_⟩⟩⟩
  rw [hp_cl (by omega), hj j hlt]
  exact k _ _
theorem hp_case16 (I : hp_im xa xv xs ma mv ms) {K : Int32 → Int32 → Int32 → Prop} (k : ∀ r th, K r r th) : hx_v_Loom_check xa xv xs (fun r => hx_v_Model_check (fun r' th => K r r' th)) := by
  obtain ⟨n, M, A, V, hn, C, C', e, e'⟩ := hp_im_C I
  subst e e'
  exact hp_checkX C hn (k _ _)
end HPL
