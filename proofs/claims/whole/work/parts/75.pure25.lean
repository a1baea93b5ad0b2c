/-! telling: the reference as a whole -/
section HPY6
variable {a : Nat → Int64} {v : Nat → Int32} {n : Nat} {M : Nat → Option Nat} {A V : Nat → Nat}
theorem hp_ct_uniq {kind n wide : Nat} {A : Nat → Nat} {f e e' : Nat} (h : f < e) (h' : f < e') (c : hp_ct kind n wide A f e) (c' : hp_ct kind n wide A f e') (m : ∀ j, f < j → j < e → ¬ hp_ct kind n wide A f j) (m' : ∀ j, f < j → j < e' → ¬ hp_ct kind n wide A f j) : e = e' := by
  rcases Nat.lt_trichotomy e e' with q | q | q
  · exact absurd c (m' e h q)
  · exact q
  · exact absurd c' (m e' h' q)
theorem hp_tellM (h : hp_C a v n M A V) (hn : n ≤ 3000) {kind wide : Nat} (hk : kind ≤ 1) (hw : 1 ≤ wide ∧ wide ≤ 32) {s : Option Nat} {hs' : Int32} {st : Int64} (hs : hp_SM s hs' st) {told dr : Nat → Int32} {tl ds sm : Int32} {Q : Int32 → Int32 → (Nat → Int32) → (Nat → Int32) → Int32 → Int32 → Int32 → Prop}
    (k1 : (hp_txt kind n wide A V s).length ≤ 12000 → ∀ told' d' l' s', (∀ j, j < (hp_txt kind n wide A V s).length → told' j = nI ((hp_txt kind n wide A V s).getD j 0)) → Q (nI (hp_txt kind n wide A V s).length) 0 told' d' (nI (hp_txt kind n wide A V s).length) l' s')
    (k2 : 12000 < (hp_txt kind n wide A V s).length → ∀ d' l' s', Q (-2) 0 told d' tl l' s') : hx_v_Model_tell (nI kind) (nI wide) a v (nI n) hs' st told dr tl ds sm Q := by
  unfold hx_v_Model_tell
  intro P47 P85 P86 P115 P131 P140 P240 P271 P326 h47 h85 h86 h115 h131 h140 h240 h271 h326
  obtain ⟨ty, ety⟩ : ∃ ty, ty = hp_ty n A s := ⟨_, rfl⟩
  obtain ⟨x, ex⟩ : ∃ x, x = s.getD 0 := ⟨_, rfl⟩
  have hx : x < 4294967296 := by
    rcases hs with ⟨e1, _⟩ | ⟨y, e1, _, _, e4⟩
    · rw [ex, e1]; decide
    · rw [ex, e1]; exact e4
  have hty : 1 ≤ ty ∧ ty ≤ 3 := by rw [ety]; exact hp_ty_le n A s
  have hv : ∀ j, j < n → v j = nI (V j) ∧ V j < 256 := fun j hj => ⟨(h.1 j hj).2.1, (h.1 j hj).2.2.2.1⟩
  obtain ⟨F, eF⟩ : ∃ F, F = hp_txt kind n wide A V s := ⟨_, rfl⟩
  rw [← eF] at k1 k2
  obtain ⟨tz, etz⟩ : ∃ tz, tz = (if kind = 0 then 0 else ty) := ⟨_, rfl⟩
  obtain ⟨E0, eE0⟩ : ∃ E0, E0 = (if kind = 0 then [] else hp_hd) := ⟨_, rfl⟩
  obtain ⟨T, eT⟩ : ∃ T, T = hp_wk kind n wide tz A V n 1 0 (E0, 0, 0) := ⟨_, rfl⟩
  have fin : ∀ t1 a1 s1, hp_Z true dr F t1 a1 → hp_a7 F → F.length ≤ 900000 → P326 0 told t1 tl a1 s1 := by
    intro t1 a1 s1 z h7 hl
    apply h326
    exact hp_giveM z h7 hl (fun hF told' ht => k1 hF told' t1 a1 s1 ht) (fun hF => k2 hF t1 a1 s1)
  have key : ∀ d f (S : hp_TS) t1 a1 s1, n - f ≤ d → f ≤ n → hp_wi wide n (f + 1) f S → hp_a7 S.1 → hp_Z true dr S.1 t1 a1 → hp_wk kind n wide tz A V (n - f) (f + 1) f S = T → P140 (lN x) (nI ty) (lN S.2.1) (nI S.2.2) (nI f) 0 told t1 tl a1 s1 := by
    intro d
    induction d with
    | zero =>
      intro f S t1 a1 s1 hd hf hi h7 z eq
      obtain rfl : f = n := by omega
      have hb := hi.2.2.2.1
      have hcc := hi.2.2.2.2.1
      rw [Nat.sub_self] at eq
      have eq : S = T := eq
      apply h140
      refine ⟨fun _ => ⟨fun q => ?_, fun q => ?_⟩, fun q => absurd (nI_le (Nat.le_refl _) (by omega)) q⟩
      · have hk0 : kind = 0 := by
          have : kind ≠ 1 := fun u => q (by rw [u]; rfl)
          omega
        have e : F = hp_fin0 s S.1 := by
          rw [eF, eq, eT, etz, eE0, hk0]
          unfold hp_txt
          rw [if_pos rfl, if_pos rfl, if_pos rfl]
        refine hp_tellEnd hs (by omega) h7 z (fun t2 a2 s2 z g7 gl => ?_)
        rw [← e] at z g7 gl
        exact fin t2 a2 s2 z g7 gl
      · have hk1 : kind = 1 := (nI_eq (b := 1) (by omega) (by omega)).mp q
        have e : F = hp_fin1 s ty S := by
          rw [eF, eq, eT, etz, eE0, hk1]
          unfold hp_txt
          rw [if_neg (by decide), if_neg (by decide), if_neg (by decide), ety]
        rw [hp_il (by omega)]
        refine hp_letterR (t := 5) (wd := 2) (f := 0) (n := 0) hn (by omega) hv z (by omega) (by omega) (by omega) (by omega) (by omega) (fun t2 a2 s2 z => ?_)
        have z : hp_Z true dr (hp_rs S.1 5 ([3] ++ hp_nb S.2.2 2 ++ [])) t2 a2 := z
        rw [List.append_nil] at z
        have ha8 : hp_a8 ([3] ++ hp_nb S.2.2 2) := hp_a8_app (hp_a8_1 (by omega)) (hp_a8_nb _ _)
        have hle := hp_rs_le S.1 5 ([3] ++ hp_nb S.2.2 2)
        rw [List.length_append, hp_nb_len] at hle
        have hle : (hp_rs S.1 5 ([3] ++ hp_nb S.2.2 2)).length ≤ S.1.length + 5 + 2 * (1 + 2) := hle
        have g7 := hp_a7_rs (t := 5) (by omega) h7 ha8
        obtain ⟨E1, eE1⟩ : ∃ E1, E1 = hp_rs S.1 5 ([3] ++ hp_nb S.2.2 2) := ⟨_, rfl⟩
        rw [← eE1] at z hle g7
        rw [show (10 : Int32) = nI 10 from rfl, pk_sub (by omega), show nI ty + (1 : Int32) = nI (ty + 1) from nI_1 ty]
        refine hp_letterR (f := 0) (n := 0) hn (by omega) hv z (by omega) (by omega) (by omega) (by omega) (by omega) (fun t2 a2 s2 z => ?_)
        have z : hp_Z true dr (hp_rs E1 (10 - ty) ([ty + 2] ++ hp_nb x (ty + 1) ++ [])) t2 a2 := z
        rw [List.append_nil] at z
        have ha8 : hp_a8 ([ty + 2] ++ hp_nb x (ty + 1)) := hp_a8_app (hp_a8_1 (by omega)) (hp_a8_nb _ _)
        have hle2 := hp_rs_le E1 (10 - ty) ([ty + 2] ++ hp_nb x (ty + 1))
        rw [List.length_append, hp_nb_len] at hle2
        have hle2 : (hp_rs E1 (10 - ty) ([ty + 2] ++ hp_nb x (ty + 1))).length ≤ E1.length + 5 + 2 * (1 + (ty + 1)) := hle2
        have g7 := hp_a7_rs (t := 10 - ty) (by omega) g7 ha8
        have eq2 : hp_rs E1 (10 - ty) ([ty + 2] ++ hp_nb x (ty + 1)) = F := by rw [e, eE1, ex]; rfl
        rw [eq2] at z hle2 g7
        exact fin t2 a2 s2 z g7 (by omega)
    | succ d ih =>
      intro f S t1 a1 s1 hd hf hi h7 z eq
      by_cases hfn : f = n
      · exact ih f S t1 a1 s1 (by omega) hf hi h7 z eq
      have hlt : f < n := by omega
      have hb := hi.2.2.2.1
      have hcc := hi.2.2.2.2.1
      have hu := hi.2.2.2.2.2
      obtain ⟨ha, _, hA, _, _⟩ := h.1 f hlt
      apply h140
      refine ⟨fun q => absurd ((nI_leI (by omega) (by omega)).mp q) (by omega), fun _ => ?_⟩
      refine hp_cutAt h hn hk hw hlt (fun e he hen hew hct hno => ?_)
      have a8d : hp_a8 (hp_dl V f (e - f)) := hp_a8_dl _ fun j hj => (hv _ (by omega)).2
      have hi' : hp_wi wide n e f S := ⟨he, by omega, by omega, hb, hcc, hu⟩
      have eq' : hp_wk kind n wide tz A V (n - e) (e + 1) e (hp_r kind tz A V f e S) = T := by
        rw [← hp_wk_cut hct, ← eq, show n - f = (e - f - 1) + (n - e + 1) by omega, hp_wk_skip (e - f - 1) (f + 1) (fun j h1 h2 => hno j (by omega) (by omega)), show f + 1 + (e - f - 1) = e by omega]
      have hi2 := hp_wi_cut (kind := kind) (ty := tz) (V := V) hw (by rw [etz]; split <;> omega) hA hi' hen
      have nxt : ∀ t2 a2 s2, hp_a7 (hp_r kind tz A V f e S).1 → hp_Z true dr (hp_r kind tz A V f e S).1 t2 a2 → P271 (lN x) (nI ty) (lN (hp_r kind tz A V f e S).2.1) (nI (hp_r kind tz A V f e S).2.2) (nI f) 0 told t2 tl a2 s2 := by
        intro t2 a2 s2 g7 z
        apply h271
        refine hp_cutAt h hn hk hw hlt (fun e' he' hen' hew' hct' hno' => ?_)
        intro zz hzz
        have : e' = e := hp_ct_uniq he' he hct' hct hno' hno
        rw [this, nI_add, show f + (e - f) = e by omega] at hzz
        subst hzz
        exact ih e _ t2 a2 s2 (by omega) hen hi2 g7 z eq'
      have a5 : S.1.length ≤ 400000 := by omega
      refine ⟨fun q => ?_, fun q => ?_⟩
      · have hk0 : kind = 0 := by
          have : kind ≠ 1 := fun u => q (by rw [u]; rfl)
          omega
        subst hk0
        rw [if_pos rfl] at etz
        subst etz
        have er : hp_r 0 0 A V f e S = (hp_rc (if A f / 65536 = S.2.1 then S.1 else hp_rc S.1 ([2, 0, 0, 4] ++ hp_nb (A f / 65536) 2)) ([e - f, A f % 65536 / 256, A f % 65536 % 256, 0] ++ hp_dl V f (e - f)), A f / 65536, S.2.2 + 1) := by
          unfold hp_r
          rw [if_pos rfl]
        rw [er] at nxt
        have a8r : hp_a8 ([e - f, A f % 65536 / 256, A f % 65536 % 256, 0] ++ hp_dl V f (e - f)) := hp_a8_app (hp_a8_app (l := [e - f]) (hp_a8_1 (by omega)) (hp_a8_app (l := [A f % 65536 / 256]) (hp_a8_1 (by omega)) (hp_a8_app (l := [A f % 65536 % 256]) (hp_a8_1 (by omega)) (hp_a8_1 (by omega))))) a8d
        have go : ∀ E t2 a2 s2, E.length ≤ 500000 → hp_a7 E → E = (if A f / 65536 = S.2.1 then S.1 else hp_rc S.1 ([2, 0, 0, 4] ++ hp_nb (A f / 65536) 2)) → hp_Z true dr E t2 a2 → P240 (lN x) (nI ty) (lN (A f / 65536)) (nI (S.2.2 + 1)) (nI f) (nI (e - f)) 0 told t2 tl a2 s2 := by
          intro E t2 a2 s2 hE g7 eE z
          apply h240
          rw [hp_cl (by omega), ha, show (65536 : Int64) = lN 65536 from rfl, pk_lRem (by omega) (by omega) (by omega)]
          refine ⟨vp_in_nI (by omega) (by omega), ?_⟩
          have hs := hp_sp_len E
          have h1 := hp_len1 (hp_sp E) 58
          refine hp_colonM (t := 0) z (by omega) (by omega) (Nat.mod_lt _ (by decide)) (by omega) (fun t3 a3 s3 y => ?_)
          refine hp_dataM hn (by omega) hv y (by show _ + 2 * 4 + _ ≤ _; omega) (fun t3 a3 s3 y => ?_)
          refine hp_closeM0 y a8r (by rw [List.length_append, hp_dl_len]; show 4 + _ ≤ 40; omega) (by omega) (fun t3 a3 s3 z => ?_)
          have g := hp_a7_rc g7 a8r
          have z : hp_Z true dr (hp_rc E ([e - f, A f % 65536 / 256, A f % 65536 % 256, 0] ++ hp_dl V f (e - f))) t3 a3 := z
          rw [eE] at g z
          exact nxt t3 a3 s3 g z
        rw [hp_cl (by omega), ha, show (65536 : Int64) = lN 65536 from rfl, pk_lDiv (by omega) (by omega) (by omega), show nI S.2.2 + 1 = nI (S.2.2 + 1) from nI_1 _]
        refine ⟨vp_in_nI (by omega) (by omega), fun q2 => ?_, fun q2 => ⟨vp_in_nI (by omega) (by omega), fun zz hzz => ?_⟩⟩
        · have q' := (pk_lEQ (by omega) (by omega)).mp q2
          rw [← q2]
          exact go _ _ _ _ (by omega) h7 (by rw [if_pos q']) z
        · subst hzz
          have q' : ¬ A f / 65536 = S.2.1 := fun u => q2 (by rw [u])
          have hs := hp_sp_len S.1
          have h1 := hp_len1 (hp_sp S.1) 58
          have ha8 : hp_a8 ([2, 0, 0, 4] ++ hp_nb (A f / 65536) 2) := hp_a8_app (fun x hx => by simp at hx; omega) (hp_a8_nb _ _)
          refine hp_colonM (n := 2) (off := 0) (t := 4) z (by omega) (by omega) (by omega) (by omega) (fun t2 a2 s2 y => ?_)
          refine hp_sayBytesY (m := 2) y (by omega) (by omega) (by show _ + 2 * 4 + _ ≤ _; omega) (fun t2 a2 s2 y => ?_)
          refine hp_closeM0 y ha8 (by rw [List.length_append, hp_nb_len]; show 4 + 2 ≤ 40; omega) (by omega) (fun t2 a2 s2 z => ?_)
          have hle := hp_rc_le S.1 ([2, 0, 0, 4] ++ hp_nb (A f / 65536) 2)
          rw [List.length_append, hp_nb_len] at hle
          have hle : (hp_rc S.1 ([2, 0, 0, 4] ++ hp_nb (A f / 65536) 2)).length ≤ S.1.length + 4 + 2 * (4 + 2) := hle
          exact go (hp_rc S.1 ([2, 0, 0, 4] ++ hp_nb (A f / 65536) 2)) _ _ _ (by omega) (hp_a7_rc h7 ha8) (by rw [if_neg q']) z
      · have hk1 : kind = 1 := (nI_eq (b := 1) (by omega) (by omega)).mp q
        subst hk1
        rw [if_neg (by decide)] at etz
        subst etz
        have er : hp_r 1 tz A V f e S = (hp_rs S.1 tz ([tz + 1 + (e - f) + 1] ++ hp_nb (A f) (tz + 1) ++ hp_dl V f (e - f)), S.2.1, S.2.2 + 1) := by
          unfold hp_r
          rw [if_neg (by decide)]
        rw [er] at nxt
        rw [hp_cl (by omega), ha, show nI tz + (1 : Int32) = nI (tz + 1) from nI_1 tz, show nI S.2.2 + 1 = nI (S.2.2 + 1) from nI_1 _]
        refine ⟨vp_in_nI (by omega) (by omega), ?_⟩
        refine hp_letterR hn (by omega) hv z (by omega) (by omega) (by omega) (by omega) (by omega) (fun t2 a2 s2 z => ?_)
        exact nxt t2 a2 s2 (hp_a7_rs (by omega) h7 (hp_a8_app (hp_a8_app (hp_a8_1 (by omega)) (hp_a8_nb _ _)) a8d)) z
  have hhd : hp_hd.length ≤ 100 := by
    have hle := hp_rs_le [] 0 ([3] ++ hp_nb 0 2)
    rw [List.length_append, hp_nb_len] at hle
    have hle : hp_hd.length ≤ 0 + 5 + 2 * (1 + 2) := hle
    omega
  have h7h : hp_a7 hp_hd := hp_a7_rs (by omega) hp_a7_nil (hp_a8_app (hp_a8_1 (by omega)) (hp_a8_nb _ _))
  have beg : ∀ t1 a1 s1, hp_Z true dr E0 t1 a1 → P131 (lN x) (nI ty) 0 told t1 tl a1 s1 := by
    intro t1 a1 s1 z
    apply h131
    refine key n 0 (E0, 0, 0) t1 a1 s1 (by omega) (by omega) ⟨by omega, by omega, by omega, ?_, Nat.le_refl _, by show 0 < 65536; decide⟩ ?_ z eT.symm
    · rw [eE0]
      show (if kind = 0 then [] else hp_hd).length ≤ _
      split
      · exact Nat.zero_le _
      · omega
    · rw [eE0]
      show hp_a7 (if kind = 0 then [] else hp_hd)
      split
      · exact hp_a7_nil
      · exact h7h
  have b115 : P115 (lN x) (nI ty) 0 told dr tl 0 sm := by
    apply h115
    refine ⟨fun q => ?_, fun q => ?_⟩
    · have hk0 : kind = 0 := by
        have : kind ≠ 1 := fun u => q (by rw [u]; rfl)
        omega
      refine beg _ _ _ ?_
      rw [eE0, if_pos hk0]
      exact hp_Z0 true dr
    · have hk1 : kind = 1 := (nI_eq (b := 1) (by omega) (by omega)).mp q
      refine hp_letterR (E := []) (V := V) (t := 0) (wd := 2) (ad := 0) (f := 0) (n := 0) hn (by omega) hv (hp_Z0 true dr) (by show 0 ≤ 990000; omega) (by omega) (by omega) (by omega) (by omega) (fun t2 a2 s2 z => ?_)
      refine beg _ _ _ ?_
      rw [eE0, if_neg (by omega)]
      have z : hp_Z true dr (hp_rs [] 0 ([3] ++ hp_nb 0 2 ++ [])) t2 a2 := z
      rw [List.append_nil] at z
      exact z
  have b86 : ∀ y, y = max x (if n = 0 then 0 else A (n - 1)) → y < 2 ^ 62 → P86 (lN x) (lN y) 0 told dr tl 0 sm := by
    intro y ey hy
    apply h86
    have ty' : ty = if y < 65536 then 1 else if y < 16777216 then 2 else 3 := by
      rw [ety]
      unfold hp_ty
      rw [← ex, ← ey]
    refine ⟨fun q => ⟨fun q2 => ?_, fun q2 => ?_⟩, fun q => ?_⟩
    · have u1 := (pk_lLE (a := 65536) (by omega) (by omega)).mp q
      have u2 := (pk_lLE (a := 16777216) (by omega) (by omega)).mp q2
      rw [if_neg (by omega), if_neg (by omega)] at ty'
      rw [ty'] at b115
      exact b115
    · have u1 := (pk_lLE (a := 65536) (by omega) (by omega)).mp q
      have u2 : ¬ 16777216 ≤ y := fun u => q2 ((pk_lLE (a := 16777216) (by omega) (by omega)).mpr u)
      rw [if_neg (by omega), if_pos (by omega)] at ty'
      rw [ty'] at b115
      exact b115
    · have u1 : ¬ 65536 ≤ y := fun u => q ((pk_lLE (a := 65536) (by omega) (by omega)).mpr u)
      rw [if_pos (by omega)] at ty'
      rw [ty'] at b115
      exact b115
  have b47 : P47 (lN x) 0 told dr tl 0 sm := by
    apply h47
    refine ⟨fun q => ?_, fun q => ?_⟩
    · have h0 := (nI_leI (b := 0) (by omega) (by omega)).mp q
      apply h85
      exact b86 x (by rw [if_pos (by omega), Nat.max_eq_left (Nat.zero_le _)]) (by omega)
    · have h0 : ¬ n = 0 := fun u => q (by rw [u]; decide)
      obtain ⟨ha, _, hA, _, _⟩ := h.1 (n - 1) (by omega)
      rw [show nI n - (1 : Int32) = nI (n - 1) from pk_sub (a := n) (b := 1) (by omega), hp_cl (by omega), ha]
      refine ⟨vp_in_nI (by omega) (by omega), fun q2 => ?_, fun q2 => ⟨vp_in_nI (by omega) (by omega), ?_⟩⟩
      · have u := (pk_lLE (by omega) (by omega)).mp q2
        apply h85
        exact b86 x (by rw [if_neg h0, Nat.max_eq_left (by omega)]) (by omega)
      · have u : ¬ A (n - 1) ≤ x := fun u => q2 ((pk_lLE (by omega) (by omega)).mpr u)
        exact b86 (A (n - 1)) (by rw [if_neg h0, Nat.max_eq_right (by omega)]) (by omega)
  refine ⟨fun q => absurd q (nI_pos (by omega)), fun _ => ⟨fun q => absurd ((nI_ltI (a := 1) (by omega) (by omega)).mp q) (by omega), fun _ => ⟨fun q => absurd ((nI_ltI (b := 1) (by omega) (by omega)).mp q) (by omega), fun _ => ⟨fun _ => ⟨fun q => ?_, fun q => ?_⟩, fun q => absurd ((nI_leI (b := 32) (by omega) (by omega)).mpr hw.2) q⟩⟩⟩⟩
  · rcases hs with ⟨e1, e2⟩ | ⟨y, e1, e2, e3, e4⟩
    · have : x = 0 := by rw [ex, e1]; rfl
      rw [this] at b47
      exact b47
    · rw [e2] at q
      exact absurd q (by decide)
  · rcases hs with ⟨e1, e2⟩ | ⟨y, e1, e2, e3, e4⟩
    · exact absurd e2 q
    · have : x = y := by rw [ex, e1]; rfl
      rw [this] at b47
      rw [e3]
      exact b47
theorem hp_tellMbad {a1 a2 : Int32} {m : Int32} {hs' : Int32} {st : Int64} {told dr : Nat → Int32} {tl ds sm : Int32} {Q : Int32 → Int32 → (Nat → Int32) → (Nat → Int32) → Int32 → Int32 → Int32 → Prop} (bad : ∀ kind wide, ¬ hp_okq a1 a2 kind wide) (k : Q (-1) 0 told dr tl ds sm) : hx_v_Model_tell a1 a2 a v m hs' st told dr tl ds sm Q := by
  unfold hx_v_Model_tell
  intro P47 P85 P86 P115 P131 P140 P240 P271 P326 h47 h85 h86 h115 h131 h140 h240 h271 h326
  refine ⟨fun _ => k, fun q1 => ⟨fun _ => k, fun q2 => ⟨fun _ => k, fun q3 => ⟨fun q4 => ?_, fun _ => k⟩⟩⟩⟩
  obtain ⟨j, hj, e⟩ := nI_of q1
  obtain ⟨wd, g1, g2⟩ := hp_wide q3 q4
  have : ¬ 1 < j := fun u => q2 (by rw [e]; exact (nI_ltI (a := 1) (by omega) (by omega)).mpr u)
  exact absurd ⟨by omega, g1, e, g2⟩ (bad j wd)
end HPY6
