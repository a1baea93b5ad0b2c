/-! telling: the class's records -/
section HPY4
variable {w : Bool} {t0 : Nat → Int32} {a : Nat → Int64} {v : Nat → Int32} {n : Nat} {M : Nat → Option Nat} {A V : Nat → Nat}
theorem hp_wk_cut {kind n wide ty : Nat} {A V : Nat → Nat} {m k f : Nat} {S : hp_TS} (h : hp_ct kind n wide A f k) : hp_wk kind n wide ty A V (m + 1) k f S = hp_wk kind n wide ty A V m (k + 1) k (hp_r kind ty A V f k S) := by
  rw [hp_wk, if_pos h]
theorem hp_wk_go {kind n wide ty : Nat} {A V : Nat → Nat} {m k f : Nat} {S : hp_TS} (h : ¬ hp_ct kind n wide A f k) : hp_wk kind n wide ty A V (m + 1) k f S = hp_wk kind n wide ty A V m (k + 1) f S := by
  rw [hp_wk, if_neg h]
theorem hp_m1_16 : ¬ ((-1 : Int64) &&& (65535 : Int64)) = (0 : Int64) := by decide
theorem hp_al {x : Nat} (h : x < 4294967296) : (lN x &&& (65535 : Int64)) = (0 : Int64) ↔ x % 65536 = 0 := by
  rw [show (65535 : Int64) = lN (2 ^ 16 - 1) from rfl, wb_mask (by omega) (by decide)]
  exact pk_lEQ (b := 0) (by omega) (by omega)
theorem hp_colonRecords (h : hp_C a v n M A V) (hn : n ≤ 3000) {wide : Nat} (hw : 1 ≤ wide ∧ wide ≤ 32) {s : Option Nat} (hs : ∀ x, s = some x → x < 4294967296) {told : Nat → Int32} {sm : Int32} (z : hp_Z w t0 [] told 0) {Q : (Nat → Int32) → Int32 → Int32 → Int64 → Prop} (k : ∀ told' a' s' u' E', hp_Z w t0 E' told' a' → E'.length ≤ 900000 → (E' = hp_txt 0 n wide A V s ∨ (12000 < E'.length ∧ 12000 < (hp_txt 0 n wide A V s).length)) → Q told' a' s' u') : hx_v_Teller_colonRecords (hp_st s) (nI wide) told 0 (hp_b w) sm a v (nI n) Q := by
  unfold hx_v_Teller_colonRecords
  intro P11 P50 P76 P92 P98 P123 h11 h50 h76 h92 h98 h123
  have eF : hp_txt 0 n wide A V s = hp_fin0 s (hp_wk 0 n wide 0 A V n 1 0 ([], 0, 0)).1 := by
    unfold hp_txt
    rw [if_pos rfl]
  have fin : ∀ E t1 a1 s1 u1, E.length ≤ 400000 → hp_Z w t0 E t1 a1 → (E = (hp_wk 0 n wide 0 A V n 1 0 ([], 0, 0)).1 ∨ (12000 < E.length ∧ 12000 < (hp_txt 0 n wide A V s).length)) → P98 t1 a1 s1 u1 := by
    intro E t1 a1 s1 u1 hE z hor
    have last : ∀ E1 t2 a2 s2, E1.length ≤ 500000 → hp_Z w t0 E1 t2 a2 → (hp_rc E1 [0, 0, 0, 1] = hp_fin0 s E) → P123 t2 a2 s2 u1 := by
      intro E1 t2 a2 s2 hE1 z eq
      apply h123
      have hs1 := hp_sp_len E1
      have h1 := hp_len1 (hp_sp E1) 58
      refine hp_openC (n := 0) (off := 0) (t := 1) z (by omega) (by omega) (by omega) (by omega) (fun t2 a2 s2 y => ?_)
      refine hp_closeC y (fun x hx => by simp at hx; omega) (by show 4 ≤ 40; omega) (by omega) (fun t2 a2 s2 z => ?_)
      have z : hp_Z w t0 (hp_rc E1 [0, 0, 0, 1]) t2 a2 := z
      have hle : (hp_rc E1 [0, 0, 0, 1]).length ≤ E1.length + 4 + 2 * 4 := hp_rc_le E1 [0, 0, 0, 1]
      refine k t2 a2 s2 u1 _ z (by omega) ?_
      rw [eq]
      rcases hor with e | ⟨e1, e2⟩
      · left
        rw [eF, e]
      · right
        exact ⟨Nat.lt_of_lt_of_le e1 (hp_fin0_ge s E), e2⟩
    apply h98
    cases s with
    | none => exact ⟨fun _ => last E t1 a1 s1 (by omega) z rfl, fun q => absurd rfl q⟩
    | some x =>
      have hx := hs x rfl
      refine ⟨fun q => absurd q (hp_lne (by omega)), fun _ => ?_⟩
      have hs1 := hp_sp_len E
      have h1 := hp_len1 (hp_sp E) 58
      refine hp_openC (n := 4) (off := 0) (t := 5) z (by omega) (by omega) (by omega) (by omega) (fun t2 a2 s2 y => ?_)
      refine hp_numberY (a := x) (m := 4) y (by omega) (by omega) (by show _ + 2 * 4 + _ ≤ _; omega) (fun t2 a2 s2 y => ?_)
      refine hp_closeC y (hp_a8_app (fun x hx => by simp at hx; omega) (hp_a8_nb _ _)) (by rw [List.length_append, hp_nb_len]; show 4 + 4 ≤ 40; omega) (by omega) (fun t2 a2 s2 z => ?_)
      have hle := hp_rc_le E ([4, 0, 0, 5] ++ hp_nb x 4)
      rw [List.length_append, hp_nb_len] at hle
      have hle : (hp_rc E ([4, 0, 0, 5] ++ hp_nb x 4)).length ≤ E.length + 4 + 2 * (4 + 4) := hle
      refine last (hp_rc E ([4, 0, 0, 5] ++ hp_nb x 4)) t2 a2 s2 (by omega) z rfl
  have key : ∀ m kk f S t1 a1 s1, kk + m = n + 1 → hp_wi wide n kk f S → hp_Z w t0 S.1 t1 a1 → hp_wk 0 n wide 0 A V m kk f S = hp_wk 0 n wide 0 A V n 1 0 ([], 0, 0) → P11 (nI f) (nI kk) t1 a1 s1 (lN S.2.1) := by
    intro m
    induction m with
    | zero =>
      intro kk f S t1 a1 s1 hkm hi z eq
      apply h11
      have hb := hi.2.2.2.1
      have hf := hi.1
      refine ⟨fun _ => fin S.1 t1 a1 s1 _ (by omega) z (Or.inl (by rw [← eq]; rfl)), fun q => absurd (nI_lt (by omega) (by omega)) q⟩
    | succ m ih =>
      intro kk f S t1 a1 s1 hkm hi z eq
      have hb := hi.2.2.2.1
      have hf := hi.1
      have h3 := hi.2.2.1
      apply h11
      refine ⟨fun q => absurd ((nI_ltI (by omega) (by omega)).mp q) (by omega), fun _ => ⟨fun q => ?_, fun _ => ?_⟩⟩
      · have e : a1 = nI S.1.length := z.2
        rw [e] at q
        have q := (nI_ltI (a := 12000) (by omega) (by omega)).mp q
        have g1 := hp_wk_ge 0 n wide 0 A V (m + 1) kk f S
        have g2 := hp_fin0_ge s (hp_wk 0 n wide 0 A V n 1 0 ([], 0, 0)).1
        rw [eq] at g1
        rw [← eF] at g2
        exact fin S.1 t1 a1 s1 _ (by omega) z (Or.inr ⟨q, by omega⟩)
      · have cut : hp_ct 0 n wide A f kk → P76 (nI f) (nI kk) t1 a1 s1 (lN S.2.1) := by
          intro hc
          apply h76
          rw [pk_sub (by omega)]
          refine hp_colonCut h hn (by omega) (by omega) (by omega) (by omega) hi.2.2.2.2.2 z (fun t2 a2 s2 z => ?_)
          apply h92
          rw [show nI kk + 1 = nI (kk + 1) from nI_1 kk]
          rw [hp_wk_cut hc] at eq
          exact ih (kk + 1) kk _ t2 a2 s2 (by omega) (hp_wi_cut hw (by omega) (h.1 f (by omega)).2.2.1 hi (by omega)) z eq
        have go : ¬ hp_ct 0 n wide A f kk → P92 (nI f) (nI kk) t1 a1 s1 (lN S.2.1) := by
          intro hc
          apply h92
          rw [show nI kk + 1 = nI (kk + 1) from nI_1 kk]
          rw [hp_wk_go hc] at eq
          exact ih (kk + 1) f S t1 a1 s1 (by omega) (hp_wi_go hi (by omega) hc) z eq
        have mid : ∀ y0 : Int32, (kk < n → y0 = 0 → A kk % 65536 ≠ 0) → (kk < n → y0 ≠ 0 → A kk % 65536 = 0) → P50 (nI f) (nI kk) y0 t1 a1 s1 (lN S.2.1) := by
          intro y0 g1 g2
          apply h50
          rw [pk_sub (by omega)]
          refine ⟨fun q => cut (Or.inr (Or.inl ((nI_eq (by omega) (by omega)).mp q))), fun q => ?_⟩
          refine hp_cont h hn (by omega) (fun c1 c2 => ⟨fun q => absurd q (by decide), fun _ => ⟨fun q0 => go ?_, fun q0 => cut ?_⟩⟩) (fun c => ⟨fun _ => cut ?_, fun q => absurd rfl q⟩)
          · rintro (u | u | u | ⟨_, u⟩)
            · omega
            · exact q (by rw [u])
            · exact c2 u
            · exact g1 c1 q0 u
          · exact Or.inr (Or.inr (Or.inr ⟨rfl, g2 c1 q0⟩))
          · rcases c with c | c
            · exact Or.inl (by omega)
            · exact Or.inr (Or.inr (Or.inl c))
        refine hp_addressOf hn (by omega) (fun c => ?_) (fun c => ?_)
        · obtain ⟨ha, _, hA, _, _⟩ := h.1 kk c
          rw [ha]
          refine ⟨fun q => mid 0 (fun _ _ u => q ((hp_al hA).mpr u)) (fun _ q => absurd rfl q), fun q => mid 1 (fun _ q => absurd q (by decide)) (fun _ _ => (hp_al hA).mp q)⟩
        · exact ⟨fun q => mid 0 (fun u => by omega) (fun u => by omega), fun q => absurd q hp_m1_16⟩
  exact key n 1 0 ([], 0, 0) told 0 sm (by omega) ⟨by omega, by omega, by omega, Nat.zero_le _, Nat.le_refl _, by decide⟩ z rfl
theorem hp_mx {x y : Nat} (hx : x < 2 ^ 63) (hy : y < 2 ^ 63) : (if lN x < lN y then lN y else lN x) = lN (max x y) := by
  split
  · rename_i q
    have := (pk_lLT hx hy).mp q
    rw [Nat.max_eq_right (by omega)]
  · rename_i q
    have : ¬ x < y := fun u => q ((pk_lLT hx hy).mpr u)
    rw [Nat.max_eq_left (by omega)]
theorem hp_ty_le (n : Nat) (A : Nat → Nat) (s : Option Nat) : 1 ≤ hp_ty n A s ∧ hp_ty n A s ≤ 3 := by
  unfold hp_ty
  obtain ⟨z, hz⟩ : ∃ z, z = max (s.getD 0) (if n = 0 then 0 else A (n - 1)) := ⟨_, rfl⟩
  rw [← hz]
  split
  · exact ⟨by decide, by decide⟩
  · split
    · exact ⟨by decide, by decide⟩
    · exact ⟨by decide, by decide⟩
theorem hp_lneg {x : Nat} (h : x < 2 ^ 62) : ¬ lN x < (-1 : Int64) := by
  intro u
  have u := Int64.lt_iff_toInt_lt.mp u
  rw [pf_lI (by omega)] at u
  have e : (-1 : Int64).toInt = -1 := rfl
  omega
theorem hp_typeFor {n : Nat} {A : Nat → Nat} {s : Option Nat} {x : Nat} (hx : x = max (s.getD 0) (if n = 0 then 0 else A (n - 1))) (hb : x < 2 ^ 62) {Q : Int32 → Prop} (k : Q (nI (hp_ty n A s))) : hx_v_Teller_typeFor (lN x) Q := by
  unfold hx_v_Teller_typeFor
  unfold hp_ty at k
  rw [← hx] at k
  refine ⟨fun q => ⟨fun q2 => ?_, fun q2 => ?_⟩, fun q => ?_⟩
  · have u1 := (pk_lLT (a := 65535) (by omega) (by omega)).mp q
    have u2 := (pk_lLT (a := 16777215) (by omega) (by omega)).mp q2
    rw [if_neg (by omega), if_neg (by omega)] at k
    exact k
  · have u1 := (pk_lLT (a := 65535) (by omega) (by omega)).mp q
    have u2 : ¬ 16777215 < x := fun u => q2 ((pk_lLT (a := 16777215) (by omega) (by omega)).mpr u)
    rw [if_neg (by omega), if_pos (by omega)] at k
    exact k
  · have u2 : ¬ 65535 < x := fun u => q ((pk_lLT (a := 65535) (by omega) (by omega)).mpr u)
    rw [if_pos (by omega)] at k
    exact k
theorem hp_sRecords (h : hp_C a v n M A V) (hn : n ≤ 3000) {wide : Nat} (hw : 1 ≤ wide ∧ wide ≤ 32) {s : Option Nat} (hs : ∀ x, s = some x → x < 4294967296) {told : Nat → Int32} {sm : Int32} (z : hp_Z w t0 [] told 0) {Q : (Nat → Int32) → Int32 → Int32 → Prop} (k : ∀ told' a' s' E', hp_Z w t0 E' told' a' → E'.length ≤ 900000 → (E' = hp_txt 1 n wide A V s ∨ (12000 < E'.length ∧ 12000 < (hp_txt 1 n wide A V s).length)) → Q told' a' s') : hx_v_Teller_sRecords (hp_st s) (nI wide) told 0 (hp_b w) sm a v (nI n) Q := by
  unfold hx_v_Teller_sRecords
  intro P13 P56 P94 P138 P144 h13 h56 h94 h138 h144
  obtain ⟨ty, ety⟩ : ∃ ty, ty = hp_ty n A s := ⟨_, rfl⟩
  obtain ⟨x, ex⟩ : ∃ x, x = s.getD 0 := ⟨_, rfl⟩
  have hx : x < 4294967296 := by
    cases s with
    | none => rw [ex]; decide
    | some y => rw [ex]; exact hs y rfl
  have hty : 1 ≤ ty ∧ ty ≤ 3 := by rw [ety]; exact hp_ty_le n A s
  have eF : hp_txt 1 n wide A V s = hp_fin1 s ty (hp_wk 1 n wide ty A V n 1 0 (hp_hd, 0, 0)) := by
    unfold hp_txt
    rw [if_neg (by decide), ety]
  have fin : ∀ (S : hp_TS) t1 a1 s1, S.1.length ≤ 400000 → S.2.2 ≤ 3000 → hp_Z w t0 S.1 t1 a1 → (S = hp_wk 1 n wide ty A V n 1 0 (hp_hd, 0, 0) ∨ (12000 < S.1.length ∧ 12000 < (hp_txt 1 n wide A V s).length)) → P144 (lN x) (nI ty) (nI S.2.2) t1 a1 s1 := by
    intro S t1 a1 s1 hE hc z hor
    apply h144
    rw [hp_il (by omega)]
    have hs1 := hp_sp_len S.1
    have h1 := hp_len1 (hp_sp S.1) 83
    have h2 := hp_len1 (hp_sp S.1 ++ [83]) (48 + 5)
    refine hp_openS (t := 5) (n := 0) (wd := 2) z (by omega) (by omega) (by omega) (by omega) (by omega) (fun t2 a2 s2 y => ?_)
    refine hp_closeS y (hp_a8_app (hp_a8_1 (by omega)) (hp_a8_nb _ _)) (by rw [List.length_append, hp_nb_len]; show 1 + 2 ≤ 40; omega) (by omega) (fun t2 a2 s2 z => ?_)
    have z : hp_Z w t0 (hp_rs S.1 5 ([3] ++ hp_nb S.2.2 2)) t2 a2 := z
    have hle := hp_rs_le S.1 5 ([3] ++ hp_nb S.2.2 2)
    rw [List.length_append, hp_nb_len] at hle
    have hle : (hp_rs S.1 5 ([3] ++ hp_nb S.2.2 2)).length ≤ S.1.length + 5 + 2 * (1 + 2) := hle
    obtain ⟨E1, eE1⟩ : ∃ E1, E1 = hp_rs S.1 5 ([3] ++ hp_nb S.2.2 2) := ⟨_, rfl⟩
    rw [← eE1] at z hle
    have hs1 := hp_sp_len E1
    have h1 := hp_len1 (hp_sp E1) 83
    have h2 := hp_len1 (hp_sp E1 ++ [83]) (48 + (10 - ty))
    rw [show (10 : Int32) = nI 10 from rfl, pk_sub (by omega), show nI ty + (1 : Int32) = nI (ty + 1) from nI_1 ty]
    refine hp_openS (n := 0) z (by omega) (by omega) (by omega) (by omega) (by omega) (fun t2 a2 s2 y => ?_)
    refine hp_closeS y (hp_a8_app (hp_a8_1 (by omega)) (hp_a8_nb _ _)) (by rw [List.length_append, hp_nb_len]; show 1 + _ ≤ 40; omega) (by omega) (fun t2 a2 s2 z => ?_)
    have hle2 := hp_rs_le E1 (10 - ty) ([ty + 2] ++ hp_nb x (ty + 1))
    rw [List.length_append, hp_nb_len] at hle2
    have hle2 : (hp_rs E1 (10 - ty) ([ty + 2] ++ hp_nb x (ty + 1))).length ≤ E1.length + 5 + 2 * (1 + (ty + 1)) := hle2
    have z : hp_Z w t0 (hp_rs E1 (10 - ty) ([ty + 2] ++ hp_nb x (ty + 1))) t2 a2 := z
    have eq : hp_rs E1 (10 - ty) ([ty + 2] ++ hp_nb x (ty + 1)) = hp_fin1 s ty S := by rw [eE1, ex]; rfl
    refine k t2 a2 s2 _ z (by omega) ?_
    rw [eq]
    rcases hor with e | ⟨e1, e2⟩
    · left
      rw [eF, e]
    · right
      exact ⟨Nat.lt_of_lt_of_le e1 (hp_fin1_ge s ty S), e2⟩
  have key : ∀ m kk f (S : hp_TS) t1 a1 s1, kk + m = n + 1 → hp_wi wide n kk f S → hp_Z w t0 S.1 t1 a1 → hp_wk 1 n wide ty A V m kk f S = hp_wk 1 n wide ty A V n 1 0 (hp_hd, 0, 0) → P56 (lN x) (nI ty) (nI S.2.2) (nI f) (nI kk) t1 a1 s1 := by
    intro m
    induction m with
    | zero =>
      intro kk f S t1 a1 s1 hkm hi z eq
      apply h56
      have hb := hi.2.2.2.1
      have hf := hi.1
      have hc := hi.2.2.2.2.1
      refine ⟨fun _ => fin S t1 a1 s1 (by omega) (by omega) z (Or.inl (by rw [← eq]; rfl)), fun q => absurd (nI_lt (by omega) (by omega)) q⟩
    | succ m ih =>
      intro kk f S t1 a1 s1 hkm hi z eq
      have hb := hi.2.2.2.1
      have hf := hi.1
      have h3 := hi.2.2.1
      have hcc := hi.2.2.2.2.1
      apply h56
      refine ⟨fun q => absurd ((nI_ltI (by omega) (by omega)).mp q) (by omega), fun _ => ⟨fun q => ?_, fun _ => ?_⟩⟩
      · have e : a1 = nI S.1.length := z.2
        rw [e] at q
        have q := (nI_ltI (a := 12000) (by omega) (by omega)).mp q
        have g1 := hp_wk_ge 1 n wide ty A V (m + 1) kk f S
        have g2 := hp_fin1_ge s ty (hp_wk 1 n wide ty A V n 1 0 (hp_hd, 0, 0))
        rw [eq] at g1
        rw [← eF] at g2
        exact fin S t1 a1 s1 (by omega) (by omega) z (Or.inr ⟨q, by omega⟩)
      · have cut : hp_ct 1 n wide A f kk → P94 (lN x) (nI ty) (nI S.2.2) (nI f) (nI kk) t1 a1 s1 := by
          intro hc
          apply h94
          rw [pk_sub (by omega), show nI ty + (1 : Int32) = nI (ty + 1) from nI_1 ty, show nI S.2.2 + 1 = nI (S.2.2 + 1) from nI_1 _]
          refine hp_sCut h hn hty (by omega) (by omega) (by omega) (by omega) z (fun t2 a2 s2 z => ?_)
          apply h138
          rw [show nI kk + 1 = nI (kk + 1) from nI_1 kk]
          rw [hp_wk_cut hc] at eq
          have := ih (kk + 1) kk _ t2 a2 s2 (by omega) (hp_wi_cut hw (by omega) (h.1 f (by omega)).2.2.1 hi (by omega)) z eq
          rw [show (hp_r 1 ty A V f kk S).2.2 = S.2.2 + 1 by unfold hp_r; rw [if_neg (by decide)]] at this
          exact this
        have go : ¬ hp_ct 1 n wide A f kk → P138 (lN x) (nI ty) (nI S.2.2) (nI f) (nI kk) t1 a1 s1 := by
          intro hc
          apply h138
          rw [show nI kk + 1 = nI (kk + 1) from nI_1 kk]
          rw [hp_wk_go hc] at eq
          exact ih (kk + 1) f S t1 a1 s1 (by omega) (hp_wi_go hi (by omega) hc) z eq
        rw [pk_sub (by omega)]
        refine ⟨fun q => cut (Or.inr (Or.inl ((nI_eq (by omega) (by omega)).mp q))), fun q => ?_⟩
        refine hp_cont h hn (by omega) (fun c1 c2 => ⟨fun _ => go ?_, fun q => absurd q (by decide)⟩) (fun c => ⟨fun q => absurd rfl q, fun _ => cut ?_⟩)
        · rintro (u | u | u | ⟨u, _⟩)
          · omega
          · exact q (by rw [u])
          · exact c2 u
          · exact absurd u (by decide)
        · rcases c with c | c
          · exact Or.inl (by omega)
          · exact Or.inr (Or.inr (Or.inl c))
  have beg : P13 (lN x) told 0 sm := by
    apply h13
    have rest : hx_v_Teller_typeFor (lN (max x (if n = 0 then 0 else A (n - 1)))) (fun c30 => hx_v_Teller_openS (0 : Int32) (0 : Int32) (2 : Int32) (0 : Int64) told 0 (hp_b w) sm (fun f0_told f0_at f0_sum => hx_v_Teller_closeS f0_told f0_at (hp_b w) f0_sum (fun f0_told f0_at f0_sum => P56 (lN x) c30 (0 : Int32) (0 : Int32) (1 : Int32) f0_told f0_at f0_sum))) := by
      have hAl : (if n = 0 then 0 else A (n - 1)) < 4294967296 := by
        split
        · decide
        · exact (h.1 (n - 1) (by omega)).2.2.1
      refine hp_typeFor (n := n) (A := A) (s := s) (by rw [← ex]) (by omega) ?_
      rw [← ety]
      have hs1 := hp_sp_len []
      have h1 := hp_len1 (hp_sp []) 83
      have h2 := hp_len1 (hp_sp [] ++ [83]) (48 + 0)
      have e0 : ([] : List Nat).length = 0 := rfl
      refine hp_openS (t := 0) (n := 0) (wd := 2) (ad := 0) z (by omega) (by omega) (by omega) (by omega) (by omega) (fun t2 a2 s2 y => ?_)
      refine hp_closeS y (hp_a8_app (hp_a8_1 (by omega)) (hp_a8_nb _ _)) (by rw [List.length_append, hp_nb_len]; show 1 + 2 ≤ 40; omega) (by omega) (fun t2 a2 s2 z => ?_)
      have hle := hp_rs_le [] 0 ([3] ++ hp_nb 0 2)
      rw [List.length_append, hp_nb_len] at hle
      have hle : hp_hd.length ≤ 0 + 5 + 2 * (1 + 2) := hle
      exact key n 1 0 (hp_hd, 0, 0) t2 a2 s2 (by omega) ⟨by omega, by omega, by omega, by show hp_hd.length ≤ _; omega, Nat.le_refl _, by decide⟩ z rfl
    unfold hx_v_Image_size
    show hx_v_Image_addressOf (nI n - (1 : Int32)) a (nI n) (fun c22 => hx_v_Teller_typeFor (if lN x < c22 then c22 else lN x) _)
    by_cases h0 : n = 0
    · subst h0
      refine ⟨fun _ => ?_, fun q => absurd (by decide) q⟩
      show hx_v_Teller_typeFor (if lN x < (-1 : Int64) then (-1 : Int64) else lN x) _
      rw [if_neg (hp_lneg (x := x) (by omega))]
      rw [if_pos rfl, Nat.max_eq_left (Nat.zero_le _)] at rest
      exact rest
    · rw [show nI n - (1 : Int32) = nI (n - 1) from pk_sub (a := n) (b := 1) (by omega)]
      refine hp_addressOf hn (by omega) (fun c => ?_) (fun c => absurd c (by omega))
      obtain ⟨ha, _, hA, _, _⟩ := h.1 (n - 1) c
      rw [ha, hp_mx (by omega) (by omega)]
      rw [if_neg h0] at rest
      exact rest
  cases s with
  | none =>
    refine ⟨fun q => absurd rfl q, fun _ => ?_⟩
    have : x = 0 := ex
    rw [this] at beg
    exact beg
  | some y =>
    have : x = y := ex
    rw [this] at beg
    exact ⟨fun _ => beg, fun q => absurd q (hp_lne (by omega))⟩
end HPY4
