/-! telling: the class as a whole; the reference -/
def hp_a7 (l : List Nat) : Prop := ∀ x, x ∈ l → x < 128
theorem hp_a7_app {l l' : List Nat} (h : hp_a7 l) (h' : hp_a7 l') : hp_a7 (l ++ l') := fun x hx => by
  rcases List.mem_append.mp hx with q | q
  · exact h x q
  · exact h' x q
theorem hp_a7_1 {v : Nat} (h : v < 128) : hp_a7 [v] := fun x hx => by
  rw [List.mem_singleton.mp hx]
  exact h
theorem hp_a7_nil : hp_a7 [] := fun x hx => by cases hx
theorem hp_a7_o {v : Nat} (h : v < 256) : hp_a7 (hp_o v) := hp_a7_app (l := [hp_hx (v / 16)]) (hp_a7_1 (hp_hx_lt (by omega))) (hp_a7_1 (hp_hx_lt (by omega)))
theorem hp_a7_os : ∀ l, hp_a8 l → hp_a7 (hp_os l)
  | [], _ => hp_a7_nil
  | b :: l, h => hp_a7_app (hp_a7_o (h b List.mem_cons_self)) (hp_a7_os l fun x hx => h x (List.mem_cons_of_mem _ hx))
theorem hp_a7_sp {E : List Nat} (h : hp_a7 E) : hp_a7 (hp_sp E) := by
  unfold hp_sp
  refine hp_a7_app h ?_
  split
  · exact hp_a7_nil
  · exact hp_a7_1 (by omega)
theorem hp_a7_rc {E bs : List Nat} (h : hp_a7 E) (hb : hp_a8 bs) : hp_a7 (hp_rc E bs) := hp_a7_app (hp_a7_app (hp_a7_app (hp_a7_sp h) (hp_a7_1 (by omega))) (hp_a7_os bs hb)) (hp_a7_o (Nat.mod_lt _ (by decide)))
theorem hp_a7_rs {E bs : List Nat} {t : Nat} (ht : t < 80) (h : hp_a7 E) (hb : hp_a8 bs) : hp_a7 (hp_rs E t bs) := hp_a7_app (hp_a7_app (hp_a7_app (hp_a7_app (hp_a7_sp h) (hp_a7_1 (by omega))) (hp_a7_1 (by omega))) (hp_a7_os bs hb)) (hp_a7_o (by omega))
theorem hp_a7_at {E : List Nat} (h : hp_a7 E) {k : Nat} (hk : k < E.length) : E.getD k 0 < 128 := by
  rw [List.getD_eq_getElem?_getD, List.getElem?_eq_getElem hk]
  exact h _ (List.getElem_mem hk)
section HPY5
variable {w : Bool} {t0 : Nat → Int32} {a : Nat → Int64} {v : Nat → Int32} {n : Nat} {M : Nat → Option Nat} {A V : Nat → Nat}
theorem hp_Z0 (w : Bool) (t : Nat → Int32) : hp_Z w t [] t 0 := ⟨⟨Nat.zero_le _, fun _ => rfl, fun _ k hk => absurd hk (Nat.not_lt_zero k)⟩, rfl⟩
theorem hp_weave (h : hp_C a v n M A V) (hn : n ≤ 3000) {kind wide : Nat} (hk : kind ≤ 1) (hw : 1 ≤ wide ∧ wide ≤ 32) {s : Option Nat} (hs : ∀ x, s = some x → x < 4294967296) {told : Nat → Int32} {tl at' wr sm : Int32} {up : Int64} {Q : Int32 → (Nat → Int32) → Int32 → Int32 → Int32 → Int32 → Int64 → Prop}
    (k1 : (hp_txt kind n wide A V s).length ≤ 12000 → ∀ told' a' w' s' u', (∀ j, j < (hp_txt kind n wide A V s).length → told' j = nI ((hp_txt kind n wide A V s).getD j 0)) → Q (nI (hp_txt kind n wide A V s).length) told' (nI (hp_txt kind n wide A V s).length) a' w' s' u')
    (k2 : 12000 < (hp_txt kind n wide A V s).length → ∀ a' w' s' u', Q (-2) told tl a' w' s' u') : hx_v_Teller_weave (hp_st s) (nI kind) (nI wide) told tl at' wr sm up a v (nI n) Q := by
  unfold hx_v_Teller_weave
  intro P3 P21 P53 h3 h21 h53
  obtain ⟨F, eF⟩ : ∃ F, F = hp_txt kind n wide A V s := ⟨_, rfl⟩
  rw [← eF] at k1 k2
  have pass : ∀ (w : Bool) (x6 : Int32) t1 a1 wr s1 u1, (∀ t2 a2 s2 u2 E', hp_Z w t1 E' t2 a2 → E'.length ≤ 900000 → (E' = F ∨ (12000 < E'.length ∧ 12000 < F.length)) → P53 x6 t2 tl a2 (hp_b w) s2 u2) → P21 x6 (hp_b w) t1 tl a1 wr s1 u1 := by
    intro w x6 t1 a1 wr s1 u1 hh
    apply h21
    refine ⟨by cases w; exact hp_bz0; exact hp_bz1, fun q => ?_, fun q => ?_⟩
    · have : kind = 1 := by
        have : kind ≠ 0 := fun u => q (by rw [u]; rfl)
        omega
      subst this
      rw [eF] at hh
      exact hp_sRecords h hn hw hs (hp_Z0 w t1) (fun t2 a2 s2 E' z hl hor => hh t2 a2 s2 u1 E' z hl hor)
    · have : kind = 0 := (nI_eq (b := 0) (by omega) (by omega)).mp q
      subst this
      rw [eF] at hh
      exact hp_colonRecords h hn hw hs (hp_Z0 w t1) (fun t2 a2 s2 u2 E' z hl hor => hh t2 a2 s2 u2 E' z hl hor)
  apply h3
  refine ⟨fun q => absurd q (by decide), fun _ => ⟨fun _ => pass false 0 told at' wr sm up (fun t2 a2 s2 u2 E' z hl hor => ?_), fun q => absurd q (by decide)⟩⟩
  obtain ⟨⟨_, z1, _⟩, z2⟩ := z
  have z1 := z1 rfl
  subst z1 z2
  apply h53
  refine ⟨fun q => ?_, fun q => ?_⟩
  · have q := (nI_leI (b := 12000) (by omega) (by omega)).mp q
    have hF : F.length ≤ 12000 := by
      rcases hor with e | e
      · rw [← e]; exact q
      · omega
    apply h3
    refine ⟨fun q => absurd q (by decide), fun _ => ⟨fun q => absurd rfl q, fun _ => pass true _ _ _ _ _ _ (fun t3 a3 s3 u3 E3 z hl3 hor3 => ?_)⟩⟩
    obtain ⟨⟨_, _, z1⟩, z2⟩ := z
    have z1 := z1 rfl
    subst z2
    have e3 : E3 = F := by
      rcases hor3 with e | e
      · exact e
      · omega
    subst e3
    apply h53
    refine ⟨fun _ => ?_, fun q => absurd ((nI_leI (b := 12000) (by omega) (by omega)).mpr hF) q⟩
    apply h3
    refine ⟨fun _ => k1 hF _ _ _ _ _ (fun j hj => z1 j hj (by omega)), fun q => absurd (by decide) q⟩
  · have q : ¬ E'.length ≤ 12000 := fun u => q ((nI_leI (b := 12000) (by omega) (by omega)).mpr u)
    have hF : 12000 < F.length := by
      rcases hor with e | e
      · rw [← e]; omega
      · omega
    exact k2 hF _ _ _ _
/-- the arguments of a telling are fine -/
def hp_okq (a1 a2 : Int32) (kind wide : Nat) : Prop := kind ≤ 1 ∧ (1 ≤ wide ∧ wide ≤ 32) ∧ a1 = nI kind ∧ a2 = nI wide
theorem hp_wide {a2 : Int32} (h1 : ¬ a2 < 1) (h2 : a2 ≤ 32) : ∃ wide, (1 ≤ wide ∧ wide ≤ 32) ∧ a2 = nI wide := by
  have h0 : ¬ a2 < 0 := fun u => h1 (by
    rw [Int32.lt_iff_toInt_lt] at u ⊢
    have e1 : (1 : Int32).toInt = 1 := rfl
    have e0 : (0 : Int32).toInt = 0 := rfl
    omega)
  obtain ⟨j, hj, e⟩ := nI_of h0
  subst e
  have u1 : ¬ j < 1 := fun u => h1 ((nI_ltI (b := 1) (by omega) (by omega)).mpr u)
  have u2 := (nI_leI (b := 32) (by omega) (by omega)).mp h2
  exact ⟨j, ⟨by omega, u2⟩, rfl⟩
theorem hp_tellX {a1 a2 : Int32} {st : Int64} {told : Nat → Int32} {tl at' wr sm : Int32} {up : Int64} {Q : Int32 → (Nat → Int32) → Int32 → Int32 → Int32 → Int32 → Int64 → Prop} (bad : (∀ kind wide, ¬ hp_okq a1 a2 kind wide) → Q (-1) told tl at' wr sm up) (good : ∀ kind wide, hp_okq a1 a2 kind wide → hx_v_Teller_weave st (nI kind) (nI wide) told tl at' wr sm up a v (nI n) Q) : hx_v_Loom_tell a1 a2 a v (nI n) told tl at' wr sm up st Q := by
  unfold hx_v_Loom_tell
  intro P9 h9
  have go : (∃ kind, kind ≤ 1 ∧ a1 = nI kind) → P9 told tl at' wr sm up := by
    rintro ⟨kind, hk, e⟩
    apply h9
    refine ⟨fun q => bad ?_, fun q => ⟨fun q2 => ?_, fun q2 => bad ?_⟩⟩
    · rintro k w ⟨_, g, _, g2⟩
      rw [g2] at q
      have := (nI_ltI (b := 1) (by omega) (by omega)).mp q
      omega
    · obtain ⟨wide, g1, g2⟩ := hp_wide q q2
      have := good kind wide ⟨hk, g1, e, g2⟩
      rw [← e, ← g2] at this
      exact this
    · rintro k w ⟨_, g, _, g2⟩
      rw [g2] at q2
      exact q2 ((nI_leI (b := 32) (by omega) (by omega)).mpr g.2)
  refine ⟨fun q => go ⟨0, by omega, q⟩, fun q => ⟨fun q2 => bad ?_, fun q2 => go ⟨1, by omega, q2⟩⟩⟩
  rintro k w ⟨g, _, g1, _⟩
  have : k = 0 ∨ k = 1 := by omega
  rcases this with u | u
  · exact q (by rw [g1, u]; rfl)
  · exact q2 (by rw [g1, u]; rfl)
/-! the reference -/
theorem hp_cutAt (h : hp_C a v n M A V) (hn : n ≤ 3000) {kind wide f : Nat} (hk : kind ≤ 1) (hw : 1 ≤ wide ∧ wide ≤ 32) (hf : f < n) {Q : Int32 → Prop} (k : ∀ e, f < e → e ≤ n → e - f ≤ wide → hp_ct kind n wide A f e → (∀ j, f < j → j < e → ¬ hp_ct kind n wide A f j) → Q (nI (e - f))) : hx_v_Model_cutAt (nI kind) (nI f) (nI wide) a (nI n) Q := by
  unfold hx_v_Model_cutAt
  intro P5 P52 h5 h52 z hz
  subst hz
  have key : ∀ d j, n - j ≤ d → f < j → j ≤ n → j - f ≤ wide → (∀ i, f < i → i < j → ¬ hp_ct kind n wide A f i) → P5 (nI j) := by
    intro d
    induction d with
    | zero =>
      intro j hd hj hjn hjw hno
      apply h5
      rw [pk_sub (by omega)]
      exact ⟨fun _ => k j hj hjn hjw (Or.inl (by omega)) hno, fun q => absurd (nI_le (by omega) (by omega)) q⟩
    | succ d ih =>
      intro j hd hj hjn hjw hno
      apply h5
      rw [pk_sub (by omega)]
      refine ⟨fun q => k j hj hjn hjw (Or.inl ?_) hno, fun q => ⟨fun q2 => k j hj hjn hjw (Or.inr (Or.inl ?_)) hno, fun q2 => ?_⟩⟩
      · have := (nI_leI (by omega) (by omega)).mp q
        omega
      · have := (nI_leI (by omega) (by omega)).mp q2
        omega
      · have hlt : j < n := Nat.not_le.mp fun u => q (nI_le u (by omega))
        have hwt : ¬ wide ≤ j - f := fun u => q2 (nI_le u (by omega))
        have go : ¬ hp_ct kind n wide A f j → P52 (nI j) := by
          intro hc
          apply h52
          rw [show nI j + 1 = nI (j + 1) from nI_1 j]
          refine ih (j + 1) (by omega) (by omega) (by omega) (by omega) (fun i hi1 hi2 => ?_)
          by_cases e : i = j
          · rw [e]; exact hc
          · exact hno i hi1 (by omega)
        refine hp_begins h hn hlt (fun c => ⟨fun _ => k j hj hjn hjw (Or.inr (Or.inr (Or.inl c))) hno, fun q => absurd q (by decide)⟩) (fun c => ⟨fun q => absurd rfl q, fun _ => ⟨fun q3 => ?_, fun q3 => ?_⟩⟩)
        · have : kind = 1 := (nI_eq (b := 1) (by omega) (by omega)).mp q3
          refine go ?_
          rintro (u | u | u | ⟨u, _⟩)
          · omega
          · omega
          · exact c u
          · omega
        · have : kind = 0 := by
            have : kind ≠ 1 := fun u => q3 (by rw [u]; rfl)
            omega
          obtain ⟨ha, _, hA, _, _⟩ := h.1 j hlt
          rw [hp_cl (by omega), ha, show (65536 : Int64) = lN 65536 from rfl, pk_lRem (by omega) (by omega) (by omega)]
          refine ⟨vp_in_nI (by omega) (by omega), fun q4 => k j hj hjn hjw (Or.inr (Or.inr (Or.inr ⟨this, ?_⟩))) hno, fun q4 => go ?_⟩
          · exact (pk_lEQ (b := 0) (by omega) (by omega)).mp q4
          · rintro (u | u | u | ⟨_, u⟩)
            · omega
            · omega
            · exact c u
            · exact q4 (by rw [u]; rfl)
  rw [show nI f + (1 : Int32) = nI (f + 1) from nI_1 f]
  exact key n (f + 1) (by omega) (by omega) (by omega) (by omega) (fun i h1 h2 => by omega)
theorem hp_wk_skip {kind n wide ty : Nat} {A V : Nat → Nat} {m f : Nat} {S : hp_TS} : ∀ d k, (∀ j, k ≤ j → j < k + d → ¬ hp_ct kind n wide A f j) → hp_wk kind n wide ty A V (d + m) k f S = hp_wk kind n wide ty A V m (k + d) f S
  | 0, k, _ => by rw [Nat.zero_add, Nat.add_zero]
  | d + 1, k, h => by
    rw [show d + 1 + m = (d + m) + 1 by omega, hp_wk_go (h k (by omega) (by omega)), hp_wk_skip d (k + 1) (fun j h1 h2 => h j (by omega) (by omega)), show k + 1 + d = k + (d + 1) by omega]
theorem hp_tellEnd {s : Option Nat} {hs' : Int32} {st : Int64} (hs : hp_SM s hs' st) {E : List Nat} {dr : Nat → Int32} {ds sm : Int32} (hE : E.length ≤ 400000) (h7 : hp_a7 E) (z : hp_Z true t0 E dr ds) {Q : (Nat → Int32) → Int32 → Int32 → Prop} (k : ∀ dr' ds' s', hp_Z true t0 (hp_fin0 s E) dr' ds' → hp_a7 (hp_fin0 s E) → (hp_fin0 s E).length ≤ 900000 → Q dr' ds' s') : hx_v_Model_tellEnd hs' st dr ds sm Q := by
  unfold hx_v_Model_tellEnd
  intro P28 h28
  have last : ∀ E1 t2 a2 s2, E1.length ≤ 500000 → hp_a7 E1 → hp_Z true t0 E1 t2 a2 → (hp_rc E1 [0, 0, 0, 1] = hp_fin0 s E) → P28 t2 a2 s2 := by
    intro E1 t2 a2 s2 hE1 h7 z eq
    apply h28
    have hs1 := hp_sp_len E1
    have h1 := hp_len1 (hp_sp E1) 58
    have ha8 : hp_a8 [0, 0, 0, 1] := fun x hx => by simp at hx; omega
    refine hp_colonM (n := 0) (off := 0) (t := 1) z (by omega) (by omega) (by omega) (by omega) (fun t2 a2 s2 y => ?_)
    refine hp_closeM0 y ha8 (by show 4 ≤ 40; omega) (by omega) (fun t2 a2 s2 z => ?_)
    have z : hp_Z true t0 (hp_rc E1 [0, 0, 0, 1]) t2 a2 := z
    have hle : (hp_rc E1 [0, 0, 0, 1]).length ≤ E1.length + 4 + 2 * 4 := hp_rc_le E1 [0, 0, 0, 1]
    have g7 := hp_a7_rc h7 ha8
    rw [eq] at z hle g7
    exact k t2 a2 s2 z g7 (by omega)
  rcases hs with ⟨e1, e2⟩ | ⟨x, e1, e2, e3, e4⟩
  · subst e1 e2
    exact ⟨fun _ => last E dr ds sm (by omega) h7 z rfl, fun q => absurd rfl q⟩
  · subst e1 e2 e3
    refine ⟨fun q => absurd q (by decide), fun _ => ?_⟩
    have hs1 := hp_sp_len E
    have h1 := hp_len1 (hp_sp E) 58
    have ha8 : hp_a8 ([4, 0, 0, 5] ++ hp_nb x 4) := hp_a8_app (fun x hx => by simp at hx; omega) (hp_a8_nb _ _)
    refine hp_colonM (n := 4) (off := 0) (t := 5) z (by omega) (by omega) (by omega) (by omega) (fun t2 a2 s2 y => ?_)
    refine hp_sayBytesY (a := x) (m := 4) y (by omega) (by omega) (by show _ + 2 * 4 + _ ≤ _; omega) (fun t2 a2 s2 y => ?_)
    refine hp_closeM0 y ha8 (by rw [List.length_append, hp_nb_len]; show 4 + 4 ≤ 40; omega) (by omega) (fun t2 a2 s2 z => ?_)
    have hle := hp_rc_le E ([4, 0, 0, 5] ++ hp_nb x 4)
    rw [List.length_append, hp_nb_len] at hle
    have hle : (hp_rc E ([4, 0, 0, 5] ++ hp_nb x 4)).length ≤ E.length + 4 + 2 * (4 + 4) := hle
    exact last (hp_rc E ([4, 0, 0, 5] ++ hp_nb x 4)) t2 a2 s2 (by omega) (hp_a7_rc h7 ha8) z rfl
theorem hp_giveM {F : List Nat} {told dr : Nat → Int32} {tl ds : Int32} (z : hp_Z true t0 F dr ds) (h7 : hp_a7 F) (hl : F.length ≤ 900000) {Q : Int32 → (Nat → Int32) → Int32 → Prop} (k1 : F.length ≤ 12000 → ∀ told', (∀ j, j < F.length → told' j = nI (F.getD j 0)) → Q (nI F.length) told' (nI F.length)) (k2 : 12000 < F.length → Q (-2) told tl) : hx_v_Model_give told dr tl ds Q := by
  unfold hx_v_Model_give
  intro P15 h15
  obtain ⟨⟨_, _, z1⟩, z2⟩ := z
  have z1 := z1 rfl
  subst z2
  refine ⟨fun q => ?_, fun q => k2 (Nat.not_le.mp fun u => q ((nI_leI (b := 12000) (by omega) (by omega)).mpr u))⟩
  have hF := (nI_leI (b := 12000) (by omega) (by omega)).mp q
  have key : ∀ d j t, j + d = F.length → (∀ i, i < j → t i = nI (F.getD i 0)) → P15 (nI j) t tl := by
    intro d
    induction d with
    | zero =>
      intro j t hj ht
      apply h15
      refine ⟨fun _ => k1 hF t (fun i hi => ht i (by omega)), fun q => absurd (nI_le (by omega) (by omega)) q⟩
    | succ d ih =>
      intro j t hj ht
      apply h15
      refine ⟨fun q => absurd ((nI_leI (by omega) (by omega)).mp q) (by omega), fun _ => ⟨vp_in_nI (by omega) (by omega), vp_in_nI (by omega) (by omega), ?_⟩⟩
      rw [hp_cl (by omega), z1 j (by omega) (by omega), vp_nar_byte, hp_b8 _ (hp_a7_at h7 (by omega)), show nI j + 1 = nI (j + 1) from nI_1 j]
      refine ih (j + 1) _ (by omega) (fun i hi => ?_)
      by_cases e : i = j
      · rw [e, pk_us]
      · rw [pk_un e]
        exact ht i (by omega)
  exact key F.length 0 told (by omega) (fun i hi => absurd hi (Nat.not_lt_zero i))
end HPY5
