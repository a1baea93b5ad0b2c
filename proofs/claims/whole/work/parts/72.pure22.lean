/-! telling: where the records end, and the whole text -/
abbrev hp_TS := List Nat × Nat × Nat
def hp_r (kind ty : Nat) (A V : Nat → Nat) (f e : Nat) (S : hp_TS) : hp_TS :=
  if kind = 0 then (hp_rc (if A f / 65536 = S.2.1 then S.1 else hp_rc S.1 ([2, 0, 0, 4] ++ hp_nb (A f / 65536) 2)) ([e - f, A f % 65536 / 256, A f % 65536 % 256, 0] ++ hp_dl V f (e - f)), A f / 65536, S.2.2 + 1)
  else (hp_rs S.1 ty ([ty + 1 + (e - f) + 1] ++ hp_nb (A f) (ty + 1) ++ hp_dl V f (e - f)), S.2.1, S.2.2 + 1)
def hp_ct (kind n wide : Nat) (A : Nat → Nat) (f k : Nat) : Prop := k = n ∨ k - f = wide ∨ hp_bg A k ∨ (kind = 0 ∧ A k % 65536 = 0)
noncomputable def hp_wk (kind n wide ty : Nat) (A V : Nat → Nat) : Nat → Nat → Nat → hp_TS → hp_TS
  | 0, _, _, S => S
  | m + 1, k, f, S => @ite hp_TS (hp_ct kind n wide A f k) (Classical.propDecidable _) (hp_wk kind n wide ty A V m (k + 1) k (hp_r kind ty A V f k S)) (hp_wk kind n wide ty A V m (k + 1) f S)
def hp_fin0 (s : Option Nat) (E : List Nat) : List Nat := hp_rc (match s with
  | none => E
  | some x => hp_rc E ([4, 0, 0, 5] ++ hp_nb x 4)) [0, 0, 0, 1]
def hp_fin1 (s : Option Nat) (ty : Nat) (S : hp_TS) : List Nat := hp_rs (hp_rs S.1 5 ([3] ++ hp_nb S.2.2 2)) (10 - ty) ([ty + 2] ++ hp_nb (s.getD 0) (ty + 1))
def hp_hd : List Nat := hp_rs [] 0 ([3] ++ hp_nb 0 2)
def hp_ty (n : Nat) (A : Nat → Nat) (s : Option Nat) : Nat := if max (s.getD 0) (if n = 0 then 0 else A (n - 1)) < 65536 then 1 else if max (s.getD 0) (if n = 0 then 0 else A (n - 1)) < 16777216 then 2 else 3
noncomputable def hp_txt (kind n wide : Nat) (A V : Nat → Nat) (s : Option Nat) : List Nat :=
  if kind = 0 then hp_fin0 s (hp_wk 0 n wide 0 A V n 1 0 ([], 0, 0)).1 else hp_fin1 s (hp_ty n A s) (hp_wk 1 n wide (hp_ty n A s) A V n 1 0 (hp_hd, 0, 0))
theorem hp_r_ge (kind ty : Nat) (A V : Nat → Nat) (f e : Nat) (S : hp_TS) : S.1.length ≤ (hp_r kind ty A V f e S).1.length := by
  unfold hp_r
  split
  · refine Nat.le_trans ?_ (hp_rc_ge _ _)
    split
    · exact Nat.le_refl _
    · exact hp_rc_ge _ _
  · exact hp_rs_ge _ _ _
theorem hp_wk_ge (kind n wide ty : Nat) (A V : Nat → Nat) : ∀ m k f S, S.1.length ≤ (hp_wk kind n wide ty A V m k f S).1.length
  | 0, _, _, S => Nat.le_refl _
  | m + 1, k, f, S => by
    unfold hp_wk
    split
    · exact Nat.le_trans (hp_r_ge kind ty A V f k S) (hp_wk_ge kind n wide ty A V m _ _ _)
    · exact hp_wk_ge kind n wide ty A V m _ _ _
theorem hp_fin0_ge (s : Option Nat) (E : List Nat) : E.length ≤ (hp_fin0 s E).length := by
  unfold hp_fin0
  refine Nat.le_trans ?_ (hp_rc_ge _ _)
  cases s with
  | none => exact Nat.le_refl _
  | some x => exact hp_rc_ge _ _
theorem hp_fin1_ge (s : Option Nat) (ty : Nat) (S : hp_TS) : S.1.length ≤ (hp_fin1 s ty S).length := by
  unfold hp_fin1
  exact Nat.le_trans (hp_rs_ge _ _ _) (hp_rs_ge _ _ _)
theorem hp_r_le (kind ty : Nat) (A V : Nat → Nat) (f e : Nat) (S : hp_TS) (he : e - f ≤ 32) (ht : ty ≤ 3) : (hp_r kind ty A V f e S).1.length ≤ S.1.length + 100 := by
  unfold hp_r
  split
  · refine Nat.le_trans (hp_rc_le _ _) ?_
    rw [List.length_append, hp_dl_len]
    show _ + 4 + 2 * (4 + _) ≤ _
    split
    · show S.1.length + _ + _ ≤ _
      omega
    · have := hp_rc_le S.1 ([2, 0, 0, 4] ++ hp_nb (A f / 65536) 2)
      rw [List.length_append, hp_nb_len] at this
      have : (hp_rc S.1 ([2, 0, 0, 4] ++ hp_nb (A f / 65536) 2)).length ≤ S.1.length + 4 + 2 * (4 + 2) := this
      omega
  · refine Nat.le_trans (hp_rs_le _ _ _) ?_
    rw [List.length_append, List.length_append, hp_dl_len, hp_nb_len]
    show S.1.length + 5 + 2 * (1 + _ + _) ≤ _
    omega
/-- where the walk stands -/
def hp_wi (wide n k f : Nat) (S : hp_TS) : Prop := f < k ∧ k ≤ n + 1 ∧ k ≤ f + wide ∧ S.1.length ≤ 100 + 100 * f ∧ S.2.2 ≤ f ∧ S.2.1 < 65536
theorem hp_wi_cut {kind n wide ty : Nat} {A V : Nat → Nat} {k f : Nat} {S : hp_TS} (hw : 1 ≤ wide ∧ wide ≤ 32) (ht : ty ≤ 3) (hA : A f < 4294967296) (h : hp_wi wide n k f S) (hk : k ≤ n) : hp_wi wide n (k + 1) k (hp_r kind ty A V f k S) := by
  obtain ⟨h1, h2, h3, h4, h5, h6⟩ := h
  have := hp_r_le kind ty A V f k S (by omega) ht
  refine ⟨by omega, by omega, by omega, by omega, ?_, ?_⟩
  · unfold hp_r
    split
    · show S.2.2 + 1 ≤ k
      omega
    · show S.2.2 + 1 ≤ k
      omega
  · unfold hp_r
    split
    · show A f / 65536 < 65536
      omega
    · exact h6
theorem hp_wi_go {kind n wide : Nat} {A : Nat → Nat} {k f : Nat} {S : hp_TS} (h : hp_wi wide n k f S) (hk : k ≤ n) (hc : ¬ hp_ct kind n wide A f k) : hp_wi wide n (k + 1) f S := by
  obtain ⟨h1, h2, h3, h4, h5, h6⟩ := h
  have hd : k - f ≠ wide := fun e => hc (Or.inr (Or.inl e))
  exact ⟨by omega, by omega, by omega, h4, h5, h6⟩
section HPY3
variable {w : Bool} {t0 : Nat → Int32} {a : Nat → Int64} {v : Nat → Int32} {n : Nat} {M : Nat → Option Nat} {A V : Nat → Nat}
theorem hp_sh16 {x : Nat} (h : x < 4294967296) : lN x >>> ((16 : Int32).toInt64 &&& 63) = lN (x / 65536) := by
  rw [show (16 : Int32) = nI 16 from rfl, wb_c _ (by omega), pf_shr (d := 16) (by rw [wb_tb, wb_sm _ (by omega), BitVec.toNat_ofNat, Nat.mod_eq_of_lt (by omega)]) (by omega)]
theorem hp_lo16 {x : Nat} (h : x < 4294967296) : ((lN x).toInt32 &&& (65535 : Int32)) = nI (x % 65536) := by
  rw [lN_i, pk_andN (by omega) 16 rfl]
theorem hp_colonCut (h : hp_C a v n M A V) (hn : n ≤ 3000) {f e : Nat} (hf : f < e) (he : e ≤ n) (h32 : e - f ≤ 32) {S : hp_TS} (hS : S.1.length ≤ 400000) (hu : S.2.1 < 65536) {told : Nat → Int32} {at' sm : Int32} (z : hp_Z w t0 S.1 told at') {Q : (Nat → Int32) → Int32 → Int32 → Int64 → Prop} (k : ∀ told' a' s', hp_Z w t0 (hp_r 0 0 A V f e S).1 told' a' → Q told' a' s' (lN (hp_r 0 0 A V f e S).2.1)) : hx_v_Teller_colonCut (nI f) (nI (e - f)) told at' (hp_b w) sm (lN S.2.1) a v (nI n) Q := by
  unfold hx_v_Teller_colonCut
  intro P49 h49
  obtain ⟨ha, _, hA, _, _⟩ := h.1 f (by omega)
  have hv : ∀ j, j < n → v j = nI (V j) ∧ V j < 256 := fun j hj => ⟨(h.1 j hj).2.1, (h.1 j hj).2.2.2.1⟩
  have go : ∀ E t1 a1 s1, E.length ≤ 500000 → E = (if A f / 65536 = S.2.1 then S.1 else hp_rc S.1 ([2, 0, 0, 4] ++ hp_nb (A f / 65536) 2)) → hp_Z w t0 E t1 a1 → P49 (lN (A f)) t1 a1 s1 (lN (A f / 65536)) := by
    intro E t1 a1 s1 hE eE z
    apply h49
    rw [hp_lo16 hA]
    have hs := hp_sp_len E
    have h1 := hp_len1 (hp_sp E) 58
    refine hp_openC (t := 0) z (by omega) (by omega) (Nat.mod_lt _ (by decide)) (by omega) (fun t2 a2 s2 y => ?_)
    refine hp_dataY hn (by omega) hv y (by show _ + 2 * 4 + _ ≤ _; omega) (fun t2 a2 s2 y => ?_)
    refine hp_closeC y (hp_a8_app (hp_a8_app (l := [e - f]) (hp_a8_1 (by omega)) (hp_a8_app (l := [A f % 65536 / 256]) (hp_a8_1 (by omega)) (hp_a8_app (l := [A f % 65536 % 256]) (hp_a8_1 (by omega)) (hp_a8_1 (by omega))))) (hp_a8_dl _ fun j hj => (hv _ (by omega)).2)) (by rw [List.length_append, hp_dl_len]; show 4 + _ ≤ 40; omega) (by omega) (fun t2 a2 s2 z => ?_)
    have z : hp_Z w t0 (hp_rc E ([e - f, A f % 65536 / 256, A f % 65536 % 256, 0] ++ hp_dl V f (e - f))) t2 a2 := z
    have k := k t2 a2 s2
    unfold hp_r at k
    rw [if_pos rfl, ← eE] at k
    exact k z
  refine hp_addressOf hn (by omega) (fun _ => ?_) (fun q => absurd q (by omega))
  rw [ha, hp_sh16 hA]
  refine ⟨fun q => ?_, fun q => ?_⟩
  · have q' := (pk_lEQ (by omega) (by omega)).mp q
    rw [← q]
    exact go _ _ _ _ (by omega) (by rw [if_pos q']) z
  · have q' : ¬ A f / 65536 = S.2.1 := fun u => q (by rw [u])
    have hs := hp_sp_len S.1
    have h1 := hp_len1 (hp_sp S.1) 58
    refine hp_openC (n := 2) (off := 0) (t := 4) z (by omega) (by omega) (by omega) (by omega) (fun t2 a2 s2 y => ?_)
    refine hp_numberY (m := 2) y (by omega) (by omega) (by show _ + 2 * 4 + _ ≤ _; omega) (fun t2 a2 s2 y => ?_)
    refine hp_closeC y (hp_a8_app (fun x hx => by simp at hx; omega) (hp_a8_nb _ _)) (by rw [List.length_append, hp_nb_len]; show 4 + 2 ≤ 40; omega) (by omega) (fun t2 a2 s2 z => ?_)
    have hle := hp_rc_le S.1 ([2, 0, 0, 4] ++ hp_nb (A f / 65536) 2)
    rw [List.length_append, hp_nb_len] at hle
    have hle : (hp_rc S.1 ([2, 0, 0, 4] ++ hp_nb (A f / 65536) 2)).length ≤ S.1.length + 4 + 2 * (4 + 2) := hle
    refine go _ _ _ _ ?_ ?_ z
    · show (hp_rc S.1 ([2, 0, 0, 4] ++ hp_nb (A f / 65536) 2)).length ≤ _
      omega
    · rw [if_neg q']
      rfl
theorem hp_sCut (h : hp_C a v n M A V) (hn : n ≤ 3000) {f e ty : Nat} (ht : 1 ≤ ty ∧ ty ≤ 3) (hf : f < e) (he : e ≤ n) (h32 : e - f ≤ 32) {S : hp_TS} (hS : S.1.length ≤ 400000) {told : Nat → Int32} {at' sm : Int32} (z : hp_Z w t0 S.1 told at') {Q : (Nat → Int32) → Int32 → Int32 → Prop} (k : ∀ told' a' s', hp_Z w t0 (hp_r 1 ty A V f e S).1 told' a' → Q told' a' s') : hx_v_Image_addressOf (nI f) a (nI n) (fun c => hx_v_Teller_openS (nI ty) (nI (e - f)) (nI (ty + 1)) c told at' (hp_b w) sm (fun told at' sm => hx_v_Teller_data (nI f) (nI (e - f)) told at' (hp_b w) sm v (nI n) (fun told at' sm => hx_v_Teller_closeS told at' (hp_b w) sm Q))) := by
  obtain ⟨ha, _, hA, _, _⟩ := h.1 f (by omega)
  have hv : ∀ j, j < n → v j = nI (V j) ∧ V j < 256 := fun j hj => ⟨(h.1 j hj).2.1, (h.1 j hj).2.2.2.1⟩
  have hs := hp_sp_len S.1
  have h1 := hp_len1 (hp_sp S.1) 83
  have h2 := hp_len1 (hp_sp S.1 ++ [83]) (48 + ty)
  have e3 : ([ty + 1 + (e - f) + 1] ++ hp_nb (A f) (ty + 1)).length = 1 + (ty + 1) := by rw [List.length_append, hp_nb_len]; rfl
  refine hp_addressOf hn (by omega) (fun _ => ?_) (fun q => absurd q (by omega))
  rw [ha]
  refine hp_openS z (by omega) (by omega) (by omega) (by omega) (by omega) (fun t2 a2 s2 y => ?_)
  refine hp_dataY hn (by omega) hv y (by omega) (fun t2 a2 s2 y => ?_)
  refine hp_closeS y (hp_a8_app (hp_a8_app (hp_a8_1 (by omega)) (hp_a8_nb _ _)) (hp_a8_dl _ fun j hj => (hv _ (by omega)).2)) (by rw [List.length_append, hp_dl_len]; omega) (by omega) (fun t2 a2 s2 z => ?_)
  have k := k t2 a2 s2
  unfold hp_r at k
  rw [if_neg (by decide)] at k
  exact k z
end HPY3
