/-! copy -/
section HPL
variable {a : Nat → Int64} {v : Nat → Int32} {n : Nat} {M : Nat → Option Nat} {A V : Nat → Nat}
theorem hp_dupC (h : hp_C a v n M A V) {f c t : Nat} {ha : Nat → Int64} {hv : Nat → Int32} {Q : Int32 → (Nat → Int64) → (Nat → Int32) → (Nat → Int64) → (Nat → Int32) → Int32 → Prop} (hn : n ≤ 3000) (hc : c ≤ 256) (hf : f + c ≤ 4294967296) (ht : t + c ≤ 4294967296)
    (full : ∀ ha' hv', 3000 < n + hp_cnt M f c - hp_cnt M t c → Q 0 a v ha' hv' (nI n))
    (ok : ∀ a' v' ha' hv', n + hp_cnt M f c - hp_cnt M t c ≤ 3000 → hp_R a' v' (n + hp_cnt M f c - hp_cnt M t c) (hp_copy M f c t) → Q 1 a' v' ha' hv' (nI (n + hp_cnt M f c - hp_cnt M t c))) : hx_v_Image_duplicate (lN f) (nI c) (lN t) a v ha hv (nI n) Q := by
  unfold hx_v_Image_duplicate
  intro P80 h80
  refine hp_idx h hn (by omega) (fun i0 h0 => ?_)
  rw [hp_ladd (by omega)]
  refine hp_idx h hn (by omega) (fun i1 h1 => ?_)
  have hle := hp_ix_le h0 h1 (by omega)
  have hn1 := h1.1
  have e1 : i1 = i0 + hp_cnt M f c := hp_ix_uniq h1 (hp_ix_cnt h h0 c)
  have hcl := hp_cnt_le M f c
  intro z hz
  have hz : z = nI (i1 - i0) := by
    rw [hz, pk_sub hle, if_neg fun q => ?_]
    have := (nI_ltI (a := 256) (by omega) (by omega)).mp q
    omega
  subst hz
  have ho : hx_cpo (nI i0) (0 : Int32) (nI (i1 - i0)) 3000 256 := by
    refine ⟨nI_pos (by omega), by decide, nI_pos (by omega), ?_, ?_⟩
    · rw [hp_cl (by omega), hp_cl (by omega)]; omega
    · rw [hp_cl (by omega), sb_cl0]; omega
  refine ⟨ho, ho, ?_⟩
  rw [hp_cl (by omega), hp_cl (by omega), sb_cl0]
  have cj : ∀ i j, hp_ix n A t i → hp_ix n A (t + c) j → i + (i1 - i0) + (n - j) = n + hp_cnt M f c - hp_cnt M t c := fun i j hi hj => by
    have e := hp_ix_uniq hj (hp_ix_cnt h hi c)
    have := hj.1
    omega
  refine hp_openBlock h hn ht hc (by omega) (fun i j hi hj hf => ?_) (fun i j a' v' hi hj hle' lo up => ?_)
  · exact ⟨fun q => absurd rfl q, fun _ => full _ _ (by rw [← cj i j hi hj]; exact hf)⟩
  · refine ⟨fun _ => ?_, fun q => absurd q (hp_ine (by have := hi.1; omega))⟩
    have hjn := hj.1
    have held : ∀ s, s < i1 - i0 → va_cpy a ha i0 0 (i1 - i0) s = lN (A (i0 + s)) ∧ va_cpy v hv i0 0 (i1 - i0) s = nI (V (i0 + s)) ∧ f ≤ A (i0 + s) ∧ A (i0 + s) < f + c := by
      intro s hs
      rw [pk_cpy_in (by omega) (by omega), pk_cpy_in (by omega) (by omega), Nat.sub_zero]
      have e := h.1 (i0 + s) (by omega)
      exact ⟨e.1, e.2.1, h0.2.2 _ (by omega) (by omega), h1.2.1 _ (by omega)⟩
    have key : ∀ d s a1 v1, i1 - i0 - s ≤ d → s ≤ i1 - i0 → (∀ k, k < i → a1 k = a k ∧ v1 k = v k) → (∀ r, r < s → a1 (i + r) = lN (A (i0 + r) - f + t) ∧ v1 (i + r) = nI (V (i0 + r))) → (∀ r, j + r < n → a1 (i + (i1 - i0) + r) = a (j + r) ∧ v1 (i + (i1 - i0) + r) = v (j + r)) → P80 (nI (i1 - i0)) (nI i) (nI s) a1 v1 (va_cpy a ha i0 0 (i1 - i0)) (va_cpy v hv i0 0 (i1 - i0)) (nI (i + (i1 - i0) + (n - j))) := by
      intro d
      have fin : ∀ a1 v1, (∀ k, k < i → a1 k = a k ∧ v1 k = v k) → (∀ r, r < i1 - i0 → a1 (i + r) = lN (A (i0 + r) - f + t) ∧ v1 (i + r) = nI (V (i0 + r))) → (∀ r, j + r < n → a1 (i + (i1 - i0) + r) = a (j + r) ∧ v1 (i + (i1 - i0) + r) = v (j + r)) → Q 1 a1 v1 (va_cpy a ha i0 0 (i1 - i0)) (va_cpy v hv i0 0 (i1 - i0)) (nI (i + (i1 - i0) + (n - j))) := by
        intro a1 v1 l1 m1 u1
        rw [cj i j hi hj]
        refine ok a1 v1 _ _ (by rw [← cj i j hi hj]; exact hle') ?_
        rw [← cj i j hi hj]
        exact hp_dupl h h0 h1 hi hj hf ht l1 m1 u1
      induction d with
      | zero =>
        intro s a1 v1 hd hs l1 m1 u1
        apply h80
        obtain rfl : s = i1 - i0 := by omega
        exact ⟨fun _ => fin a1 v1 l1 m1 u1, fun q => absurd (nI_le (Nat.le_refl _) (by omega)) q⟩
      | succ d ih =>
        intro s a1 v1 hd hs l1 m1 u1
        apply h80
        refine ⟨fun q => ?_, fun q => ?_⟩
        · have := (nI_leI (by omega) (by omega)).mp q
          obtain rfl : s = i1 - i0 := by omega
          exact fin a1 v1 l1 m1 u1
        · have hlt : s < i1 - i0 := Nat.not_le.mp fun r => q (nI_le r (by omega))
          have hin := hi.1
          have v1' : vp_in (nI s) 256 := vp_in_nI (by omega) (by omega)
          have v2' : vp_in (nI i + nI s) 3000 := by rw [nI_add]; exact vp_in_nI (by omega) (by omega)
          have hh := held s hlt
          refine ⟨v1', v2', v1', v2', ?_⟩
          rw [nI_add, hp_cl (by omega), hp_cl (by omega), nI_1, hh.1, hh.2.1, lN_sub hh.2.2.1, lN_add]
          refine ih (s + 1) _ _ (by omega) (by omega) (fun k hk => ?_) (fun r hr => ?_) (fun r hr => ?_)
          · rw [pk_uLn (by omega), pk_un (by omega)]
            exact l1 k hk
          · by_cases e : r = s
            · subst e
              rw [pk_uLs, pk_us]
              exact ⟨rfl, rfl⟩
            · rw [pk_uLn (by omega), pk_un (by omega)]
              exact m1 r (by omega)
          · rw [pk_uLn (by omega), pk_un (by omega)]
            exact u1 r hr
    exact key (i1 - i0) 0 a' v' (by omega) (by omega) lo (fun r hr => absurd hr (by omega)) up
theorem hp_copyX (h : hp_C a v n M A V) (hn : n ≤ 3000) {x c y : Int32} {ha : Nat → Int64} {hv : Nat → Int32} {Q : Int32 → (Nat → Int64) → (Nat → Int32) → (Nat → Int64) → (Nat → Int32) → Int32 → Prop}
    (ok : ∀ k a' v' ha' hv', hp_okc M n x c y k → hp_R a' v' (n + hp_cnt M (hp_u x) k - hp_cnt M (hp_u y) k) (hp_copy M (hp_u x) k (hp_u y)) → Q 1 a' v' ha' hv' (nI (n + hp_cnt M (hp_u x) k - hp_cnt M (hp_u y) k)))
    (no : ∀ ha' hv', (¬ ∃ k, hp_okc M n x c y k) → Q 0 a v ha' hv' (nI n)) : hx_v_Loom_copy x c y a v ha hv (nI n) Q := by
  unfold hx_v_Loom_copy
  refine hp_isBlock (fun k hk => ⟨fun q => absurd q (by decide), fun _ => ?_⟩) (fun hk => ⟨fun _ => no _ _ fun ⟨k, h1, _⟩ => hk ⟨k, h1⟩, fun q => absurd rfl q⟩)
  refine hp_isBlock (fun k' hk' => ⟨fun _ => ?_, fun q => absurd q (by decide)⟩) (fun hk' => ⟨fun q => absurd rfl q, fun _ => no _ _ fun ⟨k, _, h2, _⟩ => hk' ⟨k, h2⟩⟩)
  obtain rfl := hp_ok_eq hk hk'
  refine hp_unsignedX (hp_unsignedX ?_)
  obtain ⟨k1, k2, rfl, k4⟩ := hk
  refine hp_dupC h hn k2 k4 hk'.2.2.2 (fun ha' hv' hfull => ⟨fun _ => no _ _ fun ⟨j, g1, g2, g3⟩ => ?_, fun z => absurd rfl z⟩) (fun a' v' ha' hv' hle hr => ⟨fun z => absurd z (by decide), fun _ => ok k a' v' ha' hv' ⟨⟨k1, k2, rfl, k4⟩, hk', hle⟩ hr⟩)
  obtain rfl := hp_ok_eq g1 ⟨k1, k2, rfl, k4⟩
  omega
theorem hp_copyM (h : hp_C a v n M A V) (hn : n ≤ 3000) {x c y : Int32} {cp : Nat → Int32} {Q : Int32 → Int32 → (Nat → Int64) → (Nat → Int32) → Int32 → (Nat → Int32) → Prop}
    (ok : ∀ k a' v' cp', hp_okc M n x c y k → hp_R a' v' (n + hp_cnt M (hp_u x) k - hp_cnt M (hp_u y) k) (hp_copy M (hp_u x) k (hp_u y)) → Q 1 0 a' v' (nI (n + hp_cnt M (hp_u x) k - hp_cnt M (hp_u y) k)) cp')
    (no : ∀ cp', (¬ ∃ k, hp_okc M n x c y k) → Q 0 0 a v (nI n) cp') : hx_v_Model_copy x c y a v (nI n) cp Q := by
  unfold hx_v_Model_copy
  intro P50 P84 P111 P146 h50 h84 h111 h146
  refine hp_isRange (fun k hk => ⟨fun q => absurd q (by decide), fun _ => ?_⟩) (fun hk => ⟨fun _ => no _ fun ⟨k, h1, _⟩ => hk ⟨k, h1⟩, fun q => absurd rfl q⟩)
  refine hp_isRange (fun k' hk' => ⟨fun q => absurd q (by decide), fun _ => ?_⟩) (fun hk' => ⟨fun _ => no _ fun ⟨k, _, h2, _⟩ => hk' ⟨k, h2⟩, fun q => absurd rfl q⟩)
  obtain rfl := hp_ok_eq hk hk'
  have hokx := hk
  obtain ⟨k1, k2, rfl, k4⟩ := hk
  have k5 := hk'.2.2.2
  refine hp_countIn h hn k2 (hp_countIn h hn k2 ?_)
  have hcx := hp_cnt_le M (hp_u x) k
  have hcy := hp_cnt_le M (hp_u y) k
  obtain ⟨iy, hiy⟩ := hp_ix_ex (hp_u y) n h.2.1
  have hcn := (hp_ix_cnt h hiy k).1
  rw [nI_add, pk_sub (by omega)]
  refine ⟨fun q3 => ?_, fun q3 => no _ fun ⟨j, g1, g2, g3⟩ => ?_⟩
  · have hle : n + hp_cnt M (hp_u x) k - hp_cnt M (hp_u y) k ≤ 3000 := (nI_leI (b := 3000) (by omega) (by omega)).mp q3
    -- the third loop
    have key3 : ∀ cp' : Nat → Int32, (∀ s, s < k → cp' s = hp_val M (hp_u x + s)) → ∀ d s a1 v1, k - s ≤ d → s ≤ k → hp_R a1 v1 (n - hp_cnt M (hp_u y) k + hp_cnt M (hp_u x) s) (hp_cp M (hp_u x) k (hp_u y) s) → P111 (nI s) 0 a1 v1 (nI (n - hp_cnt M (hp_u y) k + hp_cnt M (hp_u x) s)) cp' := by
      intro cp' hcp d
      have fin : ∀ a1 v1, hp_R a1 v1 (n - hp_cnt M (hp_u y) k + hp_cnt M (hp_u x) k) (hp_cp M (hp_u x) k (hp_u y) k) → Q 1 0 a1 v1 (nI (n - hp_cnt M (hp_u y) k + hp_cnt M (hp_u x) k)) cp' := by
        intro a1 v1 hr
        rw [hp_cp_end, show n - hp_cnt M (hp_u y) k + hp_cnt M (hp_u x) k = n + hp_cnt M (hp_u x) k - hp_cnt M (hp_u y) k by omega] at hr
        rw [show n - hp_cnt M (hp_u y) k + hp_cnt M (hp_u x) k = n + hp_cnt M (hp_u x) k - hp_cnt M (hp_u y) k by omega]
        exact ok k a1 v1 cp' ⟨hokx, hk', hle⟩ hr
      induction d with
      | zero =>
        intro s a1 v1 hd hs hr
        apply h111
        obtain rfl : s = k := by omega
        exact ⟨fun _ => fin a1 v1 hr, fun z => absurd (nI_le (Nat.le_refl _) (by omega)) z⟩
      | succ d ih =>
        intro s a1 v1 hd hs hr
        apply h111
        refine ⟨fun z => ?_, fun z => ?_⟩
        · have := (nI_leI (by omega) (by omega)).mp z
          obtain rfl : s = k := by omega
          exact fin a1 v1 hr
        · have hlt : s < k := Nat.not_le.mp fun w => z (nI_le w (by omega))
          have vin : vp_in (nI s) 256 := vp_in_nI (by omega) (by omega)
          have ec : hp_cnt M (hp_u x) (s + 1) = hp_cnt M (hp_u x) s + (if (M (hp_u x + s)).isSome then 1 else 0) := rfl
          rw [hp_cl (by omega), hcp s hlt]
          refine ⟨vin, fun z2 => ?_, fun z2 => ?_⟩
          · have hm : M (hp_u x + s) = none := by
              cases q : M (hp_u x + s) with
              | none => rfl
              | some b =>
                exfalso
                obtain ⟨kk, kk1, kk2⟩ := h.2.2 _ _ q
                have hb := (h.1 kk kk1).2.2.2
                rw [kk2, q] at hb
                unfold hp_val at z2
                rw [q] at z2
                have : b < 256 := by rw [Option.some.inj hb.2]; exact hb.1
                exact nI_pos (by omega) z2
            apply h146
            rw [nI_1]
            rw [hm] at ec
            simp only [Option.isSome_none, Bool.false_eq_true, if_false, Nat.add_zero] at ec
            rw [← ec, ← hp_cp_none M _ k _ s hm] at hr
            rw [← ec]
            exact ih (s + 1) a1 v1 (by omega) (by omega) hr
          · obtain ⟨b, hb⟩ : ∃ b, M (hp_u x + s) = some b := by
              cases q : M (hp_u x + s) with
              | none => exact absurd (by unfold hp_val; rw [q]; decide) z2
              | some b => exact ⟨b, rfl⟩
            have hb256 : b < 256 := by
              obtain ⟨kk, kk1, kk2⟩ := h.2.2 _ _ hb
              have e := (h.1 kk kk1).2.2.2
              rw [kk2, hb] at e
              rw [Option.some.inj e.2]
              exact e.1
            refine hp_unsignedM ⟨vin, ?_⟩
            obtain ⟨A1, V1, hc1⟩ := hr
            have hmo := hp_cnt_mono M (hp_u x) s (k - s)
            rw [show s + (k - s) = k by omega] at hmo
            rw [hb] at ec
            simp only [Option.isSome_some, if_true] at ec
            have hmo1 := hp_cnt_mono M (hp_u x) (s + 1) (k - (s + 1))
            rw [show s + 1 + (k - (s + 1)) = k by omega] at hmo1
            rw [hp_ladd (by omega), show hp_val M (hp_u x + s) = nI b by unfold hp_val; rw [hb]]
            refine hp_putM hc1 (by omega) (by omega) hb256 (fun a' v' hr' => ?_)
            rw [← hp_cp_some M (hp_u x) k (hp_u y) s b hlt hb, hp_cp_at M (hp_u x) k (hp_u y) s hlt] at hr'
            rw [hp_cp_at M (hp_u x) k (hp_u y) s hlt]
            simp only [Option.isSome_none, Bool.false_eq_true, if_false] at hr' ⊢
            rw [Nat.add_assoc, ← ec] at hr' ⊢
            apply h146
            rw [nI_1]
            exact ih (s + 1) a' v' (by omega) (by omega) hr'
    -- the second
    have key2 : ∀ cp' : Nat → Int32, (∀ s, s < k → cp' s = hp_val M (hp_u x + s)) → ∀ d s a1 v1, k - s ≤ d → s ≤ k → hp_R a1 v1 (n - hp_cnt M (hp_u y) s) (hp_gap M (hp_u y) s) → P84 (nI s) 0 a1 v1 (nI (n - hp_cnt M (hp_u y) s)) cp' := by
      intro cp' hcp d
      have fin : ∀ a1 v1, hp_R a1 v1 (n - hp_cnt M (hp_u y) k) (hp_gap M (hp_u y) k) → P111 (0 : Int32) 0 a1 v1 (nI (n - hp_cnt M (hp_u y) k)) cp' := by
        intro a1 v1 hr
        rw [← hp_cp_0 M (hp_u x)] at hr
        exact key3 cp' hcp k 0 a1 v1 (by omega) (by omega) hr
      induction d with
      | zero =>
        intro s a1 v1 hd hs hr
        apply h84
        obtain rfl : s = k := by omega
        exact ⟨fun _ => fin a1 v1 hr, fun z => absurd (nI_le (Nat.le_refl _) (by omega)) z⟩
      | succ d ih =>
        intro s a1 v1 hd hs hr
        apply h84
        refine ⟨fun z => ?_, fun z => ?_⟩
        · have := (nI_leI (by omega) (by omega)).mp z
          obtain rfl : s = k := by omega
          exact fin a1 v1 hr
        · have hlt : s < k := Nat.not_le.mp fun w => z (nI_le w (by omega))
          refine hp_unsignedM ?_
          rw [hp_ladd (by omega)]
          obtain ⟨A1, V1, hc1⟩ := hr
          have e0 : hp_gap M (hp_u y) s (hp_u y + s) = M (hp_u y + s) := by unfold hp_gap; rw [if_neg (by omega)]
          have ec : hp_cnt M (hp_u y) (s + 1) = hp_cnt M (hp_u y) s + (if (M (hp_u y + s)).isSome then 1 else 0) := rfl
          refine hp_removeM hc1 (by omega) (by omega) (fun a' v' hr' => ?_)
          rw [hp_gap_succ] at hr'
          rw [e0, Nat.sub_sub, ← ec] at hr' ⊢
          rw [nI_1]
          exact ih (s + 1) a' v' (by omega) (by omega) hr'
    -- the first
    have key1 : ∀ d s (cp' : Nat → Int32), k - s ≤ d → s ≤ k → (∀ r, r < s → cp' r = hp_val M (hp_u x + r)) → P50 (nI s) 0 a v (nI n) cp' := by
      intro d
      have fin : ∀ cp' : Nat → Int32, (∀ r, r < k → cp' r = hp_val M (hp_u x + r)) → P84 (0 : Int32) 0 a v (nI n) cp' := by
        intro cp' hcp
        have := key2 cp' hcp k 0 a v (by omega) (by omega) (by rw [hp_gap_0]; exact ⟨A, V, h⟩)
        exact this
      induction d with
      | zero =>
        intro s cp' hd hs hcp
        apply h50
        obtain rfl : s = k := by omega
        exact ⟨fun _ => fin cp' hcp, fun z => absurd (nI_le (Nat.le_refl _) (by omega)) z⟩
      | succ d ih =>
        intro s cp' hd hs hcp
        apply h50
        refine ⟨fun z => ?_, fun z => ?_⟩
        · have := (nI_leI (by omega) (by omega)).mp z
          obtain rfl : s = k := by omega
          exact fin cp' hcp
        · have hlt : s < k := Nat.not_le.mp fun w => z (nI_le w (by omega))
          refine hp_unsignedM ?_
          rw [hp_ladd (by omega)]
          have go : ∀ r, r = hp_val M (hp_u x + s) → vp_in (nI s) 256 ∧ P50 (nI s + 1) 0 a v (nI n) (upd cp' (nI s).toNatClampNeg r) := by
            intro r hr
            refine ⟨vp_in_nI (by omega) (by omega), ?_⟩
            rw [nI_1, hp_cl (by omega)]
            refine ih (s + 1) _ (by omega) (by omega) (fun r' hr' => ?_)
            by_cases e : r' = s
            · rw [e, pk_us]; exact hr
            · rw [pk_un e]; exact hcp r' (by omega)
          exact hp_valueAtM h (by omega) (by omega) (fun b hb _ => go _ (by unfold hp_val; rw [hb])) (fun h0 => go _ (by unfold hp_val; rw [h0]))
    exact key1 k 0 cp (by omega) (by omega) (fun r hr => absurd hr (by omega))
  · obtain rfl := hp_ok_eq g1 hokx
    exact q3 (show nI _ ≤ nI 3000 from nI_le g3 (by omega))
end HPL
