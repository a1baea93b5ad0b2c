/-! the class's image: what its methods' propositions say -/
section HPI
variable {a : Nat → Int64} {v : Nat → Int32} {n : Nat} {M : Nat → Option Nat} {A V : Nat → Nat}
theorem hp_indexFrom {x : Nat} {Q : Int32 → Prop} (hn : n ≤ 3000) (ha : ∀ k, k < n → a k = lN (A k) ∧ A k < 4294967296) (hs : hp_so n A) (hx : x ≤ 8589934592) (hq : ∀ i, hp_ix n A x i → Q (nI i)) : hx_v_Image_indexFrom (lN x) a (nI n) Q := by
  unfold hx_v_Image_indexFrom
  intro P8 P46 h8 h46
  have key : ∀ d lo hi, hi - lo ≤ d → lo ≤ hi → hi ≤ n → (∀ k, k < lo → A k < x) → (∀ k, hi ≤ k → k < n → x ≤ A k) → P8 (nI lo) (nI hi) := by
    intro d
    induction d with
    | zero =>
      intro lo hi h1 h2 h3 h4 h5
      apply h8
      exact ⟨fun _ => hq lo ⟨by omega, h4, fun k hk => h5 k (by omega)⟩, fun c => absurd (nI_le (by omega) (by omega)) c⟩
    | succ d ih =>
      intro lo hi h1 h2 h3 h4 h5
      apply h8
      refine ⟨fun c => ?_, fun c => ?_⟩
      · have : hi ≤ lo := (nI_leI (by omega) (by omega)).mp c
        exact hq lo ⟨by omega, h4, fun k hk => h5 k (by omega)⟩
      · have hlt : lo < hi := Nat.not_le.mp fun q => c (nI_le q (by omega))
        intro z hz
        have hz : z = nI ((lo + hi) / 2) := by rw [hz, nI_add, show (2 : Int32) = nI 2 from rfl, pk_div (by omega) (by omega) (by omega)]
        subst hz
        have hm : (lo + hi) / 2 < n := by omega
        rw [hp_cl (by omega)]
        have hA := ha _ hm
        refine ⟨vp_in_nI (by omega) (by omega), fun c2 => ?_, fun c2 => ?_⟩
        · rw [hA.1] at c2
          have c2 := (pk_lLE (by omega) (by omega)).mp c2
          refine h46 _ _ (ih lo _ (by omega) (by omega) (by omega) h4 (fun k hk hkn => ?_))
          by_cases e : k = (lo + hi) / 2
          · rw [e]; exact c2
          · have := hs ((lo + hi) / 2) k (by omega) hkn
            omega
        · rw [hA.1] at c2
          have c2 : A ((lo + hi) / 2) < x := Nat.not_le.mp fun q => c2 ((pk_lLE (by omega) (by omega)).mpr q)
          intro z hz
          rw [nI_1] at hz
          subst hz
          refine h46 _ _ (ih _ hi (by omega) (by omega) h3 (fun k hk => ?_) h5)
          by_cases e : k = (lo + hi) / 2
          · rw [e]; exact c2
          · have := hs k ((lo + hi) / 2) (by omega) hm
            omega
  exact key n 0 n (by omega) (by omega) (by omega) (fun k hk => absurd hk (by omega)) (fun k hk hkn => absurd hk (by omega))
theorem hp_addressOf {i : Nat} {Q : Int64 → Prop} (hn : n ≤ 3000) (hi : i < 2 ^ 31) (h1 : i < n → Q (a i)) (h2 : n ≤ i → Q (-1)) : hx_v_Image_addressOf (nI i) a (nI n) Q := by
  unfold hx_v_Image_addressOf
  refine ⟨fun c => absurd c (nI_pos hi), fun _ => ⟨fun c => h2 ((nI_leI (by omega) hi).mp c), fun c => ?_⟩⟩
  have hlt : i < n := Nat.not_le.mp fun q => c (nI_le q hi)
  rw [hp_cl hi]
  exact ⟨vp_in_nI (by omega) (by omega), h1 hlt⟩
theorem hp_valueOf {i : Nat} {Q : Int32 → Prop} (hn : n ≤ 3000) (hi : i < n) (h1 : Q (v i)) : hx_v_Image_valueOf (nI i) v (nI n) Q := by
  unfold hx_v_Image_valueOf
  refine ⟨fun c => absurd c (nI_pos (by omega)), fun _ => ⟨fun c => absurd ((nI_leI (by omega) (by omega)).mp c) (by omega), fun c => ?_⟩⟩
  rw [hp_cl (by omega)]
  exact ⟨vp_in_nI (by omega) (by omega), h1⟩
theorem hp_idx (h : hp_C a v n M A V) {x : Nat} {Q : Int32 → Prop} (hn : n ≤ 3000) (hx : x ≤ 8589934592) (hq : ∀ i, hp_ix n A x i → Q (nI i)) : hx_v_Image_indexFrom (lN x) a (nI n) Q :=
  hp_indexFrom hn (fun k hk => ⟨(h.1 k hk).1, (h.1 k hk).2.2.1⟩) h.2.1 hx hq
theorem hp_holds (h : hp_C a v n M A V) {x : Nat} {Q : Int32 → Prop} (hn : n ≤ 3000) (hx : x ≤ 8589934592) (h1 : M x ≠ none → Q 1) (h0 : M x = none → Q 0) : hx_v_Image_holds (lN x) a (nI n) Q := by
  unfold hx_v_Image_holds
  refine hp_idx h hn hx (fun i hi => ?_)
  have hin := hi.1
  have hno := hp_C_none h hi
  refine hp_addressOf hn (by omega) (fun hlt => ?_) (fun hge => ?_)
  · have hA := h.1 i hlt
    rw [hA.1]
    refine ⟨fun c => h0 (hno.mpr fun q => c (by rw [q.2])), fun c => h1 fun q => ?_⟩
    exact hno.mp q ⟨hlt, (pk_lEQ (by omega) (by omega)).mp c⟩
  · exact ⟨fun _ => h0 (hno.mpr (by omega)), fun c => absurd c.symm (hp_lne (by omega))⟩
theorem hp_valueAt (h : hp_C a v n M A V) {x : Nat} {Q : Int32 → Prop} (hn : n ≤ 3000) (hx : x ≤ 8589934592) (h1 : ∀ b, M x = some b → b < 256 → Q (nI b)) (h0 : M x = none → Q (-1)) : hx_v_Image_valueAt (lN x) a v (nI n) Q := by
  unfold hx_v_Image_valueAt
  refine hp_idx h hn hx (fun i hi => ?_)
  have hin := hi.1
  have hno := hp_C_none h hi
  refine hp_addressOf hn (by omega) (fun hlt => ?_) (fun hge => ?_)
  · have hA := h.1 i hlt
    rw [hA.1]
    refine ⟨fun c => h0 (hno.mpr fun q => c (by rw [q.2])), fun c => ?_⟩
    have he := (pk_lEQ (by omega) (by omega)).mp c
    rw [hp_cl (by omega), hA.2.1]
    refine ⟨vp_in_nI (by omega) (by omega), h1 (V i) ?_ hA.2.2.2.1⟩
    rw [← he]
    exact hA.2.2.2.2
  · exact ⟨fun _ => h0 (hno.mpr (by omega)), fun c => absurd c.symm (hp_lne (by omega))⟩
theorem hp_ladd {x c : Nat} (hc : c < 2 ^ 31) : lN x + (nI c).toInt64 = lN (x + c) := by rw [nI_l hc, lN_add]
theorem hp_openBlock (h : hp_C a v n M A V) {x c w : Nat} {Q : Int32 → (Nat → Int64) → (Nat → Int32) → Int32 → Prop} (hn : n ≤ 3000) (hx : x + c ≤ 4294967296) (hc : c ≤ 256) (hw : w ≤ 256) (full : ∀ i j, hp_ix n A x i → hp_ix n A (x + c) j → 3000 < i + w + (n - j) → Q (-1) a v (nI n))
    (ok : ∀ i j a' v', hp_ix n A x i → hp_ix n A (x + c) j → i + w + (n - j) ≤ 3000 → (∀ k, k < i → a' k = a k ∧ v' k = v k) → (∀ t, j + t < n → a' (i + w + t) = a (j + t) ∧ v' (i + w + t) = v (j + t)) → Q (nI i) a' v' (nI (i + w + (n - j)))) : hx_v_Image_openBlock (lN x) (nI c) (nI w) a v (nI n) Q := by
  unfold hx_v_Image_openBlock
  refine hp_idx h hn (by omega) (fun i hi => ?_)
  rw [hp_ladd (by omega)]
  refine hp_idx h hn (by omega) (fun j hj => ?_)
  have hij := hp_ix_le hi hj (by omega)
  have hjn := hj.1
  intro z hz
  rw [pk_sub hij, pk_sub (by omega), nI_add, show n - (j - i) + w = i + w + (n - j) by omega] at hz
  subst hz
  refine ⟨fun q => ?_, fun q => ?_⟩
  · have hle : i + w + (n - j) ≤ 3000 := (nI_leI (by omega) (by omega)).mp q
    have ho : hx_cpo (nI j) (nI i + nI w) (nI n - nI j) 3000 3000 := by
      rw [nI_add, pk_sub hjn]
      refine ⟨nI_pos (by omega), nI_pos (by omega), nI_pos (by omega), ?_, ?_⟩
      · rw [hp_cl (by omega), hp_cl (by omega)]; omega
      · rw [hp_cl (by omega), hp_cl (by omega)]; omega
    refine ⟨ho, ho, ?_⟩
    rw [nI_add, pk_sub hjn, hp_cl (by omega), hp_cl (by omega), hp_cl (by omega)]
    refine ok i j _ _ hi hj hle (fun k hk => ?_) (fun t ht => ?_)
    · rw [pk_cpy_out (by omega), pk_cpy_out (by omega)]
      exact ⟨rfl, rfl⟩
    · rw [pk_cpy_in (by omega) (by omega), pk_cpy_in (by omega) (by omega), show j + (i + w + t - (i + w)) = j + t by omega]
      exact ⟨rfl, rfl⟩
  · exact full i j hi hj (Nat.not_le.mp fun r => q (show nI _ ≤ nI 3000 from nI_le r (by omega)))
theorem hp_remove (h : hp_C a v n M A V) {x : Nat} {Q : Int32 → (Nat → Int64) → (Nat → Int32) → Int32 → Prop} (hn : n ≤ 3000) (hx : x < 4294967296)
    (hq : ∀ r a' v' n', (∀ b, M x = some b → r = nI b) → (M x = none → r = -1) → n' ≤ 3000 → hp_R a' v' n' (hp_del M x) → Q r a' v' (nI n')) : hx_v_Image_remove (lN x) a v (nI n) Q := by
  have go : ∀ r, (∀ b, M x = some b → r = nI b) → (M x = none → r = -1) → hx_v_Image_openBlock (lN x) (1 : Int32) (0 : Int32) a v (nI n) (fun _ a' v' n' => Q r a' v' n') := by
    intro r h1 h0
    refine hp_openBlock (c := 1) (w := 0) h hn (by omega) (by omega) (by omega) (fun i j hi hj hf => ?_) (fun i j a' v' hi hj hle lo up => ?_)
    · have := hp_ix_le hi hj (by omega)
      have := hj.1
      omega
    · refine hq r a' v' _ h1 h0 hle ?_
      have e : hp_gap M x 1 = hp_del M x := by rw [← hp_gap_succ, hp_gap_0]; rfl
      rw [← e]
      exact hp_close h hi hj (by omega) lo up
  unfold hx_v_Image_remove
  refine hp_valueAt h hn (by omega) (fun b hb _ => go _ (fun b' hb' => by rw [hb] at hb'; rw [Option.some.inj hb']) (fun q => by rw [hb] at q; cases q)) (fun h0 => go _ (fun b hb => by rw [h0] at hb; cases hb) (fun _ => rfl))
theorem hp_fillC (h : hp_C a v n M A V) {x c b : Nat} {Q : Int32 → (Nat → Int64) → (Nat → Int32) → Int32 → Prop} (hn : n ≤ 3000) (hx : x + c ≤ 4294967296) (hc : c ≤ 256) (hb : b < 256) (full : 3000 < n + c - hp_cnt M x c → Q 0 a v (nI n))
    (ok : ∀ a' v', n + c - hp_cnt M x c ≤ 3000 → hp_R a' v' (n + c - hp_cnt M x c) (hp_fill M x c b) → Q 1 a' v' (nI (n + c - hp_cnt M x c))) : hx_v_Image_spread (lN x) (nI c) (nI b) a v (nI n) Q := by
  unfold hx_v_Image_spread
  intro P20 h20
  have cj : ∀ i j, hp_ix n A x i → hp_ix n A (x + c) j → i + c + (n - j) = n + c - hp_cnt M x c := fun i j hi hj => by
    have e := hp_ix_uniq hj (hp_ix_cnt h hi c)
    have := hj.1
    omega
  refine hp_openBlock h hn hx hc (by omega) (fun i j hi hj hf => ?_) (fun i j a' v' hi hj hle lo up => ?_)
  · exact ⟨fun q => absurd rfl q, fun _ => full (by rw [← cj i j hi hj]; exact hf)⟩
  · refine ⟨fun _ => ?_, fun q => absurd q (hp_ine (by have := hi.1; omega))⟩
    have hjn := hj.1
    have key : ∀ d t a1 v1, c - t ≤ d → t ≤ c → (∀ k, k < i → a1 k = a k ∧ v1 k = v k) → (∀ s, s < t → a1 (i + s) = lN (x + s) ∧ v1 (i + s) = nI b) → (∀ s, j + s < n → a1 (i + c + s) = a (j + s) ∧ v1 (i + c + s) = v (j + s)) → P20 (nI i) (nI t) a1 v1 (nI (i + c + (n - j))) := by
      intro d
      induction d with
      | zero =>
        intro t a1 v1 hd ht l1 m1 u1
        apply h20
        refine ⟨fun _ => ?_, fun q => absurd (nI_le (by omega) (by omega)) q⟩
        obtain rfl : t = c := by omega
        rw [cj i j hi hj]
        refine ok a1 v1 (by rw [← cj i j hi hj]; exact hle) ?_
        rw [← cj i j hi hj]
        exact hp_spread h hi hj hx hb l1 m1 u1
      | succ d ih =>
        intro t a1 v1 hd ht l1 m1 u1
        apply h20
        refine ⟨fun q => ?_, fun q => ?_⟩
        · have : c ≤ t := (nI_leI (by omega) (by omega)).mp q
          obtain rfl : t = c := by omega
          rw [cj i j hi hj]
          refine ok a1 v1 (by rw [← cj i j hi hj]; exact hle) ?_
          rw [← cj i j hi hj]
          exact hp_spread h hi hj hx hb l1 m1 u1
        · have hlt : t < c := Nat.not_le.mp fun r => q (nI_le r (by omega))
          have hv : vp_in (nI i + nI t) 3000 := by rw [nI_add]; exact vp_in_nI (by omega) (by omega)
          refine ⟨hv, hv, ?_⟩
          rw [nI_add, hp_cl (by omega), nI_1, hp_ladd (by omega)]
          refine ih (t + 1) _ _ (by omega) (by omega) (fun k hk => ?_) (fun s hs => ?_) (fun s hs => ?_)
          · rw [pk_uLn (by omega), pk_un (by omega)]
            exact l1 k hk
          · by_cases e : s = t
            · subst e
              rw [pk_uLs, pk_us]
              exact ⟨rfl, rfl⟩
            · rw [pk_uLn (by omega), pk_un (by omega)]
              exact m1 s (by omega)
          · rw [pk_uLn (by omega), pk_un (by omega)]
            exact u1 s hs
    exact key c 0 a' v' (by omega) (by omega) lo (fun s hs => absurd hs (by omega)) up
end HPI
