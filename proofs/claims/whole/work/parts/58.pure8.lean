/-! count, run, check, clear, begin, start, character -/
def hp_bg (A : Nat → Nat) (k : Nat) : Prop := k = 0 ∨ A k ≠ A (k - 1) + 1
def hp_runs (A : Nat → Nat) : Nat → Nat
  | 0 => 0
  | k + 1 => hp_runs A k + (if k = 0 ∨ A k ≠ A (k - 1) + 1 then 1 else 0)
def hp_tot (V : Nat → Nat) : Nat → Nat
  | 0 => 0
  | k + 1 => hp_tot V k + V k
theorem hp_runs_b {A : Nat → Nat} {k : Nat} (h : hp_bg A k) : hp_runs A (k + 1) = hp_runs A k + 1 := by
  show hp_runs A k + (if k = 0 ∨ A k ≠ A (k - 1) + 1 then 1 else 0) = _
  rw [if_pos (show k = 0 ∨ A k ≠ A (k - 1) + 1 from h)]
theorem hp_runs_n {A : Nat → Nat} {k : Nat} (h : ¬ hp_bg A k) : hp_runs A (k + 1) = hp_runs A k := by
  show hp_runs A k + (if k = 0 ∨ A k ≠ A (k - 1) + 1 then 1 else 0) = _
  rw [if_neg (show ¬ (k = 0 ∨ A k ≠ A (k - 1) + 1) from h)]
  rfl
theorem hp_runs_le (A : Nat → Nat) : ∀ k, hp_runs A k ≤ k
  | 0 => Nat.le_refl _
  | k + 1 => by
    have := hp_runs_le A k
    by_cases h : hp_bg A k
    · rw [hp_runs_b h]; omega
    · rw [hp_runs_n h]; omega
theorem hp_runs_mono (A : Nat → Nat) (j : Nat) : ∀ d, hp_runs A j ≤ hp_runs A (j + d)
  | 0 => Nat.le_refl _
  | d + 1 => by
    have := hp_runs_mono A j d
    rw [show j + (d + 1) = j + d + 1 by omega]
    by_cases h : hp_bg A (j + d)
    · rw [hp_runs_b h]; omega
    · rw [hp_runs_n h]; omega
theorem hp_tot_le {V : Nat → Nat} {n : Nat} (h : ∀ k, k < n → V k < 256) : ∀ k, k ≤ n → hp_tot V k ≤ 255 * k
  | 0, _ => Nat.le_refl _
  | k + 1, hk => by
    have h1 := hp_tot_le h k (by omega)
    have h2 := h k (by omega)
    show hp_tot V k + V k ≤ _
    omega
/-- where the run that begins at k ends -/
def hp_re (n : Nat) (A : Nat → Nat) (k e : Nat) : Prop := k < e ∧ e ≤ n ∧ (∀ j, k < j → j < e → ¬ hp_bg A j) ∧ (e = n ∨ hp_bg A e)
theorem hp_re_uniq {n k e e' : Nat} {A : Nat → Nat} (h : hp_re n A k e) (h' : hp_re n A k e') : e = e' := by
  have half : ∀ {e e' : Nat}, hp_re n A k e → hp_re n A k e' → ¬ e < e' := by
    intro e e' h h' q
    rcases h.2.2.2 with z | z
    · have := h'.2.1
      omega
    · exact h'.2.2.1 e h.1 q z
  have := half h h'
  have := half h' h
  omega
def hp_sel (n : Nat) (A : Nat → Nat) (i : Int32) (k : Nat) : Prop := k < n ∧ hp_bg A k ∧ nI (hp_runs A k) = i
theorem hp_sel_uniq {n k k' : Nat} {A : Nat → Nat} {i : Int32} (hn : n ≤ 3000) (h : hp_sel n A i k) (h' : hp_sel n A i k') : k = k' := by
  have half : ∀ {k k' : Nat}, hp_sel n A i k → hp_sel n A i k' → ¬ k < k' := by
    intro k k' h h' q
    have h1 := hp_runs_mono A (k + 1) (k' - (k + 1))
    rw [show k + 1 + (k' - (k + 1)) = k' by omega, hp_runs_b h.2.1] at h1
    have h2 := h.2.2.trans h'.2.2.symm
    have h3 := hp_runs_le A k
    have h4 := hp_runs_le A k'
    have h5 := h.1
    have h6 := h'.1
    have := (nI_eq (by omega) (by omega)).mp h2
    omega
  have := half h h'
  have := half h' h
  omega
def hp_run (n : Nat) (A : Nat → Nat) (i w : Int32) (r : Int64) : Prop :=
  (∃ k e, hp_sel n A i k ∧ hp_re n A k e ∧ ((w = 0 ∧ r = lN (A k)) ∨ (w = 1 ∧ r = (nI (e - k)).toInt64))) ∨ (((∀ k, ¬ hp_sel n A i k) ∨ (w ≠ 0 ∧ w ≠ 1)) ∧ r = -1)
theorem hp_run_uniq {n : Nat} {A : Nat → Nat} {i w : Int32} {r r' : Int64} (hn : n ≤ 3000) (h : hp_run n A i w r) (h' : hp_run n A i w r') : r = r' := by
  rcases h with ⟨k, e, h1, h2, h3⟩ | ⟨h1, h2⟩
  · rcases h' with ⟨k', e', g1, g2, g3⟩ | ⟨g1, g2⟩
    · obtain rfl := hp_sel_uniq hn h1 g1
      obtain rfl := hp_re_uniq h2 g2
      rcases h3 with ⟨a1, a2⟩ | ⟨a1, a2⟩
      · rcases g3 with ⟨b1, b2⟩ | ⟨b1, b2⟩
        · rw [a2, b2]
        · exact absurd (a1.symm.trans b1) (by decide)
      · rcases g3 with ⟨b1, b2⟩ | ⟨b1, b2⟩
        · exact absurd (a1.symm.trans b1) (by decide)
        · rw [a2, b2]
    · rcases g1 with g1 | g1
      · exact absurd h1 (g1 k)
      · rcases h3 with ⟨a1, _⟩ | ⟨a1, _⟩
        · exact absurd a1 g1.1
        · exact absurd a1 g1.2
  · rcases h' with ⟨k', e', g1, g2, g3⟩ | ⟨g1, g2⟩
    · rcases h1 with h1 | h1
      · exact absurd g1 (h1 k')
      · rcases g3 with ⟨a1, _⟩ | ⟨a1, _⟩
        · exact absurd a1 h1.1
        · exact absurd a1 h1.2
    · rw [h2, g2]
section HPQ
variable {a : Nat → Int64} {v : Nat → Int32} {n : Nat} {M : Nat → Option Nat} {A V : Nat → Nat}
theorem hp_cont (h : hp_C a v n M A V) (hn : n ≤ 3000) {k : Nat} (hk : k ≤ n) {Q : Int32 → Prop} (h1 : k < n → ¬ hp_bg A k → Q 1) (h0 : (n ≤ k ∨ hp_bg A k) → Q 0) : hx_v_Image_continuesRun (nI k) a (nI n) Q := by
  unfold hx_v_Image_continuesRun
  refine ⟨fun q => h0 (Or.inr (Or.inl ?_)), fun q => ⟨fun q2 => h0 (Or.inl ((nI_leI (by omega) (by omega)).mp q2)), fun q2 => ?_⟩⟩
  · have := (nI_leI (b := 0) (by omega) (by omega)).mp q
    omega
  · have hlt : k < n := Nat.not_le.mp fun z => q2 (nI_le z (by omega))
    have hk0 : 0 < k := Nat.pos_of_ne_zero fun z => q (by rw [z]; decide)
    have e1 : nI k - (1 : Int32) = nI (k - 1) := pk_sub (a := k) (b := 1) (by omega)
    have hA := h.1 k hlt
    have hB := h.1 (k - 1) (by omega)
    rw [e1, hp_cl (by omega), hp_cl (by omega), hA.1, hB.1, lN_1]
    refine ⟨vp_in_nI (by omega) (by omega), vp_in_nI (by omega) (by omega), fun q3 => h0 (Or.inr (Or.inr fun z => q3 (by rw [z]))), fun q3 => h1 hlt fun z => ?_⟩
    have := (pk_lEQ (by omega) (by omega)).mp q3
    rcases z with z | z
    · omega
    · exact z this
theorem hp_begins (h : hp_C a v n M A V) (hn : n ≤ 3000) {k : Nat} (hk : k < n) {Q : Int32 → Prop} (h1 : hp_bg A k → Q 1) (h0 : ¬ hp_bg A k → Q 0) : hx_v_Model_begins (nI k) a Q := by
  unfold hx_v_Model_begins
  refine ⟨fun q => h1 (Or.inl ?_), fun q => ?_⟩
  · exact (nI_eq (b := 0) (by omega) (by omega)).mp q
  · have hk0 : 0 < k := Nat.pos_of_ne_zero fun z => q (by rw [z]; rfl)
    have e1 : nI k - (1 : Int32) = nI (k - 1) := pk_sub (a := k) (b := 1) (by omega)
    have hA := h.1 k hk
    have hB := h.1 (k - 1) (by omega)
    rw [e1, hp_cl (by omega), hp_cl (by omega), hA.1, hB.1, lN_1]
    refine ⟨vp_in_nI (by omega) (by omega), vp_in_nI (by omega) (by omega), fun q3 => h0 fun z => ?_, fun q3 => h1 (Or.inr fun z => q3 (by rw [z]))⟩
    have := (pk_lEQ (by omega) (by omega)).mp q3
    rcases z with z | z
    · omega
    · exact z this.symm
theorem hp_runsX (h : hp_C a v n M A V) (hn : n ≤ 3000) {Q : Int32 → Prop} (hq : Q (nI (hp_runs A n))) : hx_v_Image_runs a (nI n) Q := by
  unfold hx_v_Image_runs
  intro P4 P23 h4 h23
  have key : ∀ d k, n - k ≤ d → k ≤ n → P4 (nI (hp_runs A k)) (nI k) := by
    intro d
    induction d with
    | zero =>
      intro k hd hk
      apply h4
      obtain rfl : k = n := by omega
      exact ⟨fun _ => hq, fun z => absurd (nI_le (Nat.le_refl _) (by omega)) z⟩
    | succ d ih =>
      intro k hd hk
      apply h4
      refine ⟨fun z => ?_, fun z => ?_⟩
      · have := (nI_leI (by omega) (by omega)).mp z
        obtain rfl : k = n := by omega
        exact hq
      · have hlt : k < n := Nat.not_le.mp fun w => z (nI_le w (by omega))
        have nx := ih (k + 1) (by omega) (by omega)
        refine hp_cont h hn hk (fun _ hb => ⟨fun _ => h23 _ _ ?_, fun w => absurd w (by decide)⟩) (fun hb => ⟨fun w => absurd rfl w, fun _ => h23 _ _ ?_⟩)
        · rw [nI_1, ← hp_runs_n hb]
          exact nx
        · rw [nI_1, nI_1, ← hp_runs_b (hb.resolve_left (by omega))]
          exact nx
  exact key n 0 (by omega) (by omega)
theorem hp_totX (h : hp_C a v n M A V) (hn : n ≤ 3000) {Q : Int32 → Prop} (hq : Q (nI (hp_tot V n))) : hx_v_Image_total v (nI n) Q := by
  unfold hx_v_Image_total
  intro P4 h4
  have key : ∀ d k, n - k ≤ d → k ≤ n → P4 (nI (hp_tot V k)) (nI k) := by
    intro d
    induction d with
    | zero =>
      intro k hd hk
      apply h4
      obtain rfl : k = n := by omega
      exact ⟨fun _ => hq, fun z => absurd (nI_le (Nat.le_refl _) (by omega)) z⟩
    | succ d ih =>
      intro k hd hk
      apply h4
      refine ⟨fun z => ?_, fun z => ?_⟩
      · have := (nI_leI (by omega) (by omega)).mp z
        obtain rfl : k = n := by omega
        exact hq
      · have hlt : k < n := Nat.not_le.mp fun w => z (nI_le w (by omega))
        refine ⟨vp_in_nI (by omega) (by omega), fun w hw => ?_⟩
        rw [hp_cl (by omega), (h.1 k hlt).2.1, nI_add] at hw
        subst hw
        rw [nI_1]
        exact ih (k + 1) (by omega) (by omega)
  exact key n 0 (by omega) (by omega)
/-- what count says -/
def hp_count (n tl : Nat) (A V : Nat → Nat) (w : Int32) : Int32 := if w = 0 then nI n else if w = 1 then nI (hp_runs A n) else if w = 2 then nI (hp_tot V n) else if w = 3 then nI tl else -1
theorem hp_countX (h : hp_C a v n M A V) (hn : n ≤ 3000) {tl : Nat} {w : Int32} {Q : Int32 → Prop} (hq : Q (hp_count n tl A V w)) : hx_v_Loom_count w a v (nI n) (nI tl) Q := by
  unfold hx_v_Loom_count
  unfold hp_count at hq
  refine ⟨fun e => ?_, fun e => ?_, fun e => ?_, fun e => ?_, fun e0 e1 e2 e3 => ?_⟩
  · rw [if_pos e] at hq
    exact hq
  · subst e
    exact hp_runsX h hn hq
  · subst e
    exact hp_totX h hn hq
  · subst e
    exact hq
  · rw [if_neg e0, if_neg e1, if_neg e2, if_neg e3] at hq
    exact hq
theorem hp_countM (h : hp_C a v n M A V) (hn : n ≤ 3000) {tl : Nat} {w : Int32} {Q : Int32 → Int32 → Prop} (hq : Q (hp_count n tl A V w) 0) : hx_v_Model_count w a v (nI n) (nI tl) Q := by
  unfold hx_v_Model_count
  intro P12 P37 h12 h37
  have fin : ((¬ w = (0 : Int32)) → (((¬ w = (1 : Int32)) → (((¬ w = (2 : Int32)) → (((¬ w = (3 : Int32)) → (Q (-1 : Int32) 0)) ∧ (w = (3 : Int32) → (Q (nI tl) 0)))) ∧ (w = (2 : Int32) → (Q (nI (hp_tot V n)) 0)))) ∧ (w = (1 : Int32) → (Q (nI (hp_runs A n)) 0)))) ∧ (w = (0 : Int32) → (Q (nI n) 0)) := by
    unfold hp_count at hq
    refine ⟨fun e0 => ⟨fun e1 => ⟨fun e2 => ⟨fun e3 => ?_, fun e3 => ?_⟩, fun e2 => ?_⟩, fun e1 => ?_⟩, fun e0 => ?_⟩
    · rw [if_neg e0, if_neg e1, if_neg e2, if_neg e3] at hq; exact hq
    · rw [if_neg e0, if_neg e1, if_neg e2, if_pos e3] at hq; exact hq
    · rw [if_neg e0, if_neg e1, if_pos e2] at hq; exact hq
    · rw [if_neg e0, if_pos e1] at hq; exact hq
    · rw [if_pos e0] at hq; exact hq
  have key : ∀ d k, n - k ≤ d → k ≤ n → P12 (nI (hp_runs A k)) (nI (hp_tot V k)) (nI k) 0 := by
    intro d
    induction d with
    | zero =>
      intro k hd hk
      apply h12
      obtain rfl : k = n := by omega
      exact ⟨fun _ => fin, fun z => absurd (nI_le (Nat.le_refl _) (by omega)) z⟩
    | succ d ih =>
      intro k hd hk
      apply h12
      refine ⟨fun z => ?_, fun z => ?_⟩
      · have := (nI_leI (by omega) (by omega)).mp z
        obtain rfl : k = n := by omega
        exact fin
      · have hlt : k < n := Nat.not_le.mp fun w => z (nI_le w (by omega))
        have nx := ih (k + 1) (by omega) (by omega)
        have go : P37 (nI (hp_tot V k)) (nI k) (nI (hp_runs A (k + 1))) 0 := by
          apply h37
          refine ⟨vp_in_nI (by omega) (by omega), fun w hw => ?_⟩
          rw [hp_cl (by omega), (h.1 k hlt).2.1, nI_add] at hw
          subst hw
          rw [nI_1]
          exact nx
        refine hp_begins h hn hlt (fun hb => ⟨fun w => absurd w (by decide), fun _ => ?_⟩) (fun hb => ⟨fun _ => ?_, fun w => absurd rfl w⟩)
        · rw [nI_1, ← hp_runs_b hb]
          exact go
        · rw [← hp_runs_n hb]
          exact go
  exact key n 0 (by omega) (by omega)
theorem hp_lenX (h : hp_C a v n M A V) (hn : n ≤ 3000) {k : Nat} (hk : k < n) {Q : Int32 → Prop} (hq : ∀ e, hp_re n A k e → Q (nI (e - k))) : hx_v_Image_lengthOfRun (nI k) a (nI n) Q := by
  unfold hx_v_Image_lengthOfRun
  intro P4 h4 z hz
  rw [nI_1] at hz
  subst hz
  have key : ∀ d e, n - e ≤ d → k < e → e ≤ n → (∀ j, k < j → j < e → ¬ hp_bg A j) → P4 (nI e) := by
    intro d
    induction d with
    | zero =>
      intro e hd hke hen hb
      apply h4
      refine ⟨fun _ => ?_, fun z => absurd (nI_le (by omega) (by omega)) z⟩
      rw [pk_sub (by omega)]
      exact hq e ⟨hke, hen, hb, Or.inl (by omega)⟩
    | succ d ih =>
      intro e hd hke hen hb
      apply h4
      refine ⟨fun z => ?_, fun z => ?_⟩
      · have := (nI_leI (by omega) (by omega)).mp z
        rw [pk_sub (by omega)]
        exact hq e ⟨hke, hen, hb, Or.inl (by omega)⟩
      · have hlt : e < n := Nat.not_le.mp fun w => z (nI_le w (by omega))
        refine hp_cont h hn hen (fun _ hnb => ⟨fun w => absurd w (by decide), fun _ => ?_⟩) (fun hnb => ⟨fun _ => ?_, fun w => absurd rfl w⟩)
        · rw [nI_1]
          refine ih (e + 1) (by omega) (by omega) (by omega) (fun j hj hje => ?_)
          by_cases e1 : j = e
          · rw [e1]; exact hnb
          · exact hb j hj (by omega)
        · rw [pk_sub (by omega)]
          exact hq e ⟨hke, hen, hb, Or.inr (hnb.resolve_left (by omega))⟩
  exact key n (k + 1) (by omega) (by omega) (by omega) (fun j h1 h2 => absurd h2 (by omega))
theorem hp_firstX (h : hp_C a v n M A V) (hn : n ≤ 3000) {i : Int32} {Q : Int32 → Prop} (h1 : ∀ k, hp_sel n A i k → Q (nI k)) (h0 : (∀ k, ¬ hp_sel n A i k) → Q (-1)) : hx_v_Image_firstOfRun i a (nI n) Q := by
  unfold hx_v_Image_firstOfRun
  intro P4 P30 h4 h30
  have key : ∀ d k, n - k ≤ d → k ≤ n → (∀ j, j < k → ¬ hp_sel n A i j) → P4 (nI (hp_runs A k)) (nI k) := by
    intro d
    induction d with
    | zero =>
      intro k hd hk hs
      apply h4
      exact ⟨fun _ => h0 fun j hj => hs j (by have := hj.1; omega) hj, fun z => absurd (nI_le (by omega) (by omega)) z⟩
    | succ d ih =>
      intro k hd hk hs
      apply h4
      refine ⟨fun z => ?_, fun z => ?_⟩
      · have := (nI_leI (by omega) (by omega)).mp z
        exact h0 fun j hj => hs j (by have := hj.1; omega) hj
      · have hlt : k < n := Nat.not_le.mp fun w => z (nI_le w (by omega))
        refine hp_cont h hn hk (fun _ hb => ⟨fun _ => h30 _ _ ?_, fun w => absurd w (by decide)⟩) (fun hb => ⟨fun w => absurd rfl w, fun _ => ⟨fun q => h30 _ _ ?_, fun q => h1 k ⟨hlt, hb.resolve_left (by omega), q⟩⟩⟩)
        · rw [nI_1, ← hp_runs_n hb]
          refine ih (k + 1) (by omega) (by omega) (fun j hj hsel => ?_)
          by_cases e1 : j = k
          · rw [e1] at hsel; exact hb hsel.2.1
          · exact hs j (by omega) hsel
        · rw [nI_1, nI_1, ← hp_runs_b (hb.resolve_left (by omega))]
          refine ih (k + 1) (by omega) (by omega) (fun j hj hsel => ?_)
          by_cases e1 : j = k
          · rw [e1] at hsel; exact q hsel.2.2
          · exact hs j (by omega) hsel
  exact key n 0 (by omega) (by omega) (fun j hj => absurd hj (by omega))
theorem hp_runX (h : hp_C a v n M A V) (hn : n ≤ 3000) {i w : Int32} {Q : Int64 → Prop} (hq : ∀ r, hp_run n A i w r → Q r) : hx_v_Loom_run i w a (nI n) Q := by
  unfold hx_v_Loom_run
  refine hp_firstX h hn (fun k hk => ⟨fun _ => ⟨fun e => ?_, fun e => ?_, fun e0 e1 => ?_⟩, fun q => absurd q (hp_ine (by have := hk.1; omega))⟩) (fun h0 => ⟨fun q => absurd rfl q, fun _ => hq _ (Or.inr ⟨Or.inl h0, rfl⟩)⟩)
  · subst e
    refine hp_addressOf hn (by have := hk.1; omega) (fun _ => ?_) (fun q => absurd hk.1 (by omega))
    have hex : ∃ e, hp_re n A k e := by
      have key : ∀ d e, n - e ≤ d → k < e → e ≤ n → (∀ j, k < j → j < e → ¬ hp_bg A j) → ∃ e, hp_re n A k e := by
        intro d
        induction d with
        | zero => exact fun e hd hke hen hb => ⟨e, hke, hen, hb, Or.inl (by omega)⟩
        | succ d ih =>
          intro e hd hke hen hb
          by_cases e1 : e = n
          · exact ⟨e, hke, hen, hb, Or.inl e1⟩
          · by_cases e2 : hp_bg A e
            · exact ⟨e, hke, hen, hb, Or.inr e2⟩
            · refine ih (e + 1) (by omega) (by omega) (by omega) (fun j hj hje => ?_)
              by_cases e3 : j = e
              · rw [e3]; exact e2
              · exact hb j hj (by omega)
      have := hk.1
      exact key n (k + 1) (by omega) (by omega) (by omega) (fun j h1 h2 => absurd h2 (by omega))
    obtain ⟨e, he⟩ := hex
    rw [(h.1 k hk.1).1]
    exact hq _ (Or.inl ⟨k, e, hk, he, Or.inl ⟨rfl, rfl⟩⟩)
  · subst e
    exact hp_lenX h hn hk.1 (fun e he => hq _ (Or.inl ⟨k, e, hk, he, Or.inr ⟨rfl, rfl⟩⟩))
  · exact hq _ (Or.inr ⟨Or.inr ⟨e0, e1⟩, rfl⟩)
theorem hp_runM (h : hp_C a v n M A V) (hn : n ≤ 3000) {i w : Int32} {Q : Int64 → Int32 → Prop} (hq : ∀ r, hp_run n A i w r → Q r 0) : hx_v_Model_run i w a (nI n) Q := by
  unfold hx_v_Model_run
  intro P27 P56 P80 P104 h27 h56 h80 h104
  refine ⟨fun q => hq _ (Or.inr ⟨Or.inl fun k hk => ?_, rfl⟩), fun q => ⟨fun q2 => hq _ (Or.inr ⟨Or.inr ⟨fun e => ?_, fun e => ?_⟩, rfl⟩), fun q2 => ⟨fun q3 => ?_, fun q3 => hq _ (Or.inr ⟨Or.inr ⟨fun e => ?_, fun e => ?_⟩, rfl⟩)⟩⟩⟩
  · rw [← hk.2.2] at q
    have := hp_runs_le A k
    have := hk.1
    exact nI_pos (by omega) q
  · rw [e] at q2; exact absurd q2 (by decide)
  · rw [e] at q2; exact absurd q2 (by decide)
  · have hw : w = 0 ∨ w = 1 := by
      obtain ⟨j, _, j2, rfl⟩ := hp_rng (lo := 0) (hi := 1) (by omega) (by omega) q2 (Int32.not_lt.mpr q3)
      rcases (show j = 0 ∨ j = 1 by omega) with e | e
      · rw [e]; exact Or.inl rfl
      · rw [e]; exact Or.inr rfl
    have len : ∀ k, hp_sel n A i k → ∀ d e, n - e ≤ d → k < e → e ≤ n → (∀ j, k < j → j < e → ¬ hp_bg A j) → P56 (nI k) (nI e) 0 := by
      intro k hk d
      have fin : ∀ e, hp_re n A k e → P80 (nI k) (nI e) 0 := by
        intro e he
        apply h80
        have := hk.1
        have := he.2.1
        refine ⟨fun w0 => ?_, fun w0 => ⟨vp_in_nI (by omega) (by omega), ?_⟩⟩
        · rw [pk_sub (by have := he.1; omega)]
          exact hq _ (Or.inl ⟨k, e, hk, he, Or.inr ⟨hw.resolve_left w0, rfl⟩⟩)
        · rw [hp_cl (by omega), (h.1 k hk.1).1]
          exact hq _ (Or.inl ⟨k, e, hk, he, Or.inl ⟨w0, rfl⟩⟩)
      induction d with
      | zero =>
        intro e hd hke hen hb
        apply h56
        exact ⟨fun _ => fin e ⟨hke, hen, hb, Or.inl (by omega)⟩, fun z => absurd (nI_le (by omega) (by omega)) z⟩
      | succ d ih =>
        intro e hd hke hen hb
        apply h56
        refine ⟨fun z => ?_, fun z => ?_⟩
        · have := (nI_leI (by omega) (by omega)).mp z
          exact fin e ⟨hke, hen, hb, Or.inl (by omega)⟩
        · have hlt : e < n := Nat.not_le.mp fun w => z (nI_le w (by omega))
          refine hp_begins h hn hlt (fun hbg => ⟨fun _ => fin e ⟨hke, hen, hb, Or.inr hbg⟩, fun w => absurd w (by decide)⟩) (fun hbg => ⟨fun w => absurd rfl w, fun _ => ?_⟩)
          rw [nI_1]
          refine ih (e + 1) (by omega) (by omega) (by omega) (fun j hj hje => ?_)
          by_cases e1 : j = e
          · rw [e1]; exact hbg
          · exact hb j hj (by omega)
    have key : ∀ d k, n - k ≤ d → k ≤ n → (∀ j, j < k → ¬ hp_sel n A i j) → P27 (nI (hp_runs A k)) (nI k) 0 := by
      intro d
      induction d with
      | zero =>
        intro k hd hk hs
        apply h27
        exact ⟨fun _ => hq _ (Or.inr ⟨Or.inl fun j hj => hs j (by have := hj.1; omega) hj, rfl⟩), fun z => absurd (nI_le (by omega) (by omega)) z⟩
      | succ d ih =>
        intro k hd hk hs
        apply h27
        refine ⟨fun z => ?_, fun z => ?_⟩
        · have := (nI_leI (by omega) (by omega)).mp z
          exact hq _ (Or.inr ⟨Or.inl fun j hj => hs j (by have := hj.1; omega) hj, rfl⟩)
        · have hlt : k < n := Nat.not_le.mp fun w => z (nI_le w (by omega))
          refine hp_begins h hn hlt (fun hb => ⟨fun w => absurd w (by decide), fun _ => ⟨fun e => h104 _ _ _ ?_, fun e => ?_⟩⟩) (fun hb => ⟨fun _ => h104 _ _ _ ?_, fun w => absurd rfl w⟩)
          · rw [nI_1, nI_1, ← hp_runs_b hb]
            refine ih (k + 1) (by omega) (by omega) (fun j hj hsel => ?_)
            by_cases e1 : j = k
            · rw [e1] at hsel; exact e hsel.2.2
            · exact hs j (by omega) hsel
          · intro z hz
            rw [nI_1] at hz
            subst hz
            exact len k ⟨hlt, hb, e⟩ n (k + 1) (by omega) (by omega) (by omega) (fun j h1 h2 => absurd h2 (by omega))
          · rw [nI_1, ← hp_runs_n hb]
            refine ih (k + 1) (by omega) (by omega) (fun j hj hsel => ?_)
            by_cases e1 : j = k
            · rw [e1] at hsel; exact hb hsel.2.1
            · exact hs j (by omega) hsel
    exact key n 0 (by omega) (by omega) (fun j hj => absurd hj (by omega))
  · rw [e] at q3; exact absurd q3 (by decide)
  · rw [e] at q3; exact absurd q3 (by decide)
theorem hp_checkX (h : hp_C a v n M A V) (hn : n ≤ 3000) {Q : Int32 → Prop} (hq : Q 1) : hx_v_Loom_check a v (nI n) Q := by
  unfold hx_v_Loom_check hx_v_Image_isSound
  intro P25 h25
  refine ⟨fun q => absurd q (nI_pos (by omega)), fun _ => ⟨fun _ => ?_, fun q => absurd (show nI n ≤ nI 3000 from nI_le hn (by omega)) q⟩⟩
  have ok : ((1 : Int32) = 0 → Q 0) ∧ ((¬ (1 : Int32) = 0) → Q 1) := ⟨fun z => absurd z (by decide), fun _ => hq⟩
  have fin : ∀ b : Int64, (b = -1 ∨ ∃ k, k < n ∧ b = lN (A k)) → ((4294967295 : Int64) < b → (((0 : Int32) = 0 → Q 0) ∧ ((¬ (0 : Int32) = 0) → Q 1))) ∧ ((¬ (4294967295 : Int64) < b) → (((1 : Int32) = 0 → Q 0) ∧ ((¬ (1 : Int32) = 0) → Q 1))) := by
    intro b hb
    refine ⟨fun z => ?_, fun _ => ok⟩
    exfalso
    rcases hb with rfl | ⟨k, hk, rfl⟩
    · exact absurd z (by decide)
    · have := (h.1 k hk).2.2.1
      have := (pk_lLT (a := 4294967295) (by omega) (by omega)).mp z
      omega
  have key : ∀ d k b, n - k ≤ d → k ≤ n → (b = -1 ∨ ∃ j, j < n ∧ b = lN (A j)) → (k < n → ¬ lN (A k) ≤ b) → P25 b (nI k) := by
    intro d
    induction d with
    | zero =>
      intro k b hd hk hb hlt
      apply h25
      exact ⟨fun _ => fin b hb, fun z => absurd (nI_le (by omega) (by omega)) z⟩
    | succ d ih =>
      intro k b hd hk hb hbl
      apply h25
      refine ⟨fun _ => fin b hb, fun z => ?_⟩
      have hlt : k < n := Nat.not_le.mp fun w => z (nI_le w (by omega))
      have hA := h.1 k hlt
      have vin : vp_in (nI k) 3000 := vp_in_nI (by omega) (by omega)
      rw [hp_cl (by omega), hA.1, hA.2.1]
      refine ⟨vin, fun q => absurd q (hbl hlt), fun _ => ⟨vin, fun q => absurd q (nI_pos (by omega)), fun _ => ⟨vin, fun _ => ⟨vin, fun b' hb' => ?_⟩, fun q => absurd (show nI (V k) ≤ nI 255 from nI_le (by omega) (by omega)) q⟩⟩⟩
      subst hb'
      rw [nI_1]
      refine ih (k + 1) _ (by omega) (by omega) (Or.inr ⟨k, hlt, rfl⟩) (fun hk1 q => ?_)
      have h1 := h.2.1 k (k + 1) (by omega) hk1
      have h2 := (h.1 (k + 1) hk1).2.2.1
      have := (pk_lLE (by omega) (by omega)).mp q
      omega
  refine key n 0 (-1) (by omega) (by omega) (Or.inl rfl) (fun h0 q => ?_)
  have h2 := (h.1 0 h0).2.2.1
  rw [Int64.le_iff_toInt_le, pf_lI (by omega)] at q
  have e : (-1 : Int64).toInt = -1 := by decide
  omega
end HPQ
