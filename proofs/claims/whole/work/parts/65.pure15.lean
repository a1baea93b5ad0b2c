/-! the reference reads: its small methods -/
theorem hp_fine0 {y c : Int32} {Q : Int32 → Int32 → Prop} (hc : ¬ c = 0) (h1 : ¬ y = 0 → Q 1 0) (h0 : y = 0 → Q 0 c) : hx_v_Model_isFine y c 0 Q := by
  unfold hx_v_Model_isFine
  intro P16 P20 h16 h20
  refine ⟨fun w => absurd rfl w, fun _ => ⟨fun w => h16 _ (h20 _ _ ⟨fun z => absurd rfl z, fun _ => h1 w⟩), fun w => h20 _ _ ⟨fun _ => h0 w, fun z => absurd z hc⟩⟩⟩
theorem hp_fineF {y c f : Int32} {Q : Int32 → Int32 → Prop} (hf : ¬ f = 0) (h : Q 0 f) : hx_v_Model_isFine y c f Q := by
  unfold hx_v_Model_isFine
  intro P16 P20 h16 h20
  exact ⟨fun _ => h16 _ (h20 _ _ ⟨fun _ => h, fun z => absurd z hf⟩), fun z => absurd z hf⟩
section HPU
variable {f : Nat → Int32} {len p q : Nat} {T : Nat → Nat}
theorem hp_readDigits (hT : hp_TX f len T) (hl : len ≤ 4096) (hq : q ≤ len) {s : Nat} (hs : p + s ≤ q) {by0 : Nat → Int32} {Q : (Nat → Int32) → Int32 → Int32 → Prop} (h1 : hp_all T p q s → ∀ by', (∀ i, i < (q - p - s) / 2 → by' i = nI (hp_B T p s i)) → Q by' (nI ((q - p - s) / 2)) 0) (h0 : ¬ hp_all T p q s → Q by0 0 2) : hx_v_Model_readDigits (nI (p + s)) (nI q) f by0 0 Q := by
  unfold hx_v_Model_readDigits
  intro P10 P37 P38 P56 h10 h37 h38 h56
  -- the bytes
  have key2 : hp_all T p q s → ∀ d i by', (q - p - s) / 2 - i ≤ d → i ≤ (q - p - s) / 2 → (∀ j, j < i → by' j = nI (hp_B T p s j)) → P56 1 (nI (p + s + 2 * i)) by' (nI i) 0 := by
    intro ha d
    induction d with
    | zero =>
      intro i by' hd hi hb
      apply h56
      rw [nI_1]
      refine ⟨fun _ => ?_, fun w => absurd (nI_le (by omega) (by omega)) w⟩
      obtain rfl : i = (q - p - s) / 2 := by omega
      exact h1 ha by' hb
    | succ d ih =>
      intro i by' hd hi hb
      apply h56
      rw [nI_1]
      refine ⟨fun w => ?_, fun w => ⟨fun z => absurd z (by decide), fun _ => ?_⟩⟩
      · have := (nI_leI (by omega) (by omega)).mp w
        obtain rfl : i = (q - p - s) / 2 := by omega
        exact h1 ha by' hb
      · have hlt : p + s + 2 * i + 1 < q := Nat.not_le.mp fun z => w (nI_le z (by omega))
        have t1 := hT (p + s + 2 * i) (by omega)
        have t2 := hT (p + s + 2 * i + 1) (by omega)
        have a1 := ha (s + 2 * i) (by omega) (by omega)
        have a2 := ha (s + 2 * i + 1) (by omega) (by omega)
        rw [← Nat.add_assoc] at a1
        rw [← Nat.add_assoc, ← Nat.add_assoc] at a2
        rw [hp_cl (by omega), hp_cl (by omega), t1.1, t2.1]
        refine ⟨vp_in_nI (by omega) (by omega), hp_digitM (by omega) ⟨vp_in_nI (by omega) (by omega), hp_digitM (by omega) ⟨vp_in_nI (by omega) (by omega), fun z hz => ?_⟩⟩⟩
        rw [show (2 : Int32) = nI 2 from rfl, nI_add] at hz
        subst hz
        rw [hp_dI_some a1, hp_dI_some a2, show (16 : Int32) = nI 16 from rfl, pk_mul, nI_add, nI_1, hp_cl (by omega)]
        refine ih (i + 1) _ (by omega) (by omega) (fun j hj => ?_)
        by_cases e : j = i
        · rw [e, pk_us]
          rfl
        · rw [pk_un e]
          exact hb j (by omega)
  -- the look at the digits
  have key1 : ∀ d k (al : Bool), q - k ≤ d → p + s ≤ k → k ≤ q → (al = true ↔ ∀ i, s ≤ i → p + i < k → (hp_dg (T (p + i))).isSome) → P10 (hp_b al) (nI k) by0 0 0 := by
    intro d
    have fin : ∀ (al : Bool), (al = true ↔ hp_all T p q s) → hx_v_Model_isFine (hp_b al) 2 0 (fun _ fa => P56 (hp_b al) (nI (p + s)) by0 0 fa) := by
      intro al hal
      cases al with
      | true => exact hp_fine0 (by decide) (fun _ => key2 (hal.mp rfl) _ 0 by0 (Nat.sub_le _ _) (by omega) (fun j hj => absurd hj (by omega))) (fun w => absurd w (by decide))
      | false =>
        have hn : ¬ hp_all T p q s := fun z => absurd (hal.mpr z) (by decide)
        refine hp_fine0 (by decide) (fun w => absurd rfl w) (fun _ => ?_)
        apply h56
        refine ⟨fun _ => h0 hn, fun _ => ⟨fun _ => h0 hn, fun w => absurd rfl w⟩⟩
    induction d with
    | zero =>
      intro k al hd hk hkq hal
      apply h10
      obtain rfl : k = q := by omega
      exact ⟨fun _ => fin al hal, fun w => absurd (nI_le (Nat.le_refl _) (by omega)) w⟩
    | succ d ih =>
      intro k al hd hk hkq hal
      apply h10
      refine ⟨fun w => ?_, fun w => ?_⟩
      · have := (nI_leI (by omega) (by omega)).mp w
        obtain rfl : k = q := by omega
        exact fin al hal
      · have hlt : k < q := Nat.not_le.mp fun z => w (nI_le z (by omega))
        have nx : ∀ (al' : Bool), (al' = true ↔ ∀ i, s ≤ i → p + i < k + 1 → (hp_dg (T (p + i))).isSome) → P38 (nI k) (hp_b al') by0 0 0 := by
          intro al' h'
          apply h38
          rw [nI_1]
          exact ih (k + 1) al' (by omega) (by omega) (by omega) h'
        have no : ¬ (∀ i, s ≤ i → p + i < k + 1 → (hp_dg (T (p + i))).isSome) → P37 (nI k) by0 0 0 := fun z => h37 _ _ _ _ (nx false ⟨(fun y => by cases y), fun y => absurd y z⟩)
        cases al with
        | false =>
          refine ⟨fun _ => no fun z => absurd (hal.mpr fun i h1 h2 => z i h1 (by omega)) (by decide), fun z => absurd rfl z⟩
        | true =>
          refine ⟨fun z => absurd z (by decide), fun _ => ?_⟩
          have ht := hT k (by omega)
          rw [hp_cl (by omega), ht.1]
          refine ⟨vp_in_nI (by omega) (by omega), hp_digitM (by omega) ?_⟩
          by_cases hd' : (hp_dg (T k)).isSome
          · rw [hp_dI_some hd']
            have := hp_d_lt (T k)
            refine ⟨fun z => absurd z (nI_pos (by omega)), fun _ => nx true ⟨fun _ i h1 h2 => ?_, fun _ => rfl⟩⟩
            by_cases e : p + i = k
            · rw [e]; exact hd'
            · exact hal.mp rfl i h1 (by omega)
          · rw [hp_dI_none hd']
            refine ⟨fun _ => no fun z => hd' ?_, fun z => absurd (by decide) z⟩
            have := z (k - p) (by omega) (by omega)
            rw [show p + (k - p) = k by omega] at this
            exact this
  exact key1 q (p + s) true (by omega) (Nat.le_refl _) hs ⟨fun _ i h1 h2 => absurd h2 (by omega), fun _ => rfl⟩
theorem hp_sumM {B : Nat → Nat} (hB : ∀ i, B i < 256) {nb : Nat} (hn : nb ≤ 4096) {by' : Nat → Int32} (hb : ∀ i, i < nb → by' i = nI (B i)) {Q : Int32 → Prop} (h : Q (nI (hp_sum B nb % 256))) : hx_v_Model_sum by' (nI nb) Q := by
  unfold hx_v_Model_sum
  intro P4 h4
  have hle := hp_sum_le hB nb
  have fin : Q (nI (hp_sum B nb) - nI (hp_sum B nb) / (256 : Int32) * (256 : Int32)) := by
    rw [show (256 : Int32) = nI 256 from rfl, pk_rem (by omega) (by omega) (by omega)]
    exact h
  have key : ∀ d k, nb - k ≤ d → k ≤ nb → P4 (nI (hp_sum B k)) (nI k) := by
    intro d
    induction d with
    | zero =>
      intro k hd hk
      apply h4
      obtain rfl : k = nb := by omega
      exact ⟨fun _ => fin, fun w => absurd (nI_le (Nat.le_refl _) (by omega)) w⟩
    | succ d ih =>
      intro k hd hk
      apply h4
      refine ⟨fun w => ?_, fun w => ?_⟩
      · have := (nI_leI (by omega) (by omega)).mp w
        obtain rfl : k = nb := by omega
        exact fin
      · have hlt : k < nb := Nat.not_le.mp fun u => w (nI_le u (by omega))
        refine ⟨vp_in_nI (by omega) (by omega), fun z hz => ?_⟩
        rw [hp_cl (by omega), hb k hlt, nI_add] at hz
        subst hz
        rw [nI_1]
        exact ih (k + 1) (by omega) (by omega)
  exact key nb 0 (by omega) (by omega)
theorem hp_numM {B : Nat → Nat} (hB : ∀ i, B i < 256) {i n : Nat} (hn : n ≤ 4) (hi : i ≤ 100) {by' : Nat → Int32} (hb : ∀ k, k < n → by' (i + k) = nI (B (i + k))) {Q : Int64 → Prop} (h : Q (lN (hp_num B i n))) : hx_v_Model_number (nI i) (nI n) by' Q := by
  unfold hx_v_Model_number
  intro P5 h5
  have key : ∀ d k, n - k ≤ d → k ≤ n → P5 (lN (hp_num B i k)) (nI (i + k)) := by
    intro d
    induction d with
    | zero =>
      intro k hd hk
      apply h5
      obtain rfl : k = n := by omega
      rw [nI_add]
      exact ⟨fun _ => h, fun w => absurd (nI_le (Nat.le_refl _) (by omega)) w⟩
    | succ d ih =>
      intro k hd hk
      apply h5
      rw [nI_add]
      refine ⟨fun w => ?_, fun w => ?_⟩
      · have := (nI_leI (by omega) (by omega)).mp w
        obtain rfl : k = n := by omega
        exact h
      · have hlt : k < n := by
          have : i + k < i + n := Nat.not_le.mp fun u => w (nI_le u (by omega))
          omega
        have hBk := hB (i + k)
        refine ⟨vp_in_nI (by omega) (by omega), fun z hz => ?_⟩
        rw [hp_cl (by omega), hb k hlt, nI_l (by omega), show (256 : Int64) = lN 256 from rfl, lN_mul, lN_add] at hz
        subst hz
        rw [nI_1]
        exact ih (k + 1) (by omega) (by omega)
  exact key n 0 (by omega) (by omega)
/-- the reference's new bytes, in the order in which they came -/
def hp_ML (M : Nat → Option Nat) (na : Nat → Int64) (nv : Nat → Int32) (N : Nat → Option Nat) (ns fresh : Nat) : Prop :=
  ∃ X Y : Nat → Nat, (∀ k, k < ns → na k = lN (X k) ∧ nv k = nI (Y k) ∧ X k < 4294967296 ∧ Y k < 256 ∧ N (X k) = some (Y k)) ∧ (∀ x y, N x = some y → ∃ k, k < ns ∧ X k = x) ∧ (∀ j k, j < k → k < ns → X j ≠ X k) ∧ fresh = hp_rem M X ns
theorem hp_putNew {a : Nat → Int64} {v : Nat → Int32} {n : Nat} {M : Nat → Option Nat} {A V : Nat → Nat} (h : hp_C a v n M A V) (hn : n ≤ 3000) {na : Nat → Int64} {nv : Nat → Int32} {N : Nat → Option Nat} {ns fresh : Nat} (hm : hp_ML M na nv N ns fresh) (hns : ns < 4100) {x y : Nat} (hx : x < 8589934592) (hy : y < 256) {Q : (Nat → Int64) → (Nat → Int32) → Int32 → Int32 → Int32 → Prop} (bad : (4294967296 ≤ x ∨ N x ≠ none) → Q na nv (nI ns) (nI fresh) 8)
    (ok : x < 4294967296 → N x = none → ∀ na' nv', hp_ML M na' nv' (hp_set N x y) (ns + 1) (fresh + (if (M x).isSome then 0 else 1)) → Q na' nv' (nI (ns + 1)) (nI (fresh + (if (M x).isSome then 0 else 1))) 0) : hx_v_Model_putNew (lN x) (nI y) a (nI n) na nv (nI ns) (nI fresh) 0 Q := by
  unfold hx_v_Model_putNew
  intro P13 P18 P44 P49 P68 P128 h13 h18 h44 h49 h68 h128
  obtain ⟨X, Y, m1, m2, m3, rfl⟩ := hm
  have hrl := hp_rem_le M X ns
  -- behind the loop
  have fin : ∀ th : Bool, (th = true ↔ (4294967296 ≤ x ∨ N x ≠ none)) → P68 (hp_b (!th)) na nv (nI ns) (nI (hp_rem M X ns)) 0 := by
    intro th hth
    apply h68
    cases th with
    | true => exact hp_fine0 (by decide) (fun w => absurd rfl w) (fun _ => ⟨fun _ => bad (hth.mp rfl), fun w => absurd rfl w⟩)
    | false =>
      have hno : ¬ (4294967296 ≤ x ∨ N x ≠ none) := fun z => absurd (hth.mpr z) (by decide)
      have hx32 : x < 4294967296 := Nat.not_le.mp fun z => hno (Or.inl z)
      have hN : N x = none := Decidable.byContradiction fun z => hno (Or.inr z)
      have hML : hp_ML M (vp_updL na ns (lN x)) (upd nv ns (nI y)) (hp_set N x y) (ns + 1) (hp_rem M X ns + (if (M x).isSome then 0 else 1)) := by
        have hXx : ∀ k, k < ns → X k ≠ x := fun k hk e => by
          have := (m1 k hk).2.2.2.2
          rw [e, hN] at this
          cases this
        refine ⟨fun k => if k = ns then x else X k, fun k => if k = ns then y else Y k, fun k hk => ?_, fun z w hz => ?_, fun j k hj hk => ?_, ?_⟩
        · by_cases e : k = ns
          · subst e
            simp only [if_true]
            exact ⟨pk_uLs, pk_us, hx32, hy, by unfold hp_set; rw [if_pos rfl]⟩
          · simp only [e, if_false]
            have h1 := m1 k (by omega)
            rw [pk_uLn e, pk_un e]
            refine ⟨h1.1, h1.2.1, h1.2.2.1, h1.2.2.2.1, ?_⟩
            unfold hp_set
            rw [if_neg (hXx k (by omega))]
            exact h1.2.2.2.2
        · unfold hp_set at hz
          by_cases e : z = x
          · exact ⟨ns, by omega, by simp only [if_true]; exact e.symm⟩
          · rw [if_neg e] at hz
            obtain ⟨k, hk, hk2⟩ := m2 z w hz
            exact ⟨k, by omega, by simp only [show ¬ k = ns by omega, if_false]; exact hk2⟩
        · by_cases e : k = ns
          · simp only [e, show ¬ j = ns by omega, if_true, if_false]
            exact hXx j (by omega)
          · simp only [e, show ¬ j = ns by omega, if_false]
            exact m3 j k hj (by omega)
        · show _ = hp_rem M _ ns + (if (M (if ns = ns then x else X ns)).isSome then 0 else 1)
          rw [if_pos rfl, hp_rem_congr (X := fun k => if k = ns then x else X k) (Y := X) ns (fun j hj => by simp only [show ¬ j = ns by omega, if_false])]
      refine hp_fine0 (by decide) (fun _ => ⟨fun w => absurd w (by decide), fun _ => ?_⟩) (fun w => absurd w (by decide))
      have vin : vp_in (nI ns) 4100 := vp_in_nI hns (by omega)
      have go := ok hx32 hN _ _ hML
      refine ⟨vin, vin, hp_hasM h (by omega) (by omega) (fun hM => ⟨fun w => absurd w (by decide), fun _ => h128 _ _ _ _ _ _ ?_⟩) (fun hM => ⟨fun _ => h128 _ _ _ _ _ _ ?_, fun w => absurd rfl w⟩)⟩
      · have e : (M x).isSome = true := by
          cases z : M x with
          | none => exact absurd z hM
          | some _ => rfl
        rw [e] at go
        rw [nI_1, hp_cl (by omega)]
        exact go
      · rw [hM] at go
        rw [nI_1, nI_1, hp_cl (by omega)]
        exact go
  have key : ∀ d k (th : Bool), ns - k ≤ d → k ≤ ns → (th = true ↔ (4294967296 ≤ x ∨ ∃ j, j < k ∧ X j = x)) → P18 (hp_b th) (nI k) na nv (nI ns) (nI (hp_rem M X ns)) 0 := by
    intro d
    have done : ∀ th : Bool, (th = true ↔ (4294967296 ≤ x ∨ ∃ j, j < ns ∧ X j = x)) → ((¬ hp_b th = (0 : Int32)) → (P68 (0 : Int32) na nv (nI ns) (nI (hp_rem M X ns)) 0)) ∧ (hp_b th = (0 : Int32) → (P68 (1 : Int32) na nv (nI ns) (nI (hp_rem M X ns)) 0)) := by
      intro th hth
      have h2 : th = true ↔ (4294967296 ≤ x ∨ N x ≠ none) := by
        rw [hth]
        constructor
        · intro z
          rcases z with z | ⟨j, hj, e⟩
          · exact Or.inl z
          · refine Or.inr ?_
            rw [← e, (m1 j hj).2.2.2.2]
            exact fun y => by cases y
        · intro z
          rcases z with z | hz
          · exact Or.inl z
          · refine Or.inr ?_
            cases q : N x with
            | none => exact absurd q hz
            | some w => exact m2 x w q
      have := fin th h2
      cases th with
      | true => exact ⟨fun _ => this, fun w => absurd w (by decide)⟩
      | false => exact ⟨fun w => absurd rfl w, fun _ => this⟩
    induction d with
    | zero =>
      intro k th hd hk hth
      apply h18
      obtain rfl : k = ns := by omega
      exact ⟨fun _ => done th hth, fun w => absurd (nI_le (Nat.le_refl _) (by omega)) w⟩
    | succ d ih =>
      intro k th hd hk hth
      apply h18
      refine ⟨fun w => ?_, fun w => ?_⟩
      · have := (nI_leI (by omega) (by omega)).mp w
        obtain rfl : k = ns := by omega
        exact done th hth
      · have hlt : k < ns := Nat.not_le.mp fun u => w (nI_le u (by omega))
        have o1 : ns - (k + 1) ≤ d := by clear hth; omega
        have o2 : k + 1 ≤ ns := hlt
        have nx : ∀ th' : Bool, (th' = true ↔ (4294967296 ≤ x ∨ ∃ j, j < k + 1 ∧ X j = x)) → P49 (nI k) (hp_b th') na nv (nI ns) (nI (hp_rem M X ns)) 0 := by
          intro th' h'
          apply h49
          rw [nI_1]
          exact ih (k + 1) th' o1 o2 h'
        have yes : (4294967296 ≤ x ∨ ∃ j, j < k + 1 ∧ X j = x) → P44 (nI k) na nv (nI ns) (nI (hp_rem M X ns)) 0 := fun z => h44 _ _ _ _ _ _ (nx true ⟨fun _ => z, fun _ => rfl⟩)
        cases th with
        | true => exact ⟨fun _ => yes ((hth.mp rfl).imp id fun ⟨j, hj, e⟩ => ⟨j, by omega, e⟩), fun z => absurd z (by decide)⟩
        | false =>
          have hno : ¬ (4294967296 ≤ x ∨ ∃ j, j < k ∧ X j = x) := fun z => absurd (hth.mpr z) (by decide)
          refine ⟨fun z => absurd rfl z, fun _ => ?_⟩
          have hm := m1 k hlt
          rw [hp_cl (by omega), hm.1]
          refine ⟨vp_in_nI (by omega) (by omega), fun z => nx false ⟨(fun y => by cases y), fun y => ?_⟩, fun z => yes (Or.inr ⟨k, by omega, (pk_lEQ (by omega) (by omega)).mp z⟩)⟩
          exfalso
          rcases y with y | ⟨j, hj, e⟩
          · exact hno (Or.inl y)
          · by_cases e1 : j = k
            · rw [e1] at e
              exact z (by rw [e])
            · exact hno (Or.inr ⟨j, by omega, e⟩)
  refine ⟨fun w => h13 _ _ _ _ _ _ ?_, fun w => h13 _ _ _ _ _ _ ?_⟩
  · have := (pk_lLT (b := 4294967296) (by omega) (by omega)).mp w
    refine key ns 0 false (by omega) (by omega) ⟨(fun y => by cases y), fun y => ?_⟩
    rcases y with y | ⟨j, hj, _⟩ <;> omega
  · have : ¬ x < 4294967296 := fun z => w ((pk_lLT (b := 4294967296) (by omega) (by omega)).mpr z)
    exact key ns 0 true (by omega) (by omega) ⟨fun _ => Or.inl (by omega), fun _ => rfl⟩
end HPU
