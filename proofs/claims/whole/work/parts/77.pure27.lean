/-! the call that reads -/
theorem hp_ns0_st (s st : Option Nat) : hp_ns0 (hp_st s) st = hp_st (st <|> s) := by
  cases st <;> rfl
section HPL2
variable {c : Nat} {xa ma : Nat → Int64} {xv mv tf mt : Nat → Int32} {xs ms tl ml mhs fp mp : Int32} {st mst : Int64} {G1 : Prop} {w1 : Int32}
theorem hp_case1 (I : hp_im xa xv xs ma mv ms) (X : hp_tx c tf tl mt ml) (hc : c < 512) (S : hp_sa st mhs mst) (F : fp = mp) (g1 : G1) {fi be df ds mo en sg rc : Int32} {da : Nat → Int64} {dv : Nat → Int32} {ds0 ba : Int64} {na : Nat → Int64} {nv by0 : Nat → Int32} {nsz fr men nhs msg mrc bc fa : Int32} {nst mba : Int64}
    {K : Int32 → (Nat → Int64) → (Nat → Int32) → Int32 → Int32 → Int32 → Int32 → Int32 → (Nat → Int64) → (Nat → Int32) → Int32 → Int32 → Int64 → Int32 → Int64 → Int32 → Int32 → Int64 → Int32 → Int32 → Int32 → (Nat → Int64) → (Nat → Int32) → Int32 → Int32 → Int64 → Int32 → Int32 → (Nat → Int64) → (Nat → Int32) → Int32 → Int32 → Int32 → Int32 → Int64 → Int64 → Int32 → Int32 → (Nat → Int32) → Int32 → Int32 → Prop}
    (k : ∀ r xa xv xs tl fi be df da dv ds mo ds0 en ba sg rc st fp th ma mv ms mhs mst ml mp na nv nsz fr men nhs nst mba msg mrc by0 bc fa, hp_im xa xv xs ma mv ms → hp_tx c tf tl mt ml → hp_sa st mhs mst → fp = mp → K r xa xv xs tl fi be df da dv ds mo ds0 en ba sg rc st fp r th ma mv ms mhs mst ml mp na nv nsz fr men nhs nst mba msg mrc by0 bc fa) :
    hx_v_Loom_read w1 xa xv xs tf tl fi be df da dv ds mo ds0 en ba sg rc st fp (fun r xa xv xs tl fi be df da dv ds mo ds0 en ba sg rc st fp => G1 ∧ hx_v_Model_read w1 ma mv ms mhs mst mt ml mp na nv nsz fr men nhs nst mba msg mrc by0 bc fa (fun r' th ma mv ms mhs mst ml mp na nv nsz fr men nhs nst mba msg mrc by0 bc fa => K r xa xv xs tl fi be df da dv ds mo ds0 en ba sg rc st fp r' th ma mv ms mhs mst ml mp na nv nsz fr men nhs nst mba msg mrc by0 bc fa)) := by
  have I0 := I
  have S0 := S
  obtain ⟨n, M, A, V, hn, C, C', e, e'⟩ := hp_im_C I
  obtain ⟨s, es, hs⟩ := S
  obtain ⟨len, T, hl, hT, hT', el, el'⟩ := X
  subst e e' es el el' F
  have X0 : hp_tx c tf (nI 0) mt (nI 0) := ⟨0, T, Nat.zero_le _, fun j hj => absurd hj (Nat.not_lt_zero j), fun j hj => absurd hj (Nat.not_lt_zero j), rfl, rfl⟩
  unfold hx_v_Loom_read
  intro P32 h32
  refine ⟨fun q0 => ⟨fun q1 => ?_, fun q1 => ?_⟩, fun q0 => ?_⟩
  · apply h32
    refine ⟨g1, ?_⟩
    unfold hx_v_Model_read
    intro _ _ _ _ _ _ _ _ _ _ _ _ _ _ _ _ _ _ _ _ _ _
    refine ⟨fun _ => k _ _ _ _ _ _ _ _ _ _ _ _ _ _ _ _ _ _ _ _ _ _ _ _ _ _ _ _ _ _ _ _ _ _ _ _ _ _ _ _ I0 X0 S0 rfl, fun q => ⟨fun q2 => ?_, fun _ => k _ _ _ _ _ _ _ _ _ _ _ _ _ _ _ _ _ _ _ _ _ _ _ _ _ _ _ _ _ _ _ _ _ _ _ _ _ _ _ _ I0 X0 S0 rfl⟩⟩
    obtain ⟨j, hj, e⟩ := nI_of q
    subst e
    have u := (nI_leI (b := 1) (by omega) (by omega)).mp q2
    have : j = 0 ∨ j = 1 := by omega
    rcases this with e | e
    · exact absurd (by rw [e]; rfl) q0
    · exact absurd (by rw [e]; rfl) q1
  · subst q1
    refine hp_readS C hn hT (by omega) (fun cc pl σ fi be df da' dv' ds mo ds0 en rc hrd hc0 hc11 hpl => ?_) (fun pl σ a1 v1 fi be df da' dv' ds mo ds0 en rc hrd hm R hx => ?_)
    · apply h32
      refine ⟨g1, hp_readM (kind := 1) C' hn hT' (by omega) (by omega) hs (fun c2 pl2 σ2 na' nv' nsz fr en2 nhs nst ba2 sg2 rc2 by' bc fa hrd2 hc2 => ?_) (fun pl2 σ2 a2 v2 hs2 st2 na' nv' nsz fr en2 nhs nst ba2 sg2 rc2 by' bc fa hrd2 R2 hs2' => ?_)⟩
      · obtain ⟨u1, u2, u3⟩ := hp_RD_uniq _ _ _ _ _ _ _ _ _ _ hrd hrd2
        subst u1 u2
        exact k _ _ _ _ _ _ _ _ _ _ _ _ _ _ _ _ _ _ _ _ _ _ _ _ _ _ _ _ _ _ _ _ _ _ _ _ _ _ _ _ I0 X0 S0 rfl
      · obtain ⟨u1, u2, u3⟩ := hp_RD_uniq _ _ _ _ _ _ _ _ _ _ hrd hrd2
        exact absurd u1 hc0
    · apply h32
      refine ⟨g1, hp_readM (kind := 1) C' hn hT' (by omega) (by omega) hs (fun c2 pl2 σ2 na' nv' nsz fr en2 nhs nst ba2 sg2 rc2 by' bc fa hrd2 hc2 => ?_) (fun pl2 σ2 a2 v2 hs2 st2 na' nv' nsz fr en2 nhs nst ba2 sg2 rc2 by' bc fa hrd2 R2 hs2' => ?_)⟩
      · obtain ⟨u1, u2, u3⟩ := hp_RD_uniq _ _ _ _ _ _ _ _ _ _ hrd hrd2
        exact absurd u1.symm hc2
      · obtain ⟨u1, u2, u3⟩ := hp_RD_uniq _ _ _ _ _ _ _ _ _ _ hrd hrd2
        subst u3
        exact k _ _ _ _ _ _ _ _ _ _ _ _ _ _ _ _ _ _ _ _ _ _ _ _ _ _ _ _ _ _ _ _ _ _ _ _ _ _ _ _ ⟨_, _, _, hm, hm, R, R2, rfl, rfl⟩ X0 ⟨_, hp_ns0_st s _, hs2'⟩ rfl
  · subst q0
    refine hp_readC C hn hT (by omega) (fun cc pl σ fi be df da' dv' ds mo ds0 en ba sg hrd hc0 hc11 hpl => ?_) (fun pl σ a1 v1 fi be df da' dv' ds mo ds0 en ba sg hrd hm R hx => ?_)
    · apply h32
      refine ⟨g1, hp_readM (kind := 0) C' hn hT' (by omega) (by omega) hs (fun c2 pl2 σ2 na' nv' nsz fr en2 nhs nst ba2 sg2 rc2 by' bc fa hrd2 hc2 => ?_) (fun pl2 σ2 a2 v2 hs2 st2 na' nv' nsz fr en2 nhs nst ba2 sg2 rc2 by' bc fa hrd2 R2 hs2' => ?_)⟩
      · obtain ⟨u1, u2, u3⟩ := hp_RD_uniq _ _ _ _ _ _ _ _ _ _ hrd hrd2
        subst u1 u2
        exact k _ _ _ _ _ _ _ _ _ _ _ _ _ _ _ _ _ _ _ _ _ _ _ _ _ _ _ _ _ _ _ _ _ _ _ _ _ _ _ _ I0 X0 S0 rfl
      · obtain ⟨u1, u2, u3⟩ := hp_RD_uniq _ _ _ _ _ _ _ _ _ _ hrd hrd2
        exact absurd u1 hc0
    · apply h32
      refine ⟨g1, hp_readM (kind := 0) C' hn hT' (by omega) (by omega) hs (fun c2 pl2 σ2 na' nv' nsz fr en2 nhs nst ba2 sg2 rc2 by' bc fa hrd2 hc2 => ?_) (fun pl2 σ2 a2 v2 hs2 st2 na' nv' nsz fr en2 nhs nst ba2 sg2 rc2 by' bc fa hrd2 R2 hs2' => ?_)⟩
      · obtain ⟨u1, u2, u3⟩ := hp_RD_uniq _ _ _ _ _ _ _ _ _ _ hrd hrd2
        exact absurd u1.symm hc2
      · obtain ⟨u1, u2, u3⟩ := hp_RD_uniq _ _ _ _ _ _ _ _ _ _ hrd hrd2
        subst u3
        exact k _ _ _ _ _ _ _ _ _ _ _ _ _ _ _ _ _ _ _ _ _ _ _ _ _ _ _ _ _ _ _ _ _ _ _ _ _ _ _ _ ⟨_, _, _, hm, hm, R, R2, rfl, rfl⟩ X0 ⟨_, hp_ns0_st s _, hs2'⟩ rfl
end HPL2
