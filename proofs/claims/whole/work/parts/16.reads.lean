section LCR2
theorem i_vc_ruleCount {k : Nat} {u : SX} {v : SY} (I : i_Rel k u v) (hk : k + 5 ≤ 2562) : wpX_ruleCount (fun r => wpY_ruleCount (fun r' => r' = r ∧ i_Rel (k + 5) u v) v) u := by
  have J : i_Rel (k + 5) u v := i_up I
  obtain ⟨nt, tm, R, n, q, w, t, P, C, K, M, xL, ul, wy, oR, oS, oE, oD, gR, gP, gS, gE, gK, gD, yL, yA, yB, yD, yE, yF, yG, ct, mk, pR, pS, pE, pD, sS, sB, sE, sD, sK, rfl, rfl, hI⟩ := I
  exact ⟨rfl, J⟩
theorem i_vc_ruleSymbol {k : Nat} {u : SX} {v : SY} (I : i_Rel k u v) (hk : k + 5 ≤ 2562) (v1 : Int32) (v2 : Int32) : wpX_ruleSymbol (fun r => wpY_ruleSymbol (fun r' => r' = r ∧ i_Rel (k + 5) u v) v v1 v2) u v1 v2 := by
  have J : i_Rel (k + 5) u v := i_up I
  obtain ⟨nt, tm, R, n, q, w, t, P, C, K, M, xL, ul, wy, oR, oS, oE, oD, gR, gP, gS, gE, gK, gD, yL, yA, yB, yD, yE, yF, yG, ct, mk, pR, pS, pE, pD, sS, sB, sE, sD, sK, rfl, rfl, hI⟩ := I
  obtain ⟨-, -, h24, -, -, -, -, -, -, -⟩ := hI
  unfold wpX_ruleSymbol
  refine br_c (fun h => ?_) (fun h => br_c (fun h' => ?_) (fun h' => ?_))
  · exact br_t h ⟨rfl, J⟩
  · exact br_f h (br_f (Int32.not_lt.mpr h') ⟨rfl, J⟩)
  · rcases pk_ix v1 (n := R) (by omega) with z | z | ⟨r, hr, rfl⟩
    · exact absurd z h
    · exact absurd z h'
    · have hv : vp_in (nI r) 24 := vp_in_nI (by omega) (by omega)
      have hc : (nI r).toNatClampNeg = r := nI_clamp (by omega)
      have hlt : nI r < nI R := nI_lt hr (by omega)
      refine br_c (fun y => ?_) (fun y => br_c (fun y' => ?_) (fun y' => ?_))
      · refine br_f h (br_t hlt (br_f ?_ (br_f ?_ (br_f ?_ (br_f ?_ ⟨rfl, J⟩)))))
        · rintro rfl; exact absurd y (by decide)
        · rintro rfl; exact absurd y (by decide)
        · rintro rfl; exact absurd y (by decide)
        · rintro rfl; exact absurd y (by decide)
      · obtain ⟨p, hp, rfl⟩ := nI_of2 (n := 3) (M := 3) (by decide) y y'
        have ei : nI r * 4 + nI p = nI (r * 4 + p) := by rw [lc_x4, nI_add]
        rw [ei, nI_clamp (by omega), lc_rc_p (by omega)]
        refine ⟨vp_in_nI (by omega) (by omega), br_f h (br_t hlt ?_)⟩
        rw [hc]
        have : p = 0 ∨ p = 1 ∨ p = 2 ∨ p = 3 := by omega
        rcases this with rfl | rfl | rfl | rfl
        · exact br_t rfl ⟨hv, rfl, J⟩
        · exact br_f (by decide) (br_t rfl ⟨hv, rfl, J⟩)
        · exact br_f (by decide) (br_f (by decide) (br_t rfl ⟨hv, rfl, J⟩))
        · exact br_f (by decide) (br_f (by decide) (br_f (by decide) (br_t rfl ⟨hv, rfl, J⟩)))
      · refine br_f h (br_t hlt (br_f ?_ (br_f ?_ (br_f ?_ (br_f ?_ ⟨rfl, J⟩)))))
        · rintro rfl; exact y' (by decide)
        · rintro rfl; exact y' (by decide)
        · rintro rfl; exact y' (by decide)
        · rintro rfl; exact y' (by decide)
theorem i_vc_isLeftCorner {k : Nat} {u : SX} {v : SY} (I : i_Rel k u v) (hk : k + 5 ≤ 2562) (v1 : Int32) (v2 : Int32) : wpX_isLeftCorner (fun r => wpY_isLeftCorner (fun r' v' => r' = r ∧ i_Rel (k + 5) u v') v v1 v2) u v1 v2 := by
  obtain ⟨nt, tm, R, n, q, w, t, P, C, K, M, xL, ul, wy, oR, oS, oE, oD, gR, gP, gS, gE, gK, gD, yL, yA, yB, yD, yE, yF, yG, ct, mk, pR, pS, pE, pD, sS, sB, sE, sD, sK, rfl, rfl, hI⟩ := I
  have hI' := hI
  obtain ⟨h1, hG, h24, hn, -, ht, hP, hM, hK, hN⟩ := hI'
  have h8 := hG.1
  have t8 := hG.2.1
  refine lx_isLC hG h24 (fun h => ?_) (fun a b ha hb e0 e1 => ?_)
  · refine ly_isLC hG h24 (fun _ => ⟨rfl, lc_rel hI⟩) (fun a b ha hb e0 e1 => ?_)
    exact absurd ⟨⟨a, ha, e0⟩, ⟨b, hb, e1⟩⟩ h
  · refine ly_isLC hG h24 (fun h => ?_) (fun a' b' ha' hb' e0' e1' mk' => ?_)
    · exact absurd ⟨⟨a, ha, e0⟩, ⟨b, hb, e1⟩⟩ h
    · have q1 := lc_va_16 h8 t8 hb
      have q2 := lc_va_16 h8 t8 hb'
      have ea : a' = a := (nI_eq (by omega) (by omega)).mp (e0'.symm.trans e0)
      have eb : b' = b := (nI_eq (by omega) (by omega)).mp (e1'.symm.trans e1)
      subst ea eb
      exact ⟨rfl, lc_rel hI⟩
end LCR2
