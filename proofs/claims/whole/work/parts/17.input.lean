section LCR3
theorem i_vc_addToken {k : Nat} {u : SX} {v : SY} (I : i_Rel k u v) (hk : k + 5 ≤ 2562) (v1 : Int32) : wpX_addToken (fun r u' => wpY_addToken (fun r' v' => r' = r ∧ i_Rel (k + 5) u' v') v v1) u v1 := by
  obtain ⟨nt, tm, R, n, q, w, t, P, C, K, M, xL, ul, wy, oR, oS, oE, oD, gR, gP, gS, gE, gK, gD, yL, yA, yB, yD, yE, yF, yG, ct, mk, pR, pS, pE, pD, sS, sB, sE, sD, sK, rfl, rfl, hI⟩ := I
  have hI' := hI
  obtain ⟨h1, hG, h24, hn, hA, ht, hP, hM, hK, hN⟩ := hI'
  unfold wpX_addToken
  refine br_c (fun h => br_t h ⟨rfl, lc_rel hI⟩) (fun h => br_c (fun h' => ?_) (fun h' => br_f h (br_f h' ⟨rfl, lc_rel hI⟩)))
  refine br_c (fun h2 => ?_) (fun h2 => br_f h (br_t h' (br_f h2 ⟨rfl, lc_rel hI⟩)))
  have hn2 : n < 12 := (nI_ltI (a := n) (b := 12) (by omega) (by decide)).mp h2
  have hv : vp_in (nI n) 12 := vp_in_nI hn2 (by omega)
  refine ⟨hv, nm_e (nm_r (nI_1 n) ?_)⟩
  refine br_f h (br_t h' (br_t h2 ⟨hv, nm_e (nm_r (nI_1 n) ?_)⟩))
  exact ⟨rfl, lc_rel (M := 0) ⟨h1, hG, h24, by omega, hA, ht, Or.inl rfl, by omega, fun _ => rfl, fun j hj => by omega⟩⟩
theorem i_vc_clearInput {k : Nat} {u : SX} {v : SY} (I : i_Rel k u v) (hk : k + 5 ≤ 2562) : wpX_clearInput (fun u' => wpY_clearInput (fun v' => i_Rel (k + 5) u' v') v) u := by
  obtain ⟨nt, tm, R, n, q, w, t, P, C, K, M, xL, ul, wy, oR, oS, oE, oD, gR, gP, gS, gE, gK, gD, yL, yA, yB, yD, yE, yF, yG, ct, mk, pR, pS, pE, pD, sS, sB, sE, sD, sK, rfl, rfl, hI⟩ := I
  obtain ⟨h1, hG, h24, hn, hA, ht, hP, hM, hK, hN⟩ := hI
  exact lc_rel (k := k + 5) (n := 0) (w := w) (P := 0) (C := C) (K := -1) (M := 0) (ct := ct) (oR := oR) (oS := oS) (oE := oE) (oD := oD) (pR := pR) (pS := pS) (pE := pE) (pD := pD) ⟨h1, hG, h24, by omega, hA, ht, Or.inl rfl, by omega, fun _ => rfl, fun j hj => by omega⟩
theorem i_vc_inputLength {k : Nat} {u : SX} {v : SY} (I : i_Rel k u v) (hk : k + 5 ≤ 2562) : wpX_inputLength (fun r => wpY_inputLength (fun r' => r' = r ∧ i_Rel (k + 5) u v) v) u := by
  have J : i_Rel (k + 5) u v := i_up I
  obtain ⟨nt, tm, R, n, q, w, t, P, C, K, M, xL, ul, wy, oR, oS, oE, oD, gR, gP, gS, gE, gK, gD, yL, yA, yB, yD, yE, yF, yG, ct, mk, pR, pS, pE, pD, sS, sB, sE, sD, sK, rfl, rfl, hI⟩ := I
  exact ⟨rfl, J⟩
theorem i_vc_inputToken {k : Nat} {u : SX} {v : SY} (I : i_Rel k u v) (hk : k + 5 ≤ 2562) (v1 : Int32) : wpX_inputToken (fun r => wpY_inputToken (fun r' => r' = r ∧ i_Rel (k + 5) u v) v v1) u v1 := by
  have J : i_Rel (k + 5) u v := i_up I
  obtain ⟨nt, tm, R, n, q, w, t, P, C, K, M, xL, ul, wy, oR, oS, oE, oD, gR, gP, gS, gE, gK, gD, yL, yA, yB, yD, yE, yF, yG, ct, mk, pR, pS, pE, pD, sS, sB, sE, sD, sK, rfl, rfl, hI⟩ := I
  obtain ⟨h1, hG, h24, hn, hA, ht, hP, hM, hK, hN⟩ := hI
  unfold wpX_inputToken
  refine br_c (fun h => br_t h ⟨rfl, J⟩) (fun h => br_c (fun h' => ?_) (fun h' => br_f h (br_f h' ⟨rfl, J⟩)))
  obtain ⟨j, hj, rfl⟩ := nI_of h
  have hjn : j < n := (nI_ltI hj (by omega)).mp h'
  have hv : vp_in (nI j) 12 := vp_in_nI (by omega) (by omega)
  exact ⟨hv, br_f h (br_t h' ⟨hv, rfl, J⟩)⟩
end LCR3
