section LCR6
theorem i_vc_selectedRank {k : Nat} {u : SX} {v : SY} (I : i_Rel k u v) (hk : k + 5 ≤ 2562) : wpX_selectedRank (fun r => wpY_selectedRank (fun r' => r' = r ∧ i_Rel (k + 5) u v) v) u := by
  have J : i_Rel (k + 5) u v := i_up I
  obtain ⟨nt, tm, R, n, q, w, t, P, C, K, M, xL, ul, wy, oR, oS, oE, oD, gR, gP, gS, gE, gK, gD, yL, yA, yB, yD, yE, yF, yG, ct, mk, pR, pS, pE, pD, sS, sB, sE, sD, sK, rfl, rfl, hI⟩ := I
  exact ⟨rfl, J⟩
theorem lx_isNode {nt tm R n : Nat} {q : Nat → Nat → Nat} {w : Nat → Int32} {t : Nat → Nat} {xP xC xK xL : Int32} {M : Nat} {ul wy oR oS oE oD gR gP gS gE gK gD : Nat → Int32} {post : Int32 → Prop} {x : Int32} (hM : M ≤ 196) (hf : (¬ x < 0 → ¬ x < nI M) → post 0) (ht : ∀ j, j < M → x = nI j → post 1) : wpX_isNode post ((nI nt), (nI tm), (nI R), (nI n), xP, xC, xK, (nI M), xL, (lc_rc q), w, ul, (lc_tr t), wy, oR, oS, oE, oD, gR, gP, gS, gE, gK, gD) x := by
  unfold wpX_isNode
  refine br_c (fun h => hf (fun z => absurd h z)) (fun h => br_c (fun h' => hf (fun _ => Int32.not_lt.mpr h')) (fun h' => ?_))
  obtain ⟨j, hj, rfl⟩ := nI_of h
  exact ht j ((nI_ltI hj (by omega)).mp (Int32.not_le.mp h')) rfl
theorem i_vc_nodeRule {k : Nat} {u : SX} {v : SY} (I : i_Rel k u v) (hk : k + 5 ≤ 2562) (v1 : Int32) : wpX_nodeRule (fun r => wpY_nodeRule (fun r' => r' = r ∧ i_Rel (k + 5) u v) v v1) u v1 := by
  have J : i_Rel (k + 5) u v := i_up I
  obtain ⟨nt, tm, R, n, q, w, t, P, C, K, M, xL, ul, wy, oR, oS, oE, oD, gR, gP, gS, gE, gK, gD, yL, yA, yB, yD, yE, yF, yG, ct, mk, pR, pS, pE, pD, sS, sB, sE, sD, sK, rfl, rfl, hI⟩ := I
  obtain ⟨-, -, -, -, -, -, -, hM, hK, hN⟩ := hI
  unfold wpX_nodeRule
  refine lx_isNode hM (fun h => ?_) (fun j hj e => ?_)
  · refine br_t rfl ?_
    unfold wpY_nodeRule
    refine br_c (fun _ => ⟨rfl, J⟩) (fun _ => br_c (fun _ => ⟨rfl, J⟩) (fun h1 => br_c (fun h2 => ?_) (fun _ => ⟨rfl, J⟩)))
    exact absurd h2 (h h1)
  · subst e
    refine br_f (by decide) ⟨vp_in_nI (by omega) (by omega), ?_⟩
    rw [nI_clamp (by omega), (hN j hj).1]
    unfold wpY_nodeRule
    refine br_f (fun z => ?_) (br_f (nI_pos (by omega)) (br_t (nI_lt hj (by omega)) ⟨vp_in_nI (by omega) (by omega), ?_⟩))
    · have := hK z
      omega
    · rw [nI_clamp (by omega)]
      exact ⟨rfl, J⟩
theorem i_vc_nodeStart {k : Nat} {u : SX} {v : SY} (I : i_Rel k u v) (hk : k + 5 ≤ 2562) (v1 : Int32) : wpX_nodeStart (fun r => wpY_nodeStart (fun r' => r' = r ∧ i_Rel (k + 5) u v) v v1) u v1 := by
  have J : i_Rel (k + 5) u v := i_up I
  obtain ⟨nt, tm, R, n, q, w, t, P, C, K, M, xL, ul, wy, oR, oS, oE, oD, gR, gP, gS, gE, gK, gD, yL, yA, yB, yD, yE, yF, yG, ct, mk, pR, pS, pE, pD, sS, sB, sE, sD, sK, rfl, rfl, hI⟩ := I
  obtain ⟨-, -, -, -, -, -, -, hM, hK, hN⟩ := hI
  unfold wpX_nodeStart
  refine lx_isNode hM (fun h => ?_) (fun j hj e => ?_)
  · refine br_t rfl ?_
    unfold wpY_nodeStart
    refine br_c (fun _ => ⟨rfl, J⟩) (fun _ => br_c (fun _ => ⟨rfl, J⟩) (fun h1 => br_c (fun h2 => ?_) (fun _ => ⟨rfl, J⟩)))
    exact absurd h2 (h h1)
  · subst e
    refine br_f (by decide) ⟨vp_in_nI (by omega) (by omega), ?_⟩
    rw [nI_clamp (by omega), (hN j hj).2.1]
    unfold wpY_nodeStart
    refine br_f (fun z => ?_) (br_f (nI_pos (by omega)) (br_t (nI_lt hj (by omega)) ⟨vp_in_nI (by omega) (by omega), ?_⟩))
    · have := hK z
      omega
    · rw [nI_clamp (by omega)]
      exact ⟨rfl, J⟩
theorem i_vc_nodeEnd {k : Nat} {u : SX} {v : SY} (I : i_Rel k u v) (hk : k + 5 ≤ 2562) (v1 : Int32) : wpX_nodeEnd (fun r => wpY_nodeEnd (fun r' => r' = r ∧ i_Rel (k + 5) u v) v v1) u v1 := by
  have J : i_Rel (k + 5) u v := i_up I
  obtain ⟨nt, tm, R, n, q, w, t, P, C, K, M, xL, ul, wy, oR, oS, oE, oD, gR, gP, gS, gE, gK, gD, yL, yA, yB, yD, yE, yF, yG, ct, mk, pR, pS, pE, pD, sS, sB, sE, sD, sK, rfl, rfl, hI⟩ := I
  obtain ⟨-, -, -, -, -, -, -, hM, hK, hN⟩ := hI
  unfold wpX_nodeEnd
  refine lx_isNode hM (fun h => ?_) (fun j hj e => ?_)
  · refine br_t rfl ?_
    unfold wpY_nodeEnd
    refine br_c (fun _ => ⟨rfl, J⟩) (fun _ => br_c (fun _ => ⟨rfl, J⟩) (fun h1 => br_c (fun h2 => ?_) (fun _ => ⟨rfl, J⟩)))
    exact absurd h2 (h h1)
  · subst e
    refine br_f (by decide) ⟨vp_in_nI (by omega) (by omega), ?_⟩
    rw [nI_clamp (by omega), (hN j hj).2.2.1]
    unfold wpY_nodeEnd
    refine br_f (fun z => ?_) (br_f (nI_pos (by omega)) (br_t (nI_lt hj (by omega)) ⟨vp_in_nI (by omega) (by omega), ?_⟩))
    · have := hK z
      omega
    · rw [nI_clamp (by omega)]
      exact ⟨rfl, J⟩
theorem i_vc_nodeDepth {k : Nat} {u : SX} {v : SY} (I : i_Rel k u v) (hk : k + 5 ≤ 2562) (v1 : Int32) : wpX_nodeDepth (fun r => wpY_nodeDepth (fun r' => r' = r ∧ i_Rel (k + 5) u v) v v1) u v1 := by
  have J : i_Rel (k + 5) u v := i_up I
  obtain ⟨nt, tm, R, n, q, w, t, P, C, K, M, xL, ul, wy, oR, oS, oE, oD, gR, gP, gS, gE, gK, gD, yL, yA, yB, yD, yE, yF, yG, ct, mk, pR, pS, pE, pD, sS, sB, sE, sD, sK, rfl, rfl, hI⟩ := I
  obtain ⟨-, -, -, -, -, -, -, hM, hK, hN⟩ := hI
  unfold wpX_nodeDepth
  refine lx_isNode hM (fun h => ?_) (fun j hj e => ?_)
  · refine br_t rfl ?_
    unfold wpY_nodeDepth
    refine br_c (fun _ => ⟨rfl, J⟩) (fun _ => br_c (fun _ => ⟨rfl, J⟩) (fun h1 => br_c (fun h2 => ?_) (fun _ => ⟨rfl, J⟩)))
    exact absurd h2 (h h1)
  · subst e
    refine br_f (by decide) ⟨vp_in_nI (by omega) (by omega), ?_⟩
    rw [nI_clamp (by omega), (hN j hj).2.2.2]
    unfold wpY_nodeDepth
    refine br_f (fun z => ?_) (br_f (nI_pos (by omega)) (br_t (nI_lt hj (by omega)) ⟨vp_in_nI (by omega) (by omega), ?_⟩))
    · have := hK z
      omega
    · rw [nI_clamp (by omega)]
      exact ⟨rfl, J⟩
end LCR6
