section LCR4
theorem i_vc_parse {k : Nat} {u : SX} {v : SY} (I : i_Rel k u v) (hk : k + 5 ≤ 2562) : wpX_parse (fun r u' => wpY_parse (fun r' v' => r' = r ∧ i_Rel (k + 5) u' v') v) u := by
  obtain ⟨nt, tm, R, n, q, w, t, P, C, K, M, xL, ul, wy, oR, oS, oE, oD, gR, gP, gS, gE, gK, gD, yL, yA, yB, yD, yE, yF, yG, ct, mk, pR, pS, pE, pD, sS, sB, sE, sD, sK, rfl, rfl, hI⟩ := I
  obtain ⟨h1, hG, h24, hn, ⟨rk0, hA0⟩, ht, hP, hM, hK, hN⟩ := hI
  obtain ⟨rk, hA, hkr⟩ := lc_A_low hA0 (fun r hr => (hG.2.2 r hr).1) (fun r hr => lc_G_8 hG hr 1 (by omega))
  refine lx_parse hG h24 h1 hn hA hkr ht (fun ul' wy' t' ht' hS' => ?_)
  refine ly_parse hG h24 hn hA hkr (fun ct' t'' ht'' hc'' hS'' => ?_)
  have huq := lc_uq hG hA hS'' hS'
  have hct := lc_cf_ct hG.1 hn hc''
  have hct' : lc_ct ct' nt n t' := fun x s e a b c => by rw [hct x s e a b c, huq x s e a b c]
  have er : lc_rt t'' n = lc_rt t' n := by
    unfold lc_rt
    by_cases z : n = 0
    · rw [if_pos z, if_pos z]
    · rw [if_neg z, if_neg z]
      exact huq 0 0 n (by omega) (by omega) (Nat.le_refl _)
  rw [er]
  exact ⟨rfl, lc_rel (M := 0) ⟨h1, hG, h24, hn, ⟨rk, hA⟩, ht', Or.inr ⟨rfl, rfl, hS', hct'⟩, by omega, fun _ => rfl, fun j hj => by omega⟩⟩
end LCR4
