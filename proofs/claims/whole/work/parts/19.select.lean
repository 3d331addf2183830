section LCR5
theorem i_vc_count {k : Nat} {u : SX} {v : SY} (I : i_Rel k u v) (hk : k + 5 ≤ 2562) : wpX_count (fun r => wpY_count (fun r' => r' = r ∧ i_Rel (k + 5) u v) v) u := by
  have J : i_Rel (k + 5) u v := i_up I
  obtain ⟨nt, tm, R, n, q, w, t, P, C, K, M, xL, ul, wy, oR, oS, oE, oD, gR, gP, gS, gE, gK, gD, yL, yA, yB, yD, yE, yF, yG, ct, mk, pR, pS, pE, pD, sS, sB, sE, sD, sK, rfl, rfl, hI⟩ := I
  unfold wpX_count
  exact br_c (fun h => br_t h ⟨rfl, J⟩) (fun h => br_f h ⟨rfl, J⟩)
theorem i_vc_selectTree {k : Nat} {u : SX} {v : SY} (I : i_Rel k u v) (hk : k + 5 ≤ 2562) (v1 : Int32) : wpX_selectTree (fun r u' => wpY_selectTree (fun r' v' => r' = r ∧ i_Rel (k + 5) u' v') v v1) u v1 := by
  have J : i_Rel (k + 5) u v := i_up I
  obtain ⟨nt, tm, R, n, q, w, t, P, C, K, M, xL, ul, wy, oR, oS, oE, oD, gR, gP, gS, gE, gK, gD, yL, yA, yB, yD, yE, yF, yG, ct, mk, pR, pS, pE, pD, sS, sB, sE, sD, sK, rfl, rfl, hI⟩ := I
  obtain ⟨h1, hG, h24, hn, ⟨rk0, hA0⟩, ht, hP, hM, hK, hN⟩ := hI
  rcases hP with rfl | ⟨rfl, rfl, hS, hct⟩
  · unfold wpX_selectTree
    exact br_t rfl (br_t rfl ⟨rfl, J⟩)
  · obtain ⟨rk, hA, hkr⟩ := lc_A_low hA0 (fun r hr => (hG.2.2 r hr).1) (fun r hr => lc_G_8 hG hr 1 (by omega))
    have hc := lc_rt_le (n := n) ht
    by_cases z : lc_rt t n < 1000000
    · by_cases h0 : v1 < 0
      · unfold wpX_selectTree
        refine br_f (by decide) (br_f (nI_ge (b := 1000000) z (by decide)) (br_t h0 ?_))
        unfold wpY_selectTree
        refine br_f (by decide) (br_f (fun y => ?_) (br_t h0 ⟨rfl, J⟩))
        have := (nI_eq (a := lc_rt t n) (b := 1000000) (by omega) (by decide)).mp y
        omega
      · obtain ⟨j, hj, rfl⟩ := nI_of h0
        by_cases hjc : j < lc_rt t n
        · refine lx_select hG h24 h1 hn ht hS hA hkr rfl z hjc (fun xL' wy' oR' oS' oE' oD' gR' gP' gS' gE' gK' gD' hnd hlen => ?_)
          refine ly_select hG h24 h1 hn ht hct hS hA hkr rfl z hjc (fun yL' yA' yB' yD' yE' yF' yG' pR' pS' pE' pD' sS' sB' sE' sD' sK' hnd' => ?_)
          refine ⟨rfl, lc_rel ⟨h1, hG, h24, hn, ⟨rk, hA⟩, ht, Or.inr ⟨rfl, rfl, hS, hct⟩, hlen, fun y => absurd y (lc_m1 hj), fun i hi => ?_⟩⟩
          have e := List.getElem?_eq_getElem hi
          have a := hnd i _ e
          have b := hnd' i _ e
          exact ⟨a.1.trans b.1.symm, a.2.1.trans b.2.1.symm, a.2.2.1.trans b.2.2.1.symm, a.2.2.2.trans b.2.2.2.symm⟩
        · have hge : ¬ nI j < nI (lc_rt t n) := nI_nlt (by omega) hj
          unfold wpX_selectTree
          refine br_f (by decide) (br_f (nI_ge (b := 1000000) z (by decide)) (br_f h0 (br_f hge ?_)))
          unfold wpY_selectTree
          refine br_f (by decide) (br_f (fun y => ?_) (br_f h0 (br_f hge ⟨rfl, J⟩)))
          have := (nI_eq (a := lc_rt t n) (b := 1000000) (by omega) (by decide)).mp y
          omega
    · have e : lc_rt t n = 1000000 := by omega
      unfold wpX_selectTree
      refine br_f (by decide) (br_t (by rw [e]; decide) ?_)
      unfold wpY_selectTree
      exact br_f (by decide) (br_t (by rw [e]; rfl) ⟨rfl, J⟩)
end LCR5
