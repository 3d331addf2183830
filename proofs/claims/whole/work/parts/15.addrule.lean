section LCR1
theorem lc_fm_Fm {nt tm l a b c : Nat} {p0 p1 p2 p3 : Int32} (h : lc_fm nt tm l a b c) (e0 : p0 = nI l) (e1 : p1 = nI a) (e2 : p2 = lc_cd b) (e3 : p3 = lc_cd c) : lc_Fm nt tm p0 p1 p2 p3 := ⟨l, a, b, c, h, e0, e1, e2, e3⟩
theorem lc_cd_i {b c : Nat} (hb : b ≤ 16) (hc : c ≤ 16) (h : lc_cd b = lc_cd c) : b = c := by
  by_cases z : c = 16
  · subst z
    rw [lc_cd_16] at h
    exact (lc_cd_e hb).mp h
  · by_cases y : b = 16
    · subst y
      rw [lc_cd_16] at h
      exact ((lc_cd_e hc).mp h.symm).symm
    · rw [lc_cd_n z, lc_cd_n y] at h
      exact (nI_eq (by omega) (by omega)).mp h
theorem lc_fm_16 {nt tm l a b c : Nat} (h8 : nt ≤ 8) (t8 : tm ≤ 8) (h : lc_fm nt tm l a b c) : l < 8 ∧ a < 16 ∧ b ≤ 16 ∧ c ≤ 16 := by
  unfold lc_fm lc_va at h; omega
theorem lc_G_add {nt tm R l a b c : Nat} {q : Nat → Nat → Nat} (hG : lc_G nt tm R q) (h : lc_fm nt tm l a b c) : lc_G nt tm (R + 1) (lc_add q R l a b c) := by
  refine ⟨hG.1, hG.2.1, fun r hr => ?_⟩
  unfold lc_gr
  by_cases z : r = R
  · subst z
    rw [lc_add_0, lc_add_1, lc_add_2, lc_add_3]
    exact h
  · have hr' : r < R := by omega
    rw [lc_add_lo hr', lc_add_lo hr', lc_add_lo hr', lc_add_lo hr']
    exact hG.2.2 r hr'
theorem i_vc_addRule {k : Nat} {u : SX} {v : SY} (I : i_Rel k u v) (hk : k + 5 ≤ 2562) (v1 : Int32) (v2 : Int32) (v3 : Int32) (v4 : Int32) : wpX_addRule (fun r u' => wpY_addRule (fun r' v' => r' = r ∧ i_Rel (k + 5) u' v') v v1 v2 v3 v4) u v1 v2 v3 v4 := by
  obtain ⟨nt, tm, R, n, q, w, t, P, C, K, M, xL, ul, wy, oR, oS, oE, oD, gR, gP, gS, gE, gK, gD, yL, yA, yB, yD, yE, yF, yG, ct, mk, pR, pS, pE, pD, sS, sB, sE, sD, sK, rfl, rfl, hI⟩ := I
  have hI' := hI
  obtain ⟨h1, hG, h24, hn, ⟨rk, hA⟩, ht, hP, hM, hK, hN⟩ := hI'
  have h8 := hG.1
  have t8 := hG.2.1
  refine lx_addRule hG h24 (fun hF => ?_) (fun hF hR => ?_) (fun l a hf e0 e1 e2 e3 hR ha hc => ?_) (fun l a b c hf e0 e1 e2 e3 hR hc => ?_)
  · refine ly_addRule hG h24 (fun _ => ⟨rfl, lc_rel hI⟩) (fun z => absurd z hF) (fun l a hf e0 e1 e2 e3 => ?_) (fun l a b c hf e0 e1 e2 e3 => absurd (lc_fm_Fm hf e0 e1 e2 e3) hF)
    exact absurd (lc_fm_Fm hf e0 e1 (e2.trans lc_cd_16.symm) (e3.trans lc_cd_16.symm)) hF
  · refine ly_addRule hG h24 (fun z => absurd hF z) (fun _ _ => ⟨rfl, lc_rel hI⟩) (fun l a hf e0 e1 e2 e3 hR' => ?_) (fun l a b c hf e0 e1 e2 e3 hR' => ?_)
    · omega
    · omega
  · have hF := lc_fm_Fm hf e0 e1 (e2.trans lc_cd_16.symm) (e3.trans lc_cd_16.symm)
    refine ly_addRule hG h24 (fun z => absurd hF z) (fun _ hR' => ?_) (fun l' a' hf' e0' e1' e2' e3' hR' ha' hc' mk' => ⟨rfl, lc_rel hI⟩) (fun l' a' b' c' hf' e0' e1' e2' e3' hR' hc' mk' => ?_)
    · omega
    · exfalso
      obtain ⟨q1, q2, q3, q4⟩ := lc_fm_16 h8 t8 hf
      obtain ⟨q1', q2', q3', q4'⟩ := lc_fm_16 h8 t8 hf'
      have hb : b' = 16 := (lc_cd_e q3').mp (e2'.symm.trans e2)
      have hl : l' = l := (nI_eq (by omega) (by omega)).mp (e0'.symm.trans e0)
      have ha2 : a' = a := (nI_eq (by omega) (by omega)).mp (e1'.symm.trans e1)
      subst hl ha2
      have := hc' hb ha
      rw [hc] at this
      exact absurd this (by decide)
  · have hF := lc_fm_Fm hf e0 e1 e2 e3
    obtain ⟨q1, q2, q3, q4⟩ := lc_fm_16 h8 t8 hf
    refine ly_addRule hG h24 (fun z => absurd hF z) (fun _ hR' => ?_) (fun l' a' hf' e0' e1' e2' e3' hR' ha' hc' mk' => ?_) (fun l' a' b' c' hf' e0' e1' e2' e3' hR' hc' mk' => ?_)
    · omega
    · exfalso
      obtain ⟨q1', q2', q3', q4'⟩ := lc_fm_16 h8 t8 hf'
      have hb : b = 16 := (lc_cd_e q3).mp (e2.symm.trans e2')
      have hl : l' = l := (nI_eq (by omega) (by omega)).mp (e0'.symm.trans e0)
      have ha2 : a' = a := (nI_eq (by omega) (by omega)).mp (e1'.symm.trans e1)
      subst hl ha2
      have := hc hb ha'
      rw [hc'] at this
      exact absurd this (by decide)
    · obtain ⟨q1', q2', q3', q4'⟩ := lc_fm_16 h8 t8 hf'
      have hl : l' = l := (nI_eq (by omega) (by omega)).mp (e0'.symm.trans e0)
      have ha2 : a' = a := (nI_eq (by omega) (by omega)).mp (e1'.symm.trans e1)
      have hb2 : b' = b := lc_cd_i q3' q3 (e2'.symm.trans e2)
      have hc2 : c' = c := lc_cd_i q4' q4 (e3'.symm.trans e3)
      subst hl ha2 hb2 hc2
      refine ⟨rfl, lc_rel (M := 0) ⟨h1, lc_G_add hG hf, by omega, hn, ?_, ht, Or.inl rfl, by omega, fun _ => rfl, fun j hj => by omega⟩⟩
      refine lc_A_add hA (fun ha hb => ?_)
      have han : a' < nt := by
        rcases hf.2.1 with z | z
        · exact z
        · omega
      exact ⟨lc_co true q R nt a', lc_it_cl han (by simp) (fun r hr => (hG.2.2 r hr).1), lc_it_sub (by simp) nt, hc hb han⟩
end LCR1
