section LYA
variable {q : Nat → Nat → Nat} {w : Nat → Int32} {t : Nat → Nat} {nt tm R n : Nat}
variable {yP yC yK yM yL yA yB yD : Int32} {yE yF yG : Int64} {ct sK : Nat → Int64} {mk pR pS pE pD sS sB sE sD : Nat → Int32}
theorem ly_v12 {post : Int32 → Prop} {x : Int32} (h8 : nt ≤ 8) (t8 : tm ≤ 8) (hN : ¬ lc_vN nt x) (ht : lc_vS nt tm x → post 1) (hf : ¬ lc_vS nt tm x → post 0) : wY_valid_12 post x (nI nt) (nI tm) (nI R) (nI n) yP yC yK yM yL yA yB yD yE yF yG (lc_ra q 0) (lc_ra q 1) (lc_ra q 2) (lc_ra q 3) w ct mk pR pS pE pD sS sB sE sD sK := by
  unfold wY_valid_12
  rw [lc_vS_iff h8 t8] at ht hf
  refine br_c (fun h => hf ?_) (fun h => br_c (fun h' => hf ?_) (fun h' => ht (Or.inr ⟨h, h'⟩)))
  · rintro (z | z)
    · exact hN z
    · exact z.1 h
  · rintro (z | z)
    · exact hN z
    · exact z.2 h'
theorem ly_valid {post : Int32 → Prop} {x : Int32} (h8 : nt ≤ 8) (t8 : tm ≤ 8) (ht : lc_vS nt tm x → post 1) (hf : ¬ lc_vS nt tm x → post 0) : wpY_valid post ((nI nt), (nI tm), (nI R), (nI n), yP, yC, yK, yM, yL, yA, yB, yD, yE, yF, yG, (lc_ra q 0), (lc_ra q 1), (lc_ra q 2), (lc_ra q 3), w, ct, mk, pR, pS, pE, pD, sS, sB, sE, sD, sK) x := by
  unfold wpY_valid
  refine br_c (fun h => ly_v12 h8 t8 ?_ ht hf) (fun h => br_c (fun h' => ht ?_) (fun h' => ly_v12 h8 t8 ?_ ht hf))
  · rw [lc_vN_iff h8]; exact fun z => z.1 h
  · rw [lc_vS_iff h8 t8, lc_vN_iff h8]
    exact Or.inl ⟨h, Int32.not_le.mpr h'⟩
  · rw [lc_vN_iff h8]; exact fun z => h' (Int32.not_le.mp z.2)
theorem ly_48 {post : Int32 → SY → Prop} {p0 p1 p2 p3 : Int32} (h8 : nt ≤ 8) (t8 : tm ≤ 8) (h0 : lc_vN nt p0) (h1 : lc_vS nt tm p1) (h2 : p2 = -1 ∨ lc_vS nt tm p2) (h3 : p3 = -1 ∨ lc_vS nt tm p3) (hf : ¬ lc_Fm nt tm p0 p1 p2 p3 → post (-2) ((nI nt), (nI tm), (nI R), (nI n), yP, yC, yK, yM, yL, yA, yB, yD, yE, yF, yG, (lc_ra q 0), (lc_ra q 1), (lc_ra q 2), (lc_ra q 3), w, ct, mk, pR, pS, pE, pD, sS, sB, sE, sD, sK)) (ht : lc_Fm nt tm p0 p1 p2 p3 → wY_addRule_62 post p0 p1 p2 p3 (nI nt) (nI tm) (nI R) (nI n) yP yC yK yM yL yA yB yD yE yF yG (lc_ra q 0) (lc_ra q 1) (lc_ra q 2) (lc_ra q 3) w ct mk pR pS pE pD sS sB sE sD sK) : wY_addRule_48 post p0 p1 p2 p3 (nI nt) (nI tm) (nI R) (nI n) yP yC yK yM yL yA yB yD yE yF yG (lc_ra q 0) (lc_ra q 1) (lc_ra q 2) (lc_ra q 3) w ct mk pR pS pE pD sS sB sE sD sK := by
  unfold wY_addRule_48
  rw [lc_Fm_iff h8 t8] at ht hf
  refine br_c (fun e2 => br_c (fun e3 => ht ⟨h0, h1, Or.inl ⟨e2, e3⟩⟩) (fun e3 => hf ?_)) (fun e2 => ht ⟨h0, h1, Or.inr ⟨?_, h3⟩⟩)
  · rintro ⟨-, -, z | z⟩
    · exact e3 z.2
    · exact lc_vS_m1 h8 t8 z.1 e2
  · rcases h2 with z | z
    · exact absurd z e2
    · exact z
theorem ly_33 {post : Int32 → SY → Prop} {p0 p1 p2 p3 : Int32} (h8 : nt ≤ 8) (t8 : tm ≤ 8) (h0 : lc_vN nt p0) (h1 : lc_vS nt tm p1) (h2 : p2 = -1 ∨ lc_vS nt tm p2) (hf : ¬ lc_Fm nt tm p0 p1 p2 p3 → post (-2) ((nI nt), (nI tm), (nI R), (nI n), yP, yC, yK, yM, yL, yA, yB, yD, yE, yF, yG, (lc_ra q 0), (lc_ra q 1), (lc_ra q 2), (lc_ra q 3), w, ct, mk, pR, pS, pE, pD, sS, sB, sE, sD, sK)) (ht : lc_Fm nt tm p0 p1 p2 p3 → wY_addRule_62 post p0 p1 p2 p3 (nI nt) (nI tm) (nI R) (nI n) yP yC yK yM yL yA yB yD yE yF yG (lc_ra q 0) (lc_ra q 1) (lc_ra q 2) (lc_ra q 3) w ct mk pR pS pE pD sS sB sE sD sK) : wY_addRule_33 post p0 p1 p2 p3 (nI nt) (nI tm) (nI R) (nI n) yP yC yK yM yL yA yB yD yE yF yG (lc_ra q 0) (lc_ra q 1) (lc_ra q 2) (lc_ra q 3) w ct mk pR pS pE pD sS sB sE sD sK := by
  unfold wY_addRule_33
  refine br_c (fun e3 => ly_48 h8 t8 h0 h1 h2 (Or.inl e3) hf ht) (fun e3 => ?_)
  refine ly_valid h8 t8 (fun h3 => ?_) (fun h3 => ?_)
  · exact br_f (by decide) (ly_48 h8 t8 h0 h1 h2 (Or.inr h3) hf ht)
  · refine br_t rfl (hf ?_)
    rw [lc_Fm_iff h8 t8]
    rintro ⟨-, -, z | z⟩
    · exact e3 z.2
    · rcases z.2 with z | z
      · exact e3 z
      · exact h3 z
theorem ly_form {post : Int32 → SY → Prop} {p0 p1 p2 p3 : Int32} (h8 : nt ≤ 8) (t8 : tm ≤ 8) (hf : ¬ lc_Fm nt tm p0 p1 p2 p3 → post (-2) ((nI nt), (nI tm), (nI R), (nI n), yP, yC, yK, yM, yL, yA, yB, yD, yE, yF, yG, (lc_ra q 0), (lc_ra q 1), (lc_ra q 2), (lc_ra q 3), w, ct, mk, pR, pS, pE, pD, sS, sB, sE, sD, sK)) (ht : lc_Fm nt tm p0 p1 p2 p3 → wY_addRule_62 post p0 p1 p2 p3 (nI nt) (nI tm) (nI R) (nI n) yP yC yK yM yL yA yB yD yE yF yG (lc_ra q 0) (lc_ra q 1) (lc_ra q 2) (lc_ra q 3) w ct mk pR pS pE pD sS sB sE sD sK) : wpY_addRule post ((nI nt), (nI tm), (nI R), (nI n), yP, yC, yK, yM, yL, yA, yB, yD, yE, yF, yG, (lc_ra q 0), (lc_ra q 1), (lc_ra q 2), (lc_ra q 3), w, ct, mk, pR, pS, pE, pD, sS, sB, sE, sD, sK) p0 p1 p2 p3 := by
  unfold wpY_addRule
  refine br_c (fun h => hf ?_) (fun h => br_c (fun h' => hf ?_) (fun h' => ?_))
  · rw [lc_Fm_iff h8 t8, lc_vN_iff h8]; exact fun z => z.1.1 h
  · rw [lc_Fm_iff h8 t8, lc_vN_iff h8]; exact fun z => z.1.2 h'
  · have h0 : lc_vN nt p0 := (lc_vN_iff h8).mpr ⟨h, h'⟩
    refine ly_valid h8 t8 (fun h1 => ?_) (fun h1 => ?_)
    · refine br_f (by decide) (br_c (fun e2 => ly_33 h8 t8 h0 h1 (Or.inl e2) hf ht) (fun e2 => ?_))
      refine ly_valid h8 t8 (fun h2 => ?_) (fun h2 => ?_)
      · exact br_f (by decide) (ly_33 h8 t8 h0 h1 (Or.inr h2) hf ht)
      · refine br_t rfl (hf ?_)
        rw [lc_Fm_iff h8 t8]
        rintro ⟨-, -, z | z⟩
        · exact e2 z.1
        · exact h2 z.1
    · refine br_t rfl (hf ?_)
      rw [lc_Fm_iff h8 t8]
      exact fun z => h1 z.2.1
/-! marks -/
def lc_b2 (b : Bool) : Int32 := if b = true then 1 else 0
def lc_mk (mk : Nat → Int32) (S : Nat → Bool) : Prop := ∀ i, i < 16 → mk i = lc_b2 (S i)
theorem lc_vb0 : vp_nar .boolean 0 = 0 := by decide
theorem lc_vb1 : vp_nar .boolean 1 = 1 := by decide
theorem lc_b2_0 {b : Bool} : lc_b2 b = 0 ↔ b = false := by cases b <;> decide
theorem lc_mk_u {mk : Nat → Int32} {S : Nat → Bool} {c : Nat} (h : lc_mk mk S) : lc_mk (upd mk c (vp_nar .boolean 1)) (fun i => S i || decide (i = c)) := by
  intro i hi
  rw [lc_vb1]
  unfold upd
  show (if i = c then 1 else mk i) = lc_b2 (S i || decide (i = c))
  by_cases z : i = c
  · rw [if_pos z, decide_eq_true z, Bool.or_true]; rfl
  · rw [if_neg z, decide_eq_false z, Bool.or_false]; exact h i hi
theorem lc_mk_1 {mk : Nat → Int32} {a : Nat} (h : ∀ i, i < 16 → mk i = 0) : lc_mk (upd mk a (vp_nar .boolean 1)) (fun i => decide (i = a)) := by
  intro i hi
  rw [lc_vb1]
  unfold upd
  show (if i = a then 1 else mk i) = lc_b2 (decide (i = a))
  by_cases z : i = a
  · rw [if_pos z, decide_eq_true z]; rfl
  · rw [if_neg z, decide_eq_false z]; exact h i hi
abbrev lc_JY : Type := Int32 → (Nat → Int32) → (Nat → Int32) → (Nat → Int32) → (Nat → Int32) → (Nat → Int32) → (Nat → Int64) → (Nat → Int32) → (Nat → Int32) → (Nat → Int32) → (Nat → Int32) → (Nat → Int32) → (Nat → Int32) → (Nat → Int32) → (Nat → Int32) → (Nat → Int32) → (Nat → Int64) → Prop
theorem ly_139 {post : Int32 → SY → Prop} {J129 : lc_JY} {x1 x2 x3 x4 : Int32} {k : Nat} {S : Nat → Bool} (hG : lc_G nt tm R q) (h24 : R ≤ 24) (hJ : ∀ mk', lc_mk mk' (lc_ps true q R S) → J129 (nI (k + 1)) (lc_ra q 0) (lc_ra q 1) (lc_ra q 2) (lc_ra q 3) w ct mk' pR pS pE pD sS sB sE sD sK) :
    ∀ d i mk, i + d = R → lc_mk mk (lc_ps true q i S) → wY_addRule_139 post J129 x1 x2 x3 x4 (nI k) (nI nt) (nI tm) (nI R) (nI n) yP yC yK yM yL yA yB yD yE yF yG (d + 1) (nI i) (lc_ra q 0) (lc_ra q 1) (lc_ra q 2) (lc_ra q 3) w ct mk pR pS pE pD sS sB sE sD sK := by
  intro d
  induction d with
  | zero =>
    intro i mk hi hm
    obtain rfl : i = R := by omega
    exact br_t (nI_le (Nat.le_refl _) (by omega)) (nm_r (nI_1 k) (hJ mk hm))
  | succ d ih =>
    intro i mk hi hm
    have hr : i < R := by omega
    have h0 := (hG.2.2 i hr).1
    have h8 := hG.1
    have h1 := lc_G_r hG hr 1 (by omega)
    have h2 := lc_G_r hG hr 2 (by omega)
    have h16 := (lc_G_16 hG hr).1
    have hv : vp_in (nI i) 24 := vp_in_nI (by omega) (by omega)
    have hY : lc_ps true q i S (q i 0) = true → lc_ca true q i → wY_addRule_139 post J129 x1 x2 x3 x4 (nI k) (nI nt) (nI tm) (nI R) (nI n) yP yC yK yM yL yA yB yD yE yF yG (d + 1) (nI (i + 1)) (lc_ra q 0) (lc_ra q 1) (lc_ra q 2) (lc_ra q 3) w ct (upd mk (q i 1) (vp_nar .boolean 1)) pR pS pE pD sS sB sE sD sK := by
      intro hb hc
      refine ih (i + 1) _ (by omega) ?_
      show lc_mk _ (lc_st true q i (lc_ps true q i S))
      rw [lc_st_t hb hc]
      exact lc_mk_u hm
    have hN : ¬ (lc_ps true q i S (q i 0) = true ∧ lc_ca true q i) → wY_addRule_139 post J129 x1 x2 x3 x4 (nI k) (nI nt) (nI tm) (nI R) (nI n) yP yC yK yM yL yA yB yD yE yF yG (d + 1) (nI (i + 1)) (lc_ra q 0) (lc_ra q 1) (lc_ra q 2) (lc_ra q 3) w ct mk pR pS pE pD sS sB sE sD sK := by
      intro hc
      refine ih (i + 1) mk (by omega) ?_
      show lc_mk mk (lc_st true q i (lc_ps true q i S))
      rw [lc_st_f hc]
      exact hm
    rw [wY_addRule_139]
    refine br_f (nI_ge hr (by omega)) ⟨hv, ?_⟩
    rw [nI_clamp (by omega)]
    refine lc_if (c := lc_ra q 2 i = -1) (lc_cd_e h2) (fun z2 => ⟨hv, ?_⟩) (fun z2 => ?_)
    · have e1 : lc_ra q 1 i = nI (q i 1) := lc_cd_n h16
      have e0 : lc_ra q 0 i = nI (q i 0) := lc_cd_n (by omega)
      rw [e1, e0]
      refine br_f (nI_pos (by omega)) ⟨hv, ?_⟩
      refine pk_le 8 (q i 1) (fun z1 => ?_) (fun z1 => ⟨hv, vp_in_nI (by omega) (by omega), ?_⟩)
      · exact nm_r (nI_1 i) (hN (fun y => by have := (y.2 rfl).1; omega))
      · rw [nI_clamp (by omega), nI_clamp (by omega), hm _ (by omega)]
        refine lc_if lc_b2_0 (fun z => ?_) (fun z => ⟨hv, vp_in_nI (by omega) (by omega), ?_⟩)
        · exact nm_r (nI_1 i) (hN (fun y => by rw [z] at y; exact absurd y.1 (by decide)))
        · exact nm_e (nm_r (nI_1 i) (hY (by simpa using z) (fun _ => ⟨z1, z2⟩)))
    · exact nm_r (nI_1 i) (hN (fun y => z2 (y.2 rfl).2))
theorem ly_233 {post : Int32 → SY → Prop} {l a b c : Nat} (h24 : R < 24) (e0 : lc_cd l = nI l) (e1 : lc_cd a = nI a) (hp : post (nI R) ((nI nt), (nI tm), (nI (R + 1)), (nI n), 0, yC, (-1), 0, yL, yA, yB, yD, yE, yF, yG, (lc_ra (lc_add q R l a b c) 0), (lc_ra (lc_add q R l a b c) 1), (lc_ra (lc_add q R l a b c) 2), (lc_ra (lc_add q R l a b c) 3), w, ct, mk, pR, pS, pE, pD, sS, sB, sE, sD, sK)) : wY_addRule_233 post (nI l) (nI a) (lc_cd b) (lc_cd c) (nI nt) (nI tm) (nI R) (nI n) yP yC yK yM yL yA yB yD yE yF yG (lc_ra q 0) (lc_ra q 1) (lc_ra q 2) (lc_ra q 3) w ct mk pR pS pE pD sS sB sE sD sK := by
  unfold wY_addRule_233
  have hv : vp_in (nI R) 24 := vp_in_nI h24 (by omega)
  have hc : (nI R).toNatClampNeg = R := nI_clamp (by omega)
  have E : ∀ p v, lc_cd (lc_add q R l a b c R p) = v → upd (lc_ra q p) R v = lc_ra (lc_add q R l a b c) p := by
    intro p v hv
    funext j
    unfold upd
    by_cases z : j = R
    · rw [if_pos z, z]; exact hv.symm
    · rw [if_neg z]
      show lc_cd (q j p) = lc_cd (lc_add q R l a b c j p)
      unfold lc_add
      rw [if_neg z]
  refine ⟨hv, nm_r (e' := lc_ra (lc_add q R l a b c) 0) (by rw [hc]; exact E 0 _ (by rw [lc_add_0]; exact e0)) ⟨hv, nm_r (e' := lc_ra (lc_add q R l a b c) 1) (by rw [hc]; exact E 1 _ (by rw [lc_add_1]; exact e1)) ⟨hv, nm_r (e' := lc_ra (lc_add q R l a b c) 2) (by rw [hc]; exact E 2 _ (by rw [lc_add_2])) ⟨hv, nm_r (e' := lc_ra (lc_add q R l a b c) 3) (by rw [hc]; exact E 3 _ (by rw [lc_add_3])) (nm_r (nI_1 R) ?_)⟩⟩⟩⟩
  rw [← nI_pred R] at hp
  exact hp
theorem ly_129 {post : Int32 → SY → Prop} {l a b c : Nat} {S : Nat → Bool} (hG : lc_G nt tm R q) (h24 : R ≤ 24) (hl : l < nt)
    (h4 : lc_it true q R 9 S l = true → ∀ mk', post (-4) ((nI nt), (nI tm), (nI R), (nI n), yP, yC, yK, yM, yL, yA, yB, yD, yE, yF, yG, (lc_ra q 0), (lc_ra q 1), (lc_ra q 2), (lc_ra q 3), w, ct, mk', pR, pS, pE, pD, sS, sB, sE, sD, sK))
    (h0 : lc_it true q R 9 S l = false → ∀ mk', wY_addRule_233 post (nI l) (nI a) (lc_cd b) (lc_cd c) (nI nt) (nI tm) (nI R) (nI n) yP yC yK yM yL yA yB yD yE yF yG (lc_ra q 0) (lc_ra q 1) (lc_ra q 2) (lc_ra q 3) w ct mk' pR pS pE pD sS sB sE sD sK) :
    ∀ d k mk, k + d = 9 → lc_mk mk (lc_it true q R k S) → wY_addRule_129 post (nI l) (nI a) (lc_cd b) (lc_cd c) (nI nt) (nI tm) (nI R) (nI n) yP yC yK yM yL yA yB yD yE yF yG (d + 1) (nI k) (lc_ra q 0) (lc_ra q 1) (lc_ra q 2) (lc_ra q 3) w ct mk pR pS pE pD sS sB sE sD sK := by
  intro d
  induction d with
  | zero =>
    intro k mk hk hm
    have h8 := hG.1
    obtain rfl : k = 9 := by omega
    refine br_t (by decide) ⟨vp_in_nI (by omega) (by omega), ?_⟩
    rw [nI_clamp (by omega), hm l (by omega)]
    refine lc_if lc_b2_0 (fun z => h0 z mk) (fun z => h4 (by simpa using z) mk)
  | succ d ih =>
    intro k mk hk hm
    rw [wY_addRule_129]
    refine br_f (nI_ge (b := 9) (by omega) (by decide)) ⟨R + 1, ?_⟩
    exact ly_139 (S := lc_it true q R k S) hG h24 (fun mk' hm' => ih (k + 1) mk' (by omega) hm') R 0 mk (by omega) hm
theorem ly_98 {post : Int32 → SY → Prop} {l a b c : Nat} (hG : lc_G nt tm R q) (h24 : R ≤ 24) (hl : l < nt) (ha : a < 16)
    (h4 : lc_it true q R 9 (fun i => decide (i = a)) l = true → ∀ mk', post (-4) ((nI nt), (nI tm), (nI R), (nI n), yP, yC, yK, yM, yL, yA, yB, yD, yE, yF, yG, (lc_ra q 0), (lc_ra q 1), (lc_ra q 2), (lc_ra q 3), w, ct, mk', pR, pS, pE, pD, sS, sB, sE, sD, sK))
    (h0 : lc_it true q R 9 (fun i => decide (i = a)) l = false → ∀ mk', wY_addRule_233 post (nI l) (nI a) (lc_cd b) (lc_cd c) (nI nt) (nI tm) (nI R) (nI n) yP yC yK yM yL yA yB yD yE yF yG (lc_ra q 0) (lc_ra q 1) (lc_ra q 2) (lc_ra q 3) w ct mk' pR pS pE pD sS sB sE sD sK) :
    ∀ d k mk, k + d = 16 → (∀ i, i < k → mk i = 0) → wY_addRule_98 post (nI l) (nI a) (lc_cd b) (lc_cd c) (nI nt) (nI tm) (nI R) (nI n) yP yC yK yM yL yA yB yD yE yF yG (d + 1) (nI k) (lc_ra q 0) (lc_ra q 1) (lc_ra q 2) (lc_ra q 3) w ct mk pR pS pE pD sS sB sE sD sK := by
  intro d
  induction d with
  | zero =>
    intro k mk hk hm
    obtain rfl : k = 16 := by omega
    refine br_t (by decide) ⟨vp_in_nI ha (by omega), ?_⟩
    rw [nI_clamp (by omega)]
    exact nm_e ⟨10, ly_129 hG h24 hl h4 h0 9 0 _ (by omega) (lc_mk_1 hm)⟩
  | succ d ih =>
    intro k mk hk hm
    rw [wY_addRule_98]
    refine br_f (nI_ge (b := 16) (by omega) (by decide)) ⟨vp_in_nI (by omega) (by omega), nm_e (nm_r (nI_1 k) (ih (k + 1) _ (by omega) ?_))⟩
    intro i hi
    rw [nI_clamp (by omega), lc_vb0]
    by_cases z : i = k
    · subst z; exact pk_us
    · rw [pk_un z]; exact hm i (by omega)
theorem ly_addRule {post : Int32 → SY → Prop} {p0 p1 p2 p3 : Int32} (hG : lc_G nt tm R q) (h24 : R ≤ 24)
    (h2 : ¬ lc_Fm nt tm p0 p1 p2 p3 → post (-2) ((nI nt), (nI tm), (nI R), (nI n), yP, yC, yK, yM, yL, yA, yB, yD, yE, yF, yG, (lc_ra q 0), (lc_ra q 1), (lc_ra q 2), (lc_ra q 3), w, ct, mk, pR, pS, pE, pD, sS, sB, sE, sD, sK))
    (h3 : lc_Fm nt tm p0 p1 p2 p3 → R = 24 → post (-3) ((nI nt), (nI tm), (nI R), (nI n), yP, yC, yK, yM, yL, yA, yB, yD, yE, yF, yG, (lc_ra q 0), (lc_ra q 1), (lc_ra q 2), (lc_ra q 3), w, ct, mk, pR, pS, pE, pD, sS, sB, sE, sD, sK))
    (h4 : ∀ l a, lc_fm nt tm l a 16 16 → p0 = nI l → p1 = nI a → p2 = -1 → p3 = -1 → R < 24 → a < nt → lc_co true q R nt a l = true → ∀ mk', post (-4) ((nI nt), (nI tm), (nI R), (nI n), yP, yC, yK, yM, yL, yA, yB, yD, yE, yF, yG, (lc_ra q 0), (lc_ra q 1), (lc_ra q 2), (lc_ra q 3), w, ct, mk', pR, pS, pE, pD, sS, sB, sE, sD, sK))
    (h0 : ∀ l a b c, lc_fm nt tm l a b c → p0 = nI l → p1 = nI a → p2 = lc_cd b → p3 = lc_cd c → R < 24 → (b = 16 → a < nt → lc_co true q R nt a l = false) → ∀ mk', post (nI R) ((nI nt), (nI tm), (nI (R + 1)), (nI n), 0, yC, (-1), 0, yL, yA, yB, yD, yE, yF, yG, (lc_ra (lc_add q R l a b c) 0), (lc_ra (lc_add q R l a b c) 1), (lc_ra (lc_add q R l a b c) 2), (lc_ra (lc_add q R l a b c) 3), w, ct, mk', pR, pS, pE, pD, sS, sB, sE, sD, sK)) :
    wpY_addRule post ((nI nt), (nI tm), (nI R), (nI n), yP, yC, yK, yM, yL, yA, yB, yD, yE, yF, yG, (lc_ra q 0), (lc_ra q 1), (lc_ra q 2), (lc_ra q 3), w, ct, mk, pR, pS, pE, pD, sS, sB, sE, sD, sK) p0 p1 p2 p3 := by
  have h8 := hG.1
  have t8 := hG.2.1
  refine ly_form h8 t8 h2 (fun hF => ?_)
  have hF' := hF
  obtain ⟨l, a, b, c, hf, rfl, rfl, rfl, rfl⟩ := hF
  have hf' := hf
  obtain ⟨f1, f2, f3⟩ := hf'
  have ha16 := lc_va_16 h8 t8 f2
  have e0 : lc_cd l = nI l := lc_cd_n (by omega)
  have e1 := lc_cd_va h8 t8 f2
  have hb16 : b ≤ 16 := by
    rcases f3 with ⟨rfl, -⟩ | ⟨z, -⟩
    · omega
    · have := lc_va_16 h8 t8 z; omega
  unfold wY_addRule_62
  refine pk_lt R 24 (fun hR => ?_) (fun hR => h3 hF' (by omega))
  refine lc_if (lc_cd_e hb16) (fun e => ?_) (fun e => ?_)
  · subst e
    obtain rfl : c = 16 := by
      rcases f3 with ⟨-, z⟩ | ⟨z, -⟩
      · exact z
      · have := lc_va_16 h8 t8 z; omega
    refine pk_le nt a (fun z => ?_) (fun z => ?_)
    · exact ly_233 hR e0 e1 (h0 l a 16 16 hf rfl rfl rfl rfl hR (fun _ y => absurd y (by omega)) mk)
    · have e9 : lc_it true q R 9 (fun i => decide (i = a)) = lc_co true q R nt a := lc_it_9 z h8 (by simp) (fun r hr => (hG.2.2 r hr).1)
      refine pk_eq a l (fun y => ?_) (fun y => ?_)
      · refine h4 l a hf rfl rfl lc_cd_16 lc_cd_16 hR z ?_ mk
        subst y
        exact lc_it_sub (by simp) nt
      · refine ⟨17, ly_98 hG h24 f1 ha16 ?_ ?_ 16 0 mk (by omega) (fun i hi => by omega)⟩
        · rw [e9]
          exact fun x => h4 l a hf rfl rfl lc_cd_16 lc_cd_16 hR z x
        · rw [e9]
          exact fun x mk' => ly_233 hR e0 e1 (h0 l a 16 16 hf rfl rfl rfl rfl hR (fun _ _ => x) mk')
  · exact ly_233 hR e0 e1 (h0 l a b c hf rfl rfl rfl rfl hR (fun z => absurd z e) mk)
theorem ly_61 {post : Int32 → SY → Prop} {J52 : lc_JY} {x2 : Int32} {k : Nat} {S : Nat → Bool} (hG : lc_G nt tm R q) (h24 : R ≤ 24) (hJ : ∀ mk', lc_mk mk' (lc_ps false q R S) → J52 (nI (k + 1)) (lc_ra q 0) (lc_ra q 1) (lc_ra q 2) (lc_ra q 3) w ct mk' pR pS pE pD sS sB sE sD sK) :
    ∀ d i mk, i + d = R → lc_mk mk (lc_ps false q i S) → wY_isLeftCorner_61 post J52 x2 (nI k) (nI nt) (nI tm) (nI R) (nI n) yP yC yK yM yL yA yB yD yE yF yG (d + 1) (nI i) (lc_ra q 0) (lc_ra q 1) (lc_ra q 2) (lc_ra q 3) w ct mk pR pS pE pD sS sB sE sD sK := by
  intro d
  induction d with
  | zero =>
    intro i mk hi hm
    obtain rfl : i = R := by omega
    exact br_t (nI_le (Nat.le_refl _) (by omega)) (nm_r (nI_1 k) (hJ mk hm))
  | succ d ih =>
    intro i mk hi hm
    have hr : i < R := by omega
    have h0 := (hG.2.2 i hr).1
    have h8 := hG.1
    have h1 := lc_G_r hG hr 1 (by omega)
    have h16 := (lc_G_16 hG hr).1
    have hv : vp_in (nI i) 24 := vp_in_nI (by omega) (by omega)
    have hca : lc_ca false q i := fun z => by cases z
    rw [wY_isLeftCorner_61]
    refine br_f (nI_ge hr (by omega)) ⟨hv, ?_⟩
    have e1 : lc_ra q 1 i = nI (q i 1) := lc_cd_n h16
    have e0 : lc_ra q 0 i = nI (q i 0) := lc_cd_n (by omega)
    rw [nI_clamp (by omega), e1, e0, nI_clamp (by omega), nI_clamp (by omega), hm _ (by omega)]
    refine ⟨vp_in_nI (by omega) (by omega), ?_⟩
    refine lc_if lc_b2_0 (fun z => ?_) (fun z => ⟨hv, ?_⟩)
    · refine nm_r (nI_1 i) (ih (i + 1) mk (by omega) ?_)
      show lc_mk mk (lc_st false q i (lc_ps false q i S))
      rw [lc_st_f (fun y => by rw [z] at y; exact absurd y.1 (by decide))]
      exact hm
    · refine br_f (nI_pos (by omega)) ⟨hv, br_f (nI_ge (b := 16) (by omega) (by decide)) ⟨hv, vp_in_nI (by omega) (by omega), nm_e (nm_r (nI_1 i) (ih (i + 1) _ (by omega) ?_))⟩⟩
      show lc_mk _ (lc_st false q i (lc_ps false q i S))
      rw [lc_st_t (by simpa using z) hca]
      exact lc_mk_u hm
theorem lc_b2_n (b : Bool) : narrow .boolean (.int (lc_b2 b)) = .int (lc_b2 b) := by cases b <;> rfl
theorem ly_52 {post : Int32 → SY → Prop} {b : Nat} {S : Nat → Bool} (hG : lc_G nt tm R q) (h24 : R ≤ 24) (hb : b < 16)
    (h0 : ∀ mk', post (lc_b2 (lc_it false q R 9 S b)) ((nI nt), (nI tm), (nI R), (nI n), yP, yC, yK, yM, yL, yA, yB, yD, yE, yF, yG, (lc_ra q 0), (lc_ra q 1), (lc_ra q 2), (lc_ra q 3), w, ct, mk', pR, pS, pE, pD, sS, sB, sE, sD, sK)) :
    ∀ d k mk, k + d = 9 → lc_mk mk (lc_it false q R k S) → wY_isLeftCorner_52 post (nI b) (nI nt) (nI tm) (nI R) (nI n) yP yC yK yM yL yA yB yD yE yF yG (d + 1) (nI k) (lc_ra q 0) (lc_ra q 1) (lc_ra q 2) (lc_ra q 3) w ct mk pR pS pE pD sS sB sE sD sK := by
  intro d
  induction d with
  | zero =>
    intro k mk hk hm
    obtain rfl : k = 9 := by omega
    refine br_t (by decide) ⟨vp_in_nI hb (by omega), ?_⟩
    rw [nI_clamp (by omega), hm b hb]
    exact ⟨lc_b2_n _, h0 mk⟩
  | succ d ih =>
    intro k mk hk hm
    rw [wY_isLeftCorner_52]
    refine br_f (nI_ge (b := 9) (by omega) (by decide)) ⟨R + 1, ?_⟩
    exact ly_61 (S := lc_it false q R k S) hG h24 (fun mk' hm' => ih (k + 1) mk' (by omega) hm') R 0 mk (by omega) hm
theorem ly_24 {post : Int32 → SY → Prop} {a b : Nat} (hG : lc_G nt tm R q) (h24 : R ≤ 24) (hb : b < 16) (ha : a < 16)
    (h0 : ∀ mk', post (lc_b2 (lc_it false q R 9 (fun i => decide (i = a)) b)) ((nI nt), (nI tm), (nI R), (nI n), yP, yC, yK, yM, yL, yA, yB, yD, yE, yF, yG, (lc_ra q 0), (lc_ra q 1), (lc_ra q 2), (lc_ra q 3), w, ct, mk', pR, pS, pE, pD, sS, sB, sE, sD, sK)) :
    ∀ d k mk, k + d = 16 → (∀ i, i < k → mk i = 0) → wY_isLeftCorner_24 post (nI a) (nI b) (nI nt) (nI tm) (nI R) (nI n) yP yC yK yM yL yA yB yD yE yF yG (d + 1) (nI k) (lc_ra q 0) (lc_ra q 1) (lc_ra q 2) (lc_ra q 3) w ct mk pR pS pE pD sS sB sE sD sK := by
  intro d
  induction d with
  | zero =>
    intro k mk hk hm
    obtain rfl : k = 16 := by omega
    refine br_t (by decide) ⟨vp_in_nI ha (by omega), ?_⟩
    rw [nI_clamp (by omega)]
    exact nm_e ⟨10, ly_52 hG h24 hb h0 9 0 _ (by omega) (lc_mk_1 hm)⟩
  | succ d ih =>
    intro k mk hk hm
    rw [wY_isLeftCorner_24]
    refine br_f (nI_ge (b := 16) (by omega) (by decide)) ⟨vp_in_nI (by omega) (by omega), nm_e (nm_r (nI_1 k) (ih (k + 1) _ (by omega) ?_))⟩
    intro i hi
    rw [nI_clamp (by omega), lc_vb0]
    by_cases z : i = k
    · subst z; exact pk_us
    · rw [pk_un z]; exact hm i (by omega)
theorem ly_isLC {post : Int32 → SY → Prop} {p0 p1 : Int32} (hG : lc_G nt tm R q) (h24 : R ≤ 24)
    (h0 : ¬ (lc_vN nt p0 ∧ lc_vS nt tm p1) → post 0 ((nI nt), (nI tm), (nI R), (nI n), yP, yC, yK, yM, yL, yA, yB, yD, yE, yF, yG, (lc_ra q 0), (lc_ra q 1), (lc_ra q 2), (lc_ra q 3), w, ct, mk, pR, pS, pE, pD, sS, sB, sE, sD, sK))
    (h1 : ∀ a b, a < nt → lc_va nt tm b → p0 = nI a → p1 = nI b → ∀ mk', post (if lc_co false q R nt a b = true then 1 else 0) ((nI nt), (nI tm), (nI R), (nI n), yP, yC, yK, yM, yL, yA, yB, yD, yE, yF, yG, (lc_ra q 0), (lc_ra q 1), (lc_ra q 2), (lc_ra q 3), w, ct, mk', pR, pS, pE, pD, sS, sB, sE, sD, sK)) :
    wpY_isLeftCorner post ((nI nt), (nI tm), (nI R), (nI n), yP, yC, yK, yM, yL, yA, yB, yD, yE, yF, yG, (lc_ra q 0), (lc_ra q 1), (lc_ra q 2), (lc_ra q 3), w, ct, mk, pR, pS, pE, pD, sS, sB, sE, sD, sK) p0 p1 := by
  have h8 := hG.1
  have t8 := hG.2.1
  unfold wpY_isLeftCorner
  refine br_c (fun h => h0 ?_) (fun h => br_c (fun h' => h0 ?_) (fun h' => ?_))
  · rw [lc_vN_iff h8]; exact fun z => z.1.1 h
  · rw [lc_vN_iff h8]; exact fun z => z.1.2 h'
  · have hN : lc_vN nt p0 := (lc_vN_iff h8).mpr ⟨h, h'⟩
    refine ly_valid h8 t8 (fun hS => ?_) (fun hS => br_t rfl (h0 (fun z => hS z.2)))
    refine br_f (by decide) ?_
    obtain ⟨a, ha, rfl⟩ := hN
    obtain ⟨b, hb, rfl⟩ := hS
    have hb16 := lc_va_16 h8 t8 hb
    have H := h1 a b ha hb rfl rfl
    have e9 : lc_it false q R 9 (fun i => decide (i = a)) = lc_co false q R nt a := lc_it_9 ha h8 (by simp) (fun r hr => (hG.2.2 r hr).1)
    refine ⟨17, ly_24 hG h24 hb16 (by omega) ?_ 16 0 mk (by omega) (fun i hi => by omega)⟩
    rw [e9]
    exact H
end LYA
