section LCR0
/-- what holds of both objects between calls -/
def lc_I (nt tm R n : Nat) (q : Nat → Nat → Nat) (w : Nat → Int32) (t : Nat → Nat) (ct : Nat → Int64) (P C K : Int32) (M : Nat) (oR oS oE oD pR pS pE pD : Nat → Int32) : Prop :=
  1 ≤ nt ∧ lc_G nt tm R q ∧ R ≤ 24 ∧ n ≤ 12 ∧ (∃ rk, lc_A R q rk) ∧ (∀ j, t j ≤ 1000000) ∧ (P = 0 ∨ (P = 1 ∧ C = nI (lc_rt t n) ∧ lc_sat q w R nt n t ∧ lc_ct ct nt n t)) ∧ M ≤ 196 ∧ (K = -1 → M = 0) ∧ ∀ j, j < M → oR j = pR j ∧ oS j = pS j ∧ oE j = pE j ∧ oD j = pD j
def i_Rel (_ : Nat) (u : SX) (v : SY) : Prop :=
  ∃ (nt tm R n : Nat) (q : Nat → Nat → Nat) (w : Nat → Int32) (t : Nat → Nat) (P C K : Int32) (M : Nat) (xL : Int32) (ul wy oR oS oE oD gR gP gS gE gK gD : Nat → Int32) (yL yA yB yD : Int32) (yE yF yG : Int64) (ct : Nat → Int64) (mk pR pS pE pD sS sB sE sD : Nat → Int32) (sK : Nat → Int64),
    u = ((nI nt), (nI tm), (nI R), (nI n), P, C, K, (nI M), xL, (lc_rc q), w, ul, (lc_tr t), wy, oR, oS, oE, oD, gR, gP, gS, gE, gK, gD) ∧ v = ((nI nt), (nI tm), (nI R), (nI n), P, C, K, (nI M), yL, yA, yB, yD, yE, yF, yG, (lc_ra q 0), (lc_ra q 1), (lc_ra q 2), (lc_ra q 3), w, ct, mk, pR, pS, pE, pD, sS, sB, sE, sD, sK) ∧ lc_I nt tm R n q w t ct P C K M oR oS oE oD pR pS pE pD
theorem i_up {k : Nat} {u : SX} {v : SY} (h : i_Rel k u v) : i_Rel (k + 5) u v := h
theorem lc_rel {k nt tm R n : Nat} {q : Nat → Nat → Nat} {w : Nat → Int32} {t : Nat → Nat} {P C K : Int32} {M : Nat} {xL : Int32} {ul wy oR oS oE oD gR gP gS gE gK gD : Nat → Int32} {yL yA yB yD : Int32} {yE yF yG : Int64} {ct : Nat → Int64} {mk pR pS pE pD sS sB sE sD : Nat → Int32} {sK : Nat → Int64} (h : lc_I nt tm R n q w t ct P C K M oR oS oE oD pR pS pE pD) : i_Rel k ((nI nt), (nI tm), (nI R), (nI n), P, C, K, (nI M), xL, (lc_rc q), w, ul, (lc_tr t), wy, oR, oS, oE, oD, gR, gP, gS, gE, gK, gD) ((nI nt), (nI tm), (nI R), (nI n), P, C, K, (nI M), yL, yA, yB, yD, yE, yF, yG, (lc_ra q 0), (lc_ra q 1), (lc_ra q 2), (lc_ra q 3), w, ct, mk, pR, pS, pE, pD, sS, sB, sE, sD, sK) :=
  ⟨nt, tm, R, n, q, w, t, P, C, K, M, xL, ul, wy, oR, oS, oE, oD, gR, gP, gS, gE, gK, gD, yL, yA, yB, yD, yE, yF, yG, ct, mk, pR, pS, pE, pD, sS, sB, sE, sD, sK, rfl, rfl, h⟩
/-- clamped -/
theorem lc_clamp (x : Int32) : ∃ m : Nat, 1 ≤ m ∧ m ≤ 8 ∧ ∀ F : Int32 → Prop, F (nI m) → ((1 ≤ x → ((x ≤ 8 → F x) ∧ (¬ x ≤ 8 → F 8))) ∧ (¬ 1 ≤ x → F 1)) := by
  by_cases h1 : 1 ≤ x
  · by_cases h8 : x ≤ 8
    · have h0 : ¬ x < 0 := fun z => absurd (Int32.lt_of_le_of_lt h1 z) (by decide)
      obtain ⟨j, hj, rfl⟩ := nI_of2 (n := 8) (M := 8) (by decide) h0 h8
      refine ⟨j, ?_, hj, fun F hF => br_t h1 (br_t h8 hF)⟩
      exact (nI_leI (a := 1) (b := j) (by omega) (by omega)).mp h1
    · exact ⟨8, by omega, by omega, fun F hF => br_t h1 (br_f h8 hF)⟩
  · exact ⟨1, by omega, by omega, fun F hF => br_f h1 hF⟩
theorem lx_clamp {x : Int32} {m : Nat} (h : ∀ F : Int32 → Prop, F (nI m) → ((1 ≤ x → ((x ≤ 8 → F x) ∧ (¬ x ≤ 8 → F 8))) ∧ (¬ 1 ≤ x → F 1))) {post : Int32 → Prop} (hp : post (nI m)) : wpX_clampKinds post x := h post hp
theorem ly_169 {x : Int32} {m : Nat} (h : ∀ F : Int32 → Prop, F (nI m) → ((1 ≤ x → ((x ≤ 8 → F x) ∧ (¬ x ≤ 8 → F 8))) ∧ (¬ 1 ≤ x → F 1))) {post : SY → Prop} {z yN yT yR yH yP yC yK yM yL yA yB yD : Int32} {yE yF yG : Int64} {ct sK : Nat → Int64} {la ra rb rd yk mk pR pS pE pD sS sB sE sD : Nat → Int32} (hp : post (z, (nI m), yR, yH, yP, yC, yK, yM, yL, yA, yB, yD, yE, yF, yG, la, ra, rb, rd, yk, ct, mk, pR, pS, pE, pD, sS, sB, sE, sD, sK)) : wY_init_169 post x z yN yT yR yH yP yC yK yM yL yA yB yD yE yF yG la ra rb rd yk ct mk pR pS pE pD sS sB sE sD sK := h (fun y => post (z, y, yR, yH, yP, yC, yK, yM, yL, yA, yB, yD, yE, yF, yG, la, ra, rb, rd, yk, ct, mk, pR, pS, pE, pD, sS, sB, sE, sD, sK)) hp
theorem lc_rc00 : lc_rc (fun _ _ => 0) = fun _ => 0 := rfl
theorem i_vc0 (k0 : Int32) (k1 : Int32) : wpX_init (fun u => wpY_init (fun v => i_Rel 2 u v) k0 k1) k0 k1 := by
  obtain ⟨a, a1, a8, hA⟩ := lc_clamp k0
  obtain ⟨b, b1, b8, hB⟩ := lc_clamp k1
  unfold wpX_init
  refine lx_clamp hA (lx_clamp hB ?_)
  unfold wpY_init
  refine hA (fun z => wY_init_169 _ k1 z _ _ _ _ _ _ _ _ _ _ _ _ _ _ _ _ _ _ _ _ _ _ _ _ _ _ _ _ _ _ _) ?_
  refine ly_169 hB ?_
  exact lc_rel (nt := a) (tm := b) (R := 0) (n := 0) (q := fun _ _ => 0) (w := fun _ => 0) (t := fun _ => 0) (M := 0) ⟨a1, ⟨a8, b8, fun r hr => by omega⟩, by omega, by omega, ⟨fun _ => 0, fun r hr => by omega⟩, fun _ => Nat.zero_le _, Or.inl rfl, by omega, fun _ => rfl, fun j hj => by omega⟩
end LCR0
