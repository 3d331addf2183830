section LXA
variable {q : Nat → Nat → Nat} {w : Nat → Int32} {t : Nat → Nat} {nt tm R n : Nat}
variable {xP xC xK xM xL : Int32} {ul wy oR oS oE oD gR gP gS gE gK gD : Nat → Int32}
/-- the form of a rule -/
def lc_fm (nt tm l a b c : Nat) : Prop := l < nt ∧ lc_va nt tm a ∧ ((b = 16 ∧ c = 16) ∨ (lc_va nt tm b ∧ (c = 16 ∨ lc_va nt tm c)))
def lc_Fm (nt tm : Nat) (p0 p1 p2 p3 : Int32) : Prop := ∃ l a b c, lc_fm nt tm l a b c ∧ p0 = nI l ∧ p1 = nI a ∧ p2 = lc_cd b ∧ p3 = lc_cd c
def lc_vN (nt : Nat) (x : Int32) : Prop := ∃ c, c < nt ∧ x = nI c
def lc_vS (nt tm : Nat) (x : Int32) : Prop := ∃ c, lc_va nt tm c ∧ x = nI c
theorem lc_vN_iff {x : Int32} (h8 : nt ≤ 8) : lc_vN nt x ↔ (¬ x < 0 ∧ ¬ nI nt ≤ x) := by
  constructor
  · rintro ⟨c, hc, rfl⟩
    exact ⟨nI_pos (by omega), nI_ge hc (by omega)⟩
  · rintro ⟨h1, h2⟩
    rcases pk_ix x (n := nt) (by omega) with h | h | h
    · exact absurd h h1
    · exact absurd h h2
    · exact h
theorem lc_8t : 8 + nI tm = nI (8 + tm) := nI_add 8 tm
theorem lc_vS_iff {x : Int32} (h8 : nt ≤ 8) (t8 : tm ≤ 8) : lc_vS nt tm x ↔ (lc_vN nt x ∨ (¬ x < 8 ∧ ¬ 8 + nI tm ≤ x)) := by
  rw [lc_8t]
  constructor
  · rintro ⟨c, hc, rfl⟩
    rcases hc with hc | ⟨h1, h2⟩
    · exact Or.inl ⟨c, hc, rfl⟩
    · exact Or.inr ⟨nI_nlt (b := 8) h1 (by omega), nI_ge h2 (by omega)⟩
  · rintro (⟨c, hc, rfl⟩ | ⟨h1, h2⟩)
    · exact ⟨c, Or.inl hc, rfl⟩
    · rcases pk_ix x (n := 8 + tm) (by omega) with h | h | ⟨c, hc, rfl⟩
      · exact absurd (Int32.lt_trans h (by decide)) h1
      · exact absurd h h2
      · refine ⟨c, Or.inr ⟨?_, hc⟩, rfl⟩
        refine Nat.le_of_not_lt fun z => h1 ?_
        exact nI_lt (b := 8) z (by omega)
theorem lx_isN {post : Int32 → Prop} {x : Int32} (h8 : nt ≤ 8) (ht : lc_vN nt x → post 1) (hf : ¬ lc_vN nt x → post 0) : wpX_isNonterminal post ((nI nt), (nI tm), (nI R), (nI n), xP, xC, xK, xM, xL, (lc_rc q), w, ul, (lc_tr t), wy, oR, oS, oE, oD, gR, gP, gS, gE, gK, gD) x := by
  unfold wpX_isNonterminal
  rw [lc_vN_iff h8] at ht hf
  exact br_c (fun h => hf (fun z => z.1 h)) (fun h => br_c (fun h' => hf (fun z => z.2 h')) (fun h' => ht ⟨h, h'⟩))
theorem lx_isS {post : Int32 → Prop} {x : Int32} (h8 : nt ≤ 8) (t8 : tm ≤ 8) (ht : lc_vS nt tm x → post 1) (hf : ¬ lc_vS nt tm x → post 0) : wpX_isSymbol post ((nI nt), (nI tm), (nI R), (nI n), xP, xC, xK, xM, xL, (lc_rc q), w, ul, (lc_tr t), wy, oR, oS, oE, oD, gR, gP, gS, gE, gK, gD) x := by
  unfold wpX_isSymbol
  rw [lc_vS_iff h8 t8] at ht hf
  refine lx_isN h8 (fun hN => ?_) (fun hN => ?_)
  · exact br_f (by decide) (ht (Or.inl hN))
  · refine br_t rfl ?_
    refine br_c (fun h => hf ?_) (fun h => br_c (fun h' => hf ?_) (fun h' => ht (Or.inr ⟨h, h'⟩)))
    · rintro (z | z)
      · exact hN z
      · exact z.1 h
    · rintro (z | z)
      · exact hN z
      · exact z.2 h'
theorem lc_va_16 {c : Nat} (h8 : nt ≤ 8) (t8 : tm ≤ 8) (h : lc_va nt tm c) : c < 16 := by
  unfold lc_va at h; omega
theorem lc_cd_va {c : Nat} (h8 : nt ≤ 8) (t8 : tm ≤ 8) (h : lc_va nt tm c) : lc_cd c = nI c := lc_cd_n (by have := lc_va_16 h8 t8 h; omega)
theorem lc_Fm_iff {p0 p1 p2 p3 : Int32} (h8 : nt ≤ 8) (t8 : tm ≤ 8) : lc_Fm nt tm p0 p1 p2 p3 ↔ lc_vN nt p0 ∧ lc_vS nt tm p1 ∧ ((p2 = -1 ∧ p3 = -1) ∨ (lc_vS nt tm p2 ∧ (p3 = -1 ∨ lc_vS nt tm p3))) := by
  constructor
  · rintro ⟨l, a, b, c, ⟨h1, h2, h3⟩, rfl, rfl, rfl, rfl⟩
    refine ⟨⟨l, h1, rfl⟩, ⟨a, h2, rfl⟩, ?_⟩
    rcases h3 with ⟨rfl, rfl⟩ | ⟨hb, rfl | hc⟩
    · exact Or.inl ⟨lc_cd_16, lc_cd_16⟩
    · exact Or.inr ⟨⟨b, hb, lc_cd_va h8 t8 hb⟩, Or.inl lc_cd_16⟩
    · exact Or.inr ⟨⟨b, hb, lc_cd_va h8 t8 hb⟩, Or.inr ⟨c, hc, lc_cd_va h8 t8 hc⟩⟩
  · rintro ⟨⟨l, h1, rfl⟩, ⟨a, h2, rfl⟩, h3⟩
    rcases h3 with ⟨rfl, rfl⟩ | ⟨⟨b, hb, rfl⟩, rfl | ⟨c, hc, rfl⟩⟩
    · exact ⟨l, a, 16, 16, ⟨h1, h2, Or.inl ⟨rfl, rfl⟩⟩, rfl, rfl, lc_cd_16.symm, lc_cd_16.symm⟩
    · exact ⟨l, a, b, 16, ⟨h1, h2, Or.inr ⟨hb, Or.inl rfl⟩⟩, rfl, rfl, (lc_cd_va h8 t8 hb).symm, lc_cd_16.symm⟩
    · exact ⟨l, a, b, c, ⟨h1, h2, Or.inr ⟨hb, Or.inr hc⟩⟩, rfl, rfl, (lc_cd_va h8 t8 hb).symm, (lc_cd_va h8 t8 hc).symm⟩
theorem lc_vS_m1 {x : Int32} (h8 : nt ≤ 8) (t8 : tm ≤ 8) (h : lc_vS nt tm x) : ¬ x = -1 := by
  obtain ⟨c, hc, rfl⟩ := h
  exact lc_m1 (by have := lc_va_16 h8 t8 hc; omega)
theorem lx_form {post : Int32 → Prop} {p0 p1 p2 p3 : Int32} (h8 : nt ≤ 8) (t8 : tm ≤ 8) (ht : lc_Fm nt tm p0 p1 p2 p3 → post 1) (hf : ¬ lc_Fm nt tm p0 p1 p2 p3 → post 0) : wpX_isRuleForm post ((nI nt), (nI tm), (nI R), (nI n), xP, xC, xK, xM, xL, (lc_rc q), w, ul, (lc_tr t), wy, oR, oS, oE, oD, gR, gP, gS, gE, gK, gD) p0 p1 p2 p3 := by
  unfold wpX_isRuleForm
  rw [lc_Fm_iff h8 t8] at ht hf
  refine lx_isN h8 (fun h0 => ?_) (fun h0 => ?_)
  · refine br_f (by decide) ?_
    refine lx_isS h8 t8 (fun h1 => ?_) (fun h1 => ?_)
    · refine br_f (by decide) ?_
      refine br_c (fun e2 => br_c (fun e3 => ht ⟨h0, h1, Or.inl ⟨e2, e3⟩⟩) (fun e3 => hf ?_)) (fun e2 => ?_)
      · rintro ⟨-, -, z | z⟩
        · exact e3 z.2
        · exact lc_vS_m1 h8 t8 z.1 e2
      · refine lx_isS h8 t8 (fun h2 => ?_) (fun h2 => ?_)
        · refine br_f (by decide) (br_c (fun e3 => ht ⟨h0, h1, Or.inr ⟨h2, Or.inl e3⟩⟩) (fun e3 => ?_))
          refine lx_isS h8 t8 (fun h3 => ?_) (fun h3 => ?_)
          · exact br_f (by decide) (ht ⟨h0, h1, Or.inr ⟨h2, Or.inr h3⟩⟩)
          · refine br_t rfl (hf ?_)
            rintro ⟨-, -, z | z⟩
            · exact e2 z.1
            · rcases z.2 with z | z
              · exact e3 z
              · exact h3 z
        · refine br_t rfl (hf ?_)
          rintro ⟨-, -, z | z⟩
          · exact e2 z.1
          · exact h2 z.1
    · exact br_t rfl (hf (fun z => h1 z.2.1))
  · exact br_t rfl (hf (fun z => h0 z.1))
theorem lx_holds {post : Int32 → Prop} {K : Int32} {i : Nat} (hi : i < 31) (ht : bt K i = true → post 1) (hf : bt K i = false → post 0) : wpX_holds post () K (nI i) := by
  unfold wpX_holds
  refine lc_if (lc_hb hi) hf (fun h => ht ?_)
  simpa using h
theorem lx_unit {post : Int32 → Prop} {r : Nat} (hG : lc_G nt tm R q) (h24 : R ≤ 24) (hr : r < R) (ht : q r 1 < 8 → q r 2 = 16 → post 1) (hf : ¬ (q r 1 < 8 ∧ q r 2 = 16) → post 0) : wpX_isUnitRule post ((nI nt), (nI tm), (nI R), (nI n), xP, xC, xK, xM, xL, (lc_rc q), w, ul, (lc_tr t), wy, oR, oS, oE, oD, gR, gP, gS, gE, gK, gD) (nI r) := by
  unfold wpX_isUnitRule
  have h1 := (lc_G_16 hG hr).1
  have h1' := lc_G_r hG hr 1 (by omega)
  have h2 := lc_G_r hG hr 2 (by omega)
  refine nm_r (lc_x4 r) ?_
  have e1 : nI (r * 4) + 1 = nI (r * 4 + 1) := nI_1 _
  have e2 : nI (r * 4) + 2 = nI (r * 4 + 2) := lc_a2 _
  rw [e1, e2, nI_clamp (by omega), nI_clamp (by omega), lc_rc_p (by omega), lc_rc_p (by omega), lc_cd_n h1]
  refine ⟨vp_in_nI (by omega) (by omega), ?_⟩
  refine pk_le 8 (q r 1) (fun h => hf (by omega)) (fun h => ⟨vp_in_nI (by omega) (by omega), ?_⟩)
  exact lc_if (lc_cd_e h2) (fun z => ht h z) (fun z => hf (fun y => z y.2))
theorem lx_cf61 {post : Int32 → Prop} {J7 J19 : Int32 → Int32 → Prop} {x2 x4 K : Int32} {i : Nat} (hG : lc_G nt tm R q) (h24 : R ≤ 24) (hr : i < R) (h : J19 (K ||| ((1 : Int32) <<< (nI (q i 1) &&& 31))) (nI (i + 1))) : wX_cornersFrom_61 post J7 J19 x2 K x4 (nI i) (nI (i * 4)) (nI nt) (nI tm) (nI R) (nI n) xP xC xK xM xL (lc_rc q) w ul (lc_tr t) wy oR oS oE oD gR gP gS gE gK gD := by
  unfold wX_cornersFrom_61
  have h1 := (lc_G_16 hG hr).1
  have e1 : nI (i * 4) + 1 = nI (i * 4 + 1) := nI_1 _
  rw [e1, nI_clamp (by omega), lc_rc_p (by omega), lc_cd_n h1]
  exact ⟨vp_in_nI (by omega) (by omega), nm_e (nm_r (nI_1 i) h)⟩
theorem lx_cf19 {post : Int32 → Prop} {J7 : Int32 → Int32 → Prop} {u : Bool} {k : Nat} {S : Nat → Bool} (hG : lc_G nt tm R q) (h24 : R ≤ 24) (hJ : ∀ K', lc_bs K' (lc_ps u q R S) → J7 K' (nI (k + 1))) : ∀ d i K, i + d = R → lc_bs K (lc_ps u q i S) → wX_cornersFrom_19 post J7 (if u = true then 1 else 0) (nI k) (nI nt) (nI tm) (nI R) (nI n) xP xC xK xM xL (lc_rc q) w ul (lc_tr t) wy oR oS oE oD gR gP gS gE gK gD (d + 1) K (nI i) := by
  intro d
  induction d with
  | zero =>
    intro i K hi hK
    obtain rfl : i = R := by omega
    exact br_t (nI_le (Nat.le_refl _) (by omega)) (nm_r (nI_1 k) (hJ K hK))
  | succ d ih =>
    intro i K hi hK
    have hr : i < R := by omega
    have h0 := (hG.2.2 i hr).1
    have h8 := hG.1
    have h1 := lc_G_r hG hr 1 (by omega)
    have h16 := (lc_G_16 hG hr).1
    rw [wX_cornersFrom_19]
    refine br_f (nI_ge hr (by omega)) (nm_r (lc_x4 i) ?_)
    rw [nI_clamp (by omega), lc_rc_0, lc_cd_n (by omega)]
    refine ⟨vp_in_nI (by omega) (by omega), ?_⟩
    have hin : bt K (q i 0) = lc_ps u q i S (q i 0) := hK _ (by omega)
    have hY : bt K (q i 0) = true → lc_ca u q i → wX_cornersFrom_61 post J7 (wX_cornersFrom_19 post J7 (if u = true then 1 else 0) (nI k) (nI nt) (nI tm) (nI R) (nI n) xP xC xK xM xL (lc_rc q) w ul (lc_tr t) wy oR oS oE oD gR gP gS gE gK gD (d + 1)) (if u = true then 1 else 0) K (nI k) (nI i) (nI (i * 4)) (nI nt) (nI tm) (nI R) (nI n) xP xC xK xM xL (lc_rc q) w ul (lc_tr t) wy oR oS oE oD gR gP gS gE gK gD := by
      intro hb hc
      refine lx_cf61 hG h24 hr (ih (i + 1) _ (by omega) ?_)
      show lc_bs _ (lc_st u q i (lc_ps u q i S))
      rw [lc_st_t (by rw [← hin]; exact hb) hc]
      exact lc_bs_or hK (by omega)
    have hN : ¬ (bt K (q i 0) = true ∧ lc_ca u q i) → wX_cornersFrom_19 post J7 (if u = true then 1 else 0) (nI k) (nI nt) (nI tm) (nI R) (nI n) xP xC xK xM xL (lc_rc q) w ul (lc_tr t) wy oR oS oE oD gR gP gS gE gK gD (d + 1) K (nI (i + 1)) := by
      intro hc
      refine ih (i + 1) K (by omega) ?_
      show lc_bs K (lc_st u q i (lc_ps u q i S))
      rw [lc_st_f (by rw [← hin]; exact hc)]
      exact hK
    refine lx_holds (by omega) (fun hb => ?_) (fun hb => ?_)
    · refine br_f (by decide) ?_
      cases u with
      | false => exact br_t rfl (hY hb (fun z => by cases z))
      | true =>
        refine br_f (by decide) ?_
        refine lx_unit hG h24 hr (fun z1 z2 => ?_) (fun z => ?_)
        · exact br_f (by decide) (hY hb (fun _ => ⟨z1, z2⟩))
        · exact br_t rfl (nm_r (nI_1 i) (hN (fun y => z (y.2 rfl))))
    · refine br_t rfl (nm_r (nI_1 i) (hN (fun y => ?_)))
      rw [hb] at y
      exact absurd y.1 (by decide)
theorem lx_cf7 {post : Int32 → Prop} {u : Bool} {S : Nat → Bool} (hG : lc_G nt tm R q) (h24 : R ≤ 24) (hp : ∀ K', lc_bs K' (lc_it u q R nt S) → post K') : ∀ d k K, k + d = nt → lc_bs K (lc_it u q R k S) → wX_cornersFrom_7 post (if u = true then 1 else 0) (nI nt) (nI tm) (nI R) (nI n) xP xC xK xM xL (lc_rc q) w ul (lc_tr t) wy oR oS oE oD gR gP gS gE gK gD (d + 1) K (nI k) := by
  intro d
  induction d with
  | zero =>
    intro k K hk hK
    obtain rfl : k = nt := by omega
    have h8 := hG.1
    exact br_t (nI_le (Nat.le_refl _) (by omega)) (hp K hK)
  | succ d ih =>
    intro k K hk hK
    have h8 := hG.1
    rw [wX_cornersFrom_7]
    refine br_f (nI_ge (by omega) (by omega)) ⟨R + 1, ?_⟩
    exact lx_cf19 (S := lc_it u q R k S) hG h24 (fun K' hK' => ih (k + 1) K' (by omega) hK') R 0 K (by omega) hK
theorem lx_cf {post : Int32 → Prop} {u : Bool} {a : Nat} (hG : lc_G nt tm R q) (h24 : R ≤ 24) (ha : a < 16) (hp : ∀ K', lc_bs K' (lc_it u q R nt (fun i => decide (i = a))) → post K') : wpX_cornersFrom post ((nI nt), (nI tm), (nI R), (nI n), xP, xC, xK, xM, xL, (lc_rc q), w, ul, (lc_tr t), wy, oR, oS, oE, oD, gR, gP, gS, gE, gK, gD) (nI a) (if u = true then 1 else 0) := by
  unfold wpX_cornersFrom
  refine nm_e ⟨nt + 1, ?_⟩
  exact lx_cf7 hG h24 hp nt 0 _ (by omega) (fun i hi => lc_b1 (by omega) (by omega))
/-- the set of a's corners -/
def lc_co (u : Bool) (q : Nat → Nat → Nat) (R nt a : Nat) : Nat → Bool := lc_it u q R nt (fun i => decide (i = a))
theorem lx_cyc {post : Int32 → Prop} {l : Nat} {a : Nat} (hG : lc_G nt tm R q) (h24 : R ≤ 24) (hl : l < nt) (ha : lc_va nt tm a) (ht : a < nt → lc_co true q R nt a l = true → post 1) (hf : (a < nt → lc_co true q R nt a l = false) → post 0) : wpX_closesUnitCycle post ((nI nt), (nI tm), (nI R), (nI n), xP, xC, xK, xM, xL, (lc_rc q), w, ul, (lc_tr t), wy, oR, oS, oE, oD, gR, gP, gS, gE, gK, gD) (nI l) (nI a) := by
  unfold wpX_closesUnitCycle
  have h8 := hG.1
  have h16 := lc_va_16 hG.1 hG.2.1 ha
  refine lx_isN h8 (fun hN => ?_) (fun hN => ?_)
  · obtain ⟨c, hc, e⟩ := hN
    have ha : a = c := (nI_eq (by omega) (by omega)).mp e
    subst ha
    refine br_f (by decide) ?_
    refine lx_cf (u := true) hG h24 h16 (fun K' hK' => ?_)
    refine lx_holds (by omega) (fun hb => ?_) (fun hb => ?_)
    · refine ⟨rfl, ht hc ?_⟩
      rw [hK' l (by omega)] at hb; exact hb
    · refine ⟨rfl, hf (fun _ => ?_)⟩
      rw [hK' l (by omega)] at hb; exact hb
  · refine br_t rfl (hf (fun z => absurd ⟨a, z, rfl⟩ hN))
theorem lx_add44 {post : Int32 → St2 → Prop} {l a b c : Nat} (h24 : R < 24) (hp : post (nI R) ((nI nt), (nI tm), (nI (R + 1)), (nI n), 0, xC, (-1), 0, xL, (lc_rc (lc_add q R l a b c)), w, ul, (lc_tr t), wy, oR, oS, oE, oD, gR, gP, gS, gE, gK, gD)) (e0 : lc_cd l = nI l) (e1 : lc_cd a = nI a) : wX_addRule_44 post (nI l) (nI a) (lc_cd b) (lc_cd c) (nI nt) (nI tm) (nI R) (nI n) xP xC xK xM xL (lc_rc q) w ul (lc_tr t) wy oR oS oE oD gR gP gS gE gK gD := by
  unfold wX_addRule_44
  refine nm_r (lc_x4 R) ?_
  have i1 : nI (R * 4) + 1 = nI (R * 4 + 1) := nI_1 _
  have i2 : nI (R * 4) + 2 = nI (R * 4 + 2) := lc_a2 _
  have i3 : nI (R * 4) + 3 = nI (R * 4 + 3) := lc_a3 _
  rw [i1, i2, i3, nI_clamp (by omega), nI_clamp (by omega), nI_clamp (by omega), nI_clamp (by omega)]
  refine ⟨vp_in_nI (by omega) (by omega), nm_e ⟨vp_in_nI (by omega) (by omega), nm_e ⟨vp_in_nI (by omega) (by omega), nm_e ⟨vp_in_nI (by omega) (by omega), nm_e (nm_r (nI_1 R) ?_)⟩⟩⟩⟩
  have e : upd (upd (upd (upd (lc_rc q) (R * 4) (nI l)) (R * 4 + 1) (nI a)) (R * 4 + 2) (lc_cd b)) (R * 4 + 3) (lc_cd c) = lc_rc (lc_add q R l a b c) := by
    funext j
    unfold upd lc_rc lc_add
    by_cases hj : j / 4 = R
    · have : j % 4 = 0 ∨ j % 4 = 1 ∨ j % 4 = 2 ∨ j % 4 = 3 := by omega
      rcases this with z | z | z | z
      · rw [if_neg (by omega), if_neg (by omega), if_neg (by omega), if_pos (by omega), if_pos hj, if_pos z, e0]
      · rw [if_neg (by omega), if_neg (by omega), if_pos (by omega), if_pos hj, if_neg (by omega), if_pos z, e1]
      · rw [if_neg (by omega), if_pos (by omega), if_pos hj, if_neg (by omega), if_neg (by omega), if_pos z]
      · rw [if_pos (by omega), if_pos hj, if_neg (by omega), if_neg (by omega), if_neg (by omega)]
    · rw [if_neg (by omega), if_neg (by omega), if_neg (by omega), if_neg (by omega), if_neg hj]
  rw [e]
  exact hp
/-- X's addRule -/
theorem lx_addRule {post : Int32 → St2 → Prop} {p0 p1 p2 p3 : Int32} (hG : lc_G nt tm R q) (h24 : R ≤ 24)
    (h2 : ¬ lc_Fm nt tm p0 p1 p2 p3 → post (-2) ((nI nt), (nI tm), (nI R), (nI n), xP, xC, xK, xM, xL, (lc_rc q), w, ul, (lc_tr t), wy, oR, oS, oE, oD, gR, gP, gS, gE, gK, gD))
    (h3 : lc_Fm nt tm p0 p1 p2 p3 → R = 24 → post (-3) ((nI nt), (nI tm), (nI R), (nI n), xP, xC, xK, xM, xL, (lc_rc q), w, ul, (lc_tr t), wy, oR, oS, oE, oD, gR, gP, gS, gE, gK, gD))
    (h4 : ∀ l a, lc_fm nt tm l a 16 16 → p0 = nI l → p1 = nI a → p2 = -1 → p3 = -1 → R < 24 → a < nt → lc_co true q R nt a l = true → post (-4) ((nI nt), (nI tm), (nI R), (nI n), xP, xC, xK, xM, xL, (lc_rc q), w, ul, (lc_tr t), wy, oR, oS, oE, oD, gR, gP, gS, gE, gK, gD))
    (h0 : ∀ l a b c, lc_fm nt tm l a b c → p0 = nI l → p1 = nI a → p2 = lc_cd b → p3 = lc_cd c → R < 24 → (b = 16 → a < nt → lc_co true q R nt a l = false) → post (nI R) ((nI nt), (nI tm), (nI (R + 1)), (nI n), 0, xC, (-1), 0, xL, (lc_rc (lc_add q R l a b c)), w, ul, (lc_tr t), wy, oR, oS, oE, oD, gR, gP, gS, gE, gK, gD)) :
    wpX_addRule post ((nI nt), (nI tm), (nI R), (nI n), xP, xC, xK, xM, xL, (lc_rc q), w, ul, (lc_tr t), wy, oR, oS, oE, oD, gR, gP, gS, gE, gK, gD) p0 p1 p2 p3 := by
  unfold wpX_addRule
  have h8 := hG.1
  have t8 := hG.2.1
  refine lx_form h8 t8 (fun hF => ?_) (fun hF => ?_)
  · refine br_f (by decide) ?_
    have hF' := hF
    obtain ⟨l, a, b, c, hf, rfl, rfl, rfl, rfl⟩ := hF
    have hf' := hf
    obtain ⟨f1, f2, f3⟩ := hf'
    have hb16 : b ≤ 16 := by
      rcases f3 with ⟨rfl, -⟩ | ⟨z, -⟩
      · omega
      · have := lc_va_16 h8 t8 z; omega
    refine pk_lt R 24 (fun hR => ?_) (fun hR => h3 hF' (by omega))
    refine lc_if (lc_cd_e hb16) (fun e => ?_) (fun e => ?_)
    · subst e
      obtain rfl : c = 16 := by
        rcases f3 with ⟨-, z⟩ | ⟨z, -⟩
        · exact z
        · have := lc_va_16 h8 t8 z; omega
      refine lx_cyc hG h24 f1 f2 (fun ha hc => ?_) (fun hc => ?_)
      · exact br_f (by decide) (h4 l a hf rfl rfl lc_cd_16 lc_cd_16 hR ha hc)
      · exact br_t rfl (lx_add44 hR (h0 l a 16 16 hf rfl rfl rfl rfl hR (fun _ => hc)) (lc_cd_n (by omega)) (lc_cd_va h8 t8 f2))
    · exact lx_add44 hR (h0 l a b c hf rfl rfl rfl rfl hR (fun z => absurd z e)) (lc_cd_n (by omega)) (lc_cd_va h8 t8 f2)
  · exact br_t rfl (h2 hF)
end LXA
