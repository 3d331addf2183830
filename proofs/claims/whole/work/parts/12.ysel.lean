section LYC
variable {q : Nat → Nat → Nat} {w : Nat → Int32} {t : Nat → Nat} {nt tm R n : Nat} {rk : Nat → Nat}
/-! the children, as Y makes them -/
theorem lc_last (hG : lc_G nt tm R q) {r j s e k : Nat} (hv : lc_vt q w t R n r j s e k) (h : ∀ i, i < j → q r (3 - i) = 16) : lc_m q w t r j s e k = (e, k) := by
  obtain ⟨kS, -⟩ := lc_vt_S hv
  obtain ⟨hr, hj, hs, he, -, -, -⟩ := hv
  have h0 : ∀ i, s + 1 ≤ i → i < e → lc_mf q w t r j s e i = 0 := by
    intro i a b
    show _ * lc_w q w t r j i e = 0
    rw [lc_w_e h, if_neg (by omega), Nat.mul_zero]
  rw [lc_S_last h0 (by omega)] at kS
  unfold lc_m
  obtain ⟨d, hd⟩ : ∃ d, e - s = d + 1 := ⟨e - s - 1, by omega⟩
  have e1 : s + 1 + d = e := by omega
  rw [hd, lc_f_skip d (s + 1) k (fun i a b => h0 i a (by omega)) (by rw [e1]; exact kS), e1]
theorem lc_kd_l (hG : lc_G nt tm R q) {r j s e k d : Nat} (hv : lc_vt q w t R n r j s e k) (h : ∀ i, i < j → q r (3 - i) = 16) : lc_kd q w t r (j + 1) s e k d = lc_k1 (q r (3 - j)) s e k d := by
  rw [lc_kd_s, lc_last hG hv h]
  show lc_k1 (q r (3 - j)) s e (k / lc_w q w t r j e e) d ++ (if e < e then _ else []) = _
  rw [lc_w_e h, if_pos rfl, Nat.div_one, if_neg (by omega), List.append_nil]
theorem lc_m_lt (hG : lc_G nt tm R q) {r j s e k : Nat} (hv : lc_vt q w t R n r (j + 1) s e k) (h : ¬ q r (3 - j) = 16) : (lc_m q w t r (j + 1) s e k).1 < e := by
  obtain ⟨m1, m2, m3, m4⟩ := lc_m_ok hG hv
  refine Nat.lt_of_le_of_ne m2 ?_
  intro z
  rw [z, lc_w_z h, Nat.mul_zero] at m3
  omega
theorem lc_kd_n (hG : lc_G nt tm R q) {r j s e k d : Nat} (hv : lc_vt q w t R n r (j + 1) s e k) (h : ¬ q r (3 - j) = 16) : lc_kd q w t r (j + 1 + 1) s e k d = lc_k1 (q r (3 - (j + 1))) s (lc_m q w t r (j + 1) s e k).1 ((lc_m q w t r (j + 1) s e k).2 / lc_w q w t r (j + 1) (lc_m q w t r (j + 1) s e k).1 e) d ++ lc_kd q w t r (j + 1) (lc_m q w t r (j + 1) s e k).1 e ((lc_m q w t r (j + 1) s e k).2 % lc_w q w t r (j + 1) (lc_m q w t r (j + 1) s e k).1 e) d ∧ lc_vt q w t R n r j (lc_m q w t r (j + 1) s e k).1 e ((lc_m q w t r (j + 1) s e k).2 % lc_w q w t r (j + 1) (lc_m q w t r (j + 1) s e k).1 e) := by
  obtain ⟨m1, m2, m3, m4⟩ := lc_m_ok hG hv
  have hlt := lc_m_lt hG hv h
  obtain ⟨j', e1, hv'⟩ := lc_m_nx hG hv m1 hlt m3 m4
  obtain rfl : j = j' := by omega
  exact ⟨by rw [lc_kd_s, if_pos hlt], hv'⟩
/-! entries in arrays -/
def lc_ys (sS sB sE sD : Nat → Int32) (sK : Nat → Int64) : List lc_E → Prop
  | [] => True
  | (x, s, e, k, d) :: l => (sS l.length = nI x ∧ sB l.length = nI s ∧ sE l.length = nI e ∧ sD l.length = nI d ∧ sK l.length = lN k) ∧ lc_ys sS sB sE sD sK l
theorem lc_ys_u {sS sB sE sD : Nat → Int32} {sK : Nat → Int64} {a b c d : Int32} {f : Int64} : ∀ {l : List lc_E} {i : Nat}, lc_ys sS sB sE sD sK l → l.length ≤ i → lc_ys (upd sS i a) (upd sB i b) (upd sE i c) (upd sD i d) (vp_updL sK i f) l := by
  intro l
  induction l with
  | nil => intro i _ _; exact True.intro
  | cons x l ih =>
    intro i h hi
    obtain ⟨y, s, e, k, d'⟩ := x
    have hl : l.length + 1 ≤ i := hi
    have hne : l.length ≠ i := by omega
    obtain ⟨⟨h1, h2, h3, h4, h5⟩, h7⟩ := h
    refine ⟨⟨?_, ?_, ?_, ?_, ?_⟩, ih h7 (by omega)⟩
    · rw [pk_un hne]; exact h1
    · rw [pk_un hne]; exact h2
    · rw [pk_un hne]; exact h3
    · rw [pk_un hne]; exact h4
    · rw [pk_uLn hne]; exact h5
theorem lc_mu_len (l : List lc_E) (h : lc_ev t nt n l) : l.length ≤ lc_mu rk l := by
  induction l with
  | nil => exact Nat.le_refl 0
  | cons a l ih =>
    obtain ⟨x, s, e, k, d⟩ := a
    have h1 := ih h.2
    have h2 := h.1.2.1
    rw [lc_mu_c]
    show l.length + 1 ≤ _
    omega
variable {yP yC yK yM yL yA yB yD : Int32} {yE yF yG : Int64} {ct sK : Nat → Int64} {mk pR pS pE pD sS sB sE sD : Nat → Int32}
theorem ly_push {post : SY → Prop} {c s e k d : Nat} {st : List lc_E} (hc : c < 16) (hl : st.length < 256) (hy : lc_ys sS sB sE sD sK st)
    (hp : ∀ sS' sB' sE' sD' sK', lc_ys sS' sB' sE' sD' sK' (lc_k1 c s e k d ++ st) → post ((nI nt), (nI tm), (nI R), (nI n), yP, yC, yK, yM, (nI (lc_k1 c s e k d ++ st).length), yA, yB, yD, yE, yF, yG, (lc_ra q 0), (lc_ra q 1), (lc_ra q 2), (lc_ra q 3), w, ct, mk, pR, pS, pE, pD, sS', sB', sE', sD', sK')) :
    wpY_push post ((nI nt), (nI tm), (nI R), (nI n), yP, yC, yK, yM, (nI st.length), yA, yB, yD, yE, yF, yG, (lc_ra q 0), (lc_ra q 1), (lc_ra q 2), (lc_ra q 3), w, ct, mk, pR, pS, pE, pD, sS, sB, sE, sD, sK) (nI c) (nI s) (nI e) (lN k) (nI d) := by
  unfold wpY_push
  refine br_f (nI_pos (by omega)) (pk_le 8 c (fun z => ?_) (fun z => ?_))
  · have e1 : lc_k1 c s e k d = [] := if_neg (by omega)
    rw [e1, List.nil_append] at hp
    exact hp _ _ _ _ _ hy
  · have e1 : lc_k1 c s e k d = [(c, s, e, k, d)] := if_pos z
    rw [e1, List.cons_append, List.nil_append] at hp
    have hi : vp_in (nI st.length) 256 := vp_in_nI hl (by omega)
    have hcl : (nI st.length).toNatClampNeg = st.length := nI_clamp (by omega)
    refine br_t (nI_lt (b := 256) hl (by decide)) ⟨hi, nm_r (e' := upd sS st.length (nI c)) (by rw [hcl]) ⟨hi, nm_r (e' := upd sB st.length (nI s)) (by rw [hcl]) ⟨hi, nm_r (e' := upd sE st.length (nI e)) (by rw [hcl]) ⟨hi, nm_r (e' := vp_updL sK st.length (lN k)) (by rw [hcl]) ⟨hi, nm_r (e' := upd sD st.length (nI d)) (by rw [hcl]) (nm_r (nI_1 _) ?_)⟩⟩⟩⟩⟩
    exact hp _ _ _ _ _ ⟨⟨pk_us, pk_us, pk_us, pk_us, pk_uLs⟩, lc_ys_u hy (Nat.le_refl _)⟩
/-- the found place's rank, in longs -/
theorem lc_dr {b c : Nat} (hb : b < 1000000) (hc : 0 < c) (hc2 : c ≤ 1000000) : lN b / lN c = lN (b / c) ∧ lN b - lN b / lN c * lN c = lN (b % c) ∧ ¬ lN c = 0 ∧ ¬ lN c ≤ 0 := by
  refine ⟨pk_lDiv (by omega) hc (by omega), pk_lRem (by omega) hc (by omega), ?_, ?_⟩
  · intro z
    have := (pk_lEQ (a := c) (b := 0) (by omega) (by omega)).mp z
    omega
  · intro z
    have := (pk_lLE (a := c) (b := 0) (by omega) (by omega)).mp z
    omega
theorem lc_lle {a b : Nat} (ha : a < 2 ^ 62) (hb : b < 2 ^ 62) : lN a ≤ lN b ↔ a ≤ b := pk_lLE (by omega) (by omega)
theorem ly_ch376 {post : SY → Prop} {r s e k : Nat} (hG : lc_G nt tm R q) (h24 : R ≤ 24) (hn : n ≤ 12) (ht : ∀ j, t j ≤ 1000000) (hct : lc_ct ct nt n t) (hr : r < R) (h2 : ¬ q r 2 = 16) (h3 : ¬ q r 3 = 16) (he : e ≤ n)
    (hp : post ((nI nt), (nI tm), (nI R), (nI n), yP, yC, yK, yM, yL, yA, yB, (nI (lc_m q w t r 1 s e k).1), yE, (lN ((lc_m q w t r 1 s e k).2 / lc_w q w t r 1 (lc_m q w t r 1 s e k).1 e)), (lN ((lc_m q w t r 1 s e k).2 % lc_w q w t r 1 (lc_m q w t r 1 s e k).1 e)), (lc_ra q 0), (lc_ra q 1), (lc_ra q 2), (lc_ra q 3), w, ct, mk, pR, pS, pE, pD, sS, sB, sE, sD, sK)) :
    ∀ D i b, i + D = e + 1 → s + 1 ≤ i → lc_f (lc_mf q w t r 1 s e) D i b = lc_m q w t r 1 s e k → b < lc_S (lc_mf q w t r 1 s e) i (e + 1) → b < 1000000 → wY_choose_376 post (nI e) (nI r) (nI s) (nI nt) (nI tm) (nI R) (nI n) yP yC yK yM yL yA yB yD yE yF yG (lc_ra q 0) (lc_ra q 1) (lc_ra q 2) (lc_ra q 3) w ct mk pR pS pE pD sS sB sE sD sK (D + 1) (lN b) (nI i) := by
  intro D
  induction D with
  | zero =>
    intro i b hi hs hf hb hb2
    rw [lc_S_0 (by omega)] at hb
    omega
  | succ D ih =>
    intro i b hi hs hf hb hb2
    have r2 := lc_G_r hG hr 2 (by omega)
    have r3 := lc_G_r hG hr 3 (by omega)
    by_cases hie : i = e
    · exfalso
      subst hie
      rw [lc_S_s (Nat.le_refl _), lc_S_0 (Nat.le_refl _)] at hb
      have : lc_mf q w t r 1 s i i = 0 := by
        show _ * lc_w q w t r (0 + 1) i i = 0
        rw [lc_w_z h3, Nat.mul_zero]
      omega
    · have hv : vp_in (nI r) 24 := vp_in_nI (by omega) (by omega)
      have e2 : lc_ra q 2 r = nI (q r 2) := lc_cd_n h2
      have e3 : lc_ra q 3 r = nI (q r 3) := lc_cd_n h3
      have ew : lc_w q w t r 1 i e = lc_y w t (q r 3) i e := lc_w_l (j := 0) ht (fun i hi => by omega) h3 (by omega)
      have hmf : lc_mf q w t r 1 s e i = lc_y w t (q r 2) s i * lc_y w t (q r 3) i e := by rw [← ew]; rfl
      have y1 := lc_y_le (w := w) ht (q r 2) s i
      have y2 := lc_y_le (w := w) ht (q r 3) i e
      have hm : lc_y w t (q r 2) s i * lc_y w t (q r 3) i e ≤ 1000000 * 1000000 := Nat.mul_le_mul y1 y2
      rw [wY_choose_376]
      refine br_f (nI_ge (by omega) (by omega)) ⟨hv, ?_⟩
      rw [nI_clamp (by omega), e2, e3]
      refine ly_sym hG.1 hn hct (by omega) (lc_G_8 hG hr 2 (by omega)) (by omega) (by omega) ⟨hv, ?_⟩
      refine ly_sym hG.1 hn hct (by omega) (lc_G_8 hG hr 3 (by omega)) (by omega) he ?_
      refine nm_r (lN_mul _ _) ?_
      refine lc_if (lc_lle (by omega) (by omega)) (fun z => ?_) (fun z => ?_)
      · have hnl : ¬ b < lc_mf q w t r 1 s e i := by omega
        rw [lc_f_n hnl] at hf
        have hb' := lc_S_sub hnl (by omega) hb
        rw [hmf] at hf hb'
        exact nm_r (lN_sub z) (nm_r (nI_1 i) (ih (i + 1) _ (by omega) (by omega) hf hb' (by omega)))
      · have hl : b < lc_mf q w t r 1 s e i := by omega
        have hc0 := (lc_mp (a := lc_y w t (q r 2) s i) (b := lc_y w t (q r 3) i e) (by omega)).2
        obtain ⟨d1, d2, d3, d4⟩ := lc_dr hb2 hc0 y2
        rw [lc_f_t hl] at hf
        rw [← hf] at hp
        refine br_f d4 ⟨d3, nm_r d1 ⟨d3, nm_r d2 ?_⟩⟩
        rw [← ew]
        exact hp
theorem ly_ch146 {post : SY → Prop} {r s e k : Nat} (hG : lc_G nt tm R q) (h24 : R ≤ 24) (hn : n ≤ 12) (ht : ∀ j, t j ≤ 1000000) (hct : lc_ct ct nt n t) (hr : r < R) (h2 : ¬ q r 2 = 16) (h3 : q r 3 = 16) (he : e ≤ n)
    (hp : post ((nI nt), (nI tm), (nI R), (nI n), yP, yC, yK, yM, yL, yA, (nI (lc_m q w t r 2 s e k).1), yD, (lN ((lc_m q w t r 2 s e k).2 / lc_w q w t r 2 (lc_m q w t r 2 s e k).1 e)), (lN ((lc_m q w t r 2 s e k).2 % lc_w q w t r 2 (lc_m q w t r 2 s e k).1 e)), yG, (lc_ra q 0), (lc_ra q 1), (lc_ra q 2), (lc_ra q 3), w, ct, mk, pR, pS, pE, pD, sS, sB, sE, sD, sK)) :
    ∀ D i b, i + D = e + 1 → s + 1 ≤ i → lc_f (lc_mf q w t r 2 s e) D i b = lc_m q w t r 2 s e k → b < lc_S (lc_mf q w t r 2 s e) i (e + 1) → b < 1000000 → wY_choose_146 post (nI s) (nI e) (nI r) (nI nt) (nI tm) (nI R) (nI n) yP yC yK yM yL yA yB yD yE yF yG (lc_ra q 0) (lc_ra q 1) (lc_ra q 2) (lc_ra q 3) w ct mk pR pS pE pD sS sB sE sD sK (D + 1) (lN b) (nI i) := by
  intro D
  induction D with
  | zero =>
    intro i b hi hs hf hb hb2
    rw [lc_S_0 (by omega)] at hb
    omega
  | succ D ih =>
    intro i b hi hs hf hb hb2
    have r1 := lc_G_r hG hr 1 (by omega)
    have r2 := lc_G_r hG hr 2 (by omega)
    have h1 := (lc_G_16 hG hr).1
    by_cases hie : i = e
    · exfalso
      subst hie
      rw [lc_S_s (Nat.le_refl _), lc_S_0 (Nat.le_refl _)] at hb
      have : lc_mf q w t r 2 s i i = 0 := by
        show _ * lc_w q w t r (1 + 1) i i = 0
        rw [lc_w_z h2, Nat.mul_zero]
      omega
    · have hv : vp_in (nI r) 24 := vp_in_nI (by omega) (by omega)
      have e1 : lc_ra q 1 r = nI (q r 1) := lc_cd_n h1
      have e2 : lc_ra q 2 r = nI (q r 2) := lc_cd_n h2
      have ew : lc_w q w t r 2 i e = lc_y w t (q r 2) i e := lc_w_l (j := 1) ht (fun i hi => by obtain rfl : i = 0 := (by omega); exact h3) h2 (by omega)
      have hmf : lc_mf q w t r 2 s e i = lc_y w t (q r 1) s i * lc_y w t (q r 2) i e := by rw [← ew]; rfl
      have y1 := lc_y_le (w := w) ht (q r 1) s i
      have y2 := lc_y_le (w := w) ht (q r 2) i e
      have hm : lc_y w t (q r 1) s i * lc_y w t (q r 2) i e ≤ 1000000 * 1000000 := Nat.mul_le_mul y1 y2
      rw [wY_choose_146]
      refine br_f (nI_ge (by omega) (by omega)) ⟨hv, ?_⟩
      rw [nI_clamp (by omega), e1, e2]
      refine ly_sym hG.1 hn hct (by omega) (lc_G_8 hG hr 1 (by omega)) (by omega) (by omega) ⟨hv, ?_⟩
      refine ly_sym hG.1 hn hct (by omega) (lc_G_8 hG hr 2 (by omega)) (by omega) he ?_
      refine nm_r (lN_mul _ _) ?_
      refine lc_if (lc_lle (by omega) (by omega)) (fun z => ?_) (fun z => ?_)
      · have hnl : ¬ b < lc_mf q w t r 2 s e i := by omega
        rw [lc_f_n hnl] at hf
        have hb' := lc_S_sub hnl (by omega) hb
        rw [hmf] at hf hb'
        exact nm_r (lN_sub z) (nm_r (nI_1 i) (ih (i + 1) _ (by omega) (by omega) hf hb' (by omega)))
      · have hl : b < lc_mf q w t r 2 s e i := by omega
        have hc0 := (lc_mp (a := lc_y w t (q r 1) s i) (b := lc_y w t (q r 2) i e) (by omega)).2
        obtain ⟨d1, d2, d3, d4⟩ := lc_dr hb2 hc0 y2
        rw [lc_f_t hl] at hf
        rw [← hf] at hp
        refine br_f d4 ⟨d3, nm_r d1 ⟨d3, nm_r d2 ?_⟩⟩
        rw [← ew]
        exact hp
theorem ly_ch253 {post : SY → Prop} {r s e k : Nat} (hG : lc_G nt tm R q) (h24 : R ≤ 24) (hn : n ≤ 12) (ht : ∀ j, t j ≤ 1000000) (hct : lc_ct ct nt n t) (hr : r < R) (h2 : ¬ q r 2 = 16) (h3 : ¬ q r 3 = 16) (he : e ≤ n)
    (hp : wY_choose_358 post (nI e) (lN ((lc_m q w t r 2 s e k).2 % lc_w q w t r 2 (lc_m q w t r 2 s e k).1 e)) (nI r) (nI (lc_m q w t r 2 s e k).1) (nI nt) (nI tm) (nI R) (nI n) yP yC yK yM yL yA yB yD (lN ((lc_m q w t r 2 s e k).2 / lc_w q w t r 2 (lc_m q w t r 2 s e k).1 e)) yF yG (lc_ra q 0) (lc_ra q 1) (lc_ra q 2) (lc_ra q 3) w ct mk pR pS pE pD sS sB sE sD sK) :
    ∀ D i b, i + D = e + 1 → s + 1 ≤ i → lc_f (lc_mf q w t r 2 s e) D i b = lc_m q w t r 2 s e k → b < lc_S (lc_mf q w t r 2 s e) i (e + 1) → b < 1000000 → wY_choose_253 post (nI s) (nI e) (nI r) (-1) (nI nt) (nI tm) (nI R) (nI n) yP yC yK yM yL yA yB yD yE yF yG (lc_ra q 0) (lc_ra q 1) (lc_ra q 2) (lc_ra q 3) w ct mk pR pS pE pD sS sB sE sD sK (D + 1) (lN b) (nI i) := by
  intro D
  induction D with
  | zero =>
    intro i b hi hs hf hb hb2
    rw [lc_S_0 (by omega)] at hb
    omega
  | succ D ih =>
    intro i b hi hs hf hb hb2
    have r1 := lc_G_r hG hr 1 (by omega)
    have r2 := lc_G_r hG hr 2 (by omega)
    have r3 := lc_G_r hG hr 3 (by omega)
    have h1 := (lc_G_16 hG hr).1
    have ze : lc_mf q w t r 2 s e e = 0 := by
      show _ * lc_w q w t r (1 + 1) e e = 0
      rw [lc_w_z h2, Nat.mul_zero]
    have zp : i + 1 = e → lc_mf q w t r 2 s e i = 0 := by
      intro z
      show _ * lc_w q w t r (0 + 1 + 1) i e = 0
      rw [lc_w_m h2 h3 (by omega), lc_S_0 (by omega), lc_cp_0, Nat.mul_zero]
    by_cases hie : e ≤ i + 1
    · exfalso
      by_cases z : i + 1 = e
      · rw [lc_S_s (by omega), ze, ← z, lc_S_s (Nat.le_refl _), lc_S_0 (Nat.le_refl _)] at hb
        have := zp z
        rw [← z] at this
        omega
      · obtain rfl : i = e := by omega
        rw [lc_S_s (Nat.le_refl _), lc_S_0 (Nat.le_refl _), ze] at hb
        omega
    · have hv : vp_in (nI r) 24 := vp_in_nI (by omega) (by omega)
      have e1 : lc_ra q 1 r = nI (q r 1) := lc_cd_n h1
      have e2 : lc_ra q 2 r = nI (q r 2) := lc_cd_n h2
      have e3 : lc_ra q 3 r = nI (q r 3) := lc_cd_n h3
      have ee : nI e - 1 = nI (e - 1) := pk_sub (b := 1) (by omega)
      have hmf : lc_mf q w t r 2 s e i = lc_y w t (q r 1) s i * lc_w q w t r 2 i e := rfl
      have y1 := lc_y_le (w := w) ht (q r 1) s i
      have y2 := lc_w_le (q := q) (w := w) (t := t) (r := r) 2 i e
      have hm : lc_y w t (q r 1) s i * lc_w q w t r 2 i e ≤ 1000000 * 1000000 := Nat.mul_le_mul y1 y2
      rw [wY_choose_253]
      refine br_f (by rw [ee]; exact nI_ge (by omega) (by omega)) ⟨hv, ?_⟩
      rw [nI_clamp (by omega), e1, e2, e3]
      refine ly_sym hG.1 hn hct (by omega) (lc_G_8 hG hr 1 (by omega)) (by omega) (by omega) ⟨hv, hv, ?_⟩
      refine ly_tc hG hn ht hct hr h2 h3 (by omega) he ?_
      refine nm_r (lN_mul _ _) ?_
      refine lc_if (lc_lle (by omega) (by omega)) (fun z => ?_) (fun z => ?_)
      · have hnl : ¬ b < lc_mf q w t r 2 s e i := by omega
        rw [lc_f_n hnl] at hf
        have hb' := lc_S_sub hnl (by omega) hb
        rw [hmf] at hf hb'
        exact nm_r (lN_sub z) (nm_r (nI_1 i) (ih (i + 1) _ (by omega) (by omega) hf hb' (by omega)))
      · have hl : b < lc_mf q w t r 2 s e i := by omega
        have hc0 := (lc_mp (a := lc_y w t (q r 1) s i) (b := lc_w q w t r 2 i e) (by omega)).2
        obtain ⟨d1, d2, d3, d4⟩ := lc_dr hb2 hc0 y2
        rw [lc_f_t hl] at hf
        rw [← hf] at hp
        exact br_f d4 ⟨d3, nm_r d1 ⟨d3, nm_r d2 hp⟩⟩
/-- what choose finds for rule r, rank b in the rule -/
theorem ly_ch97 {post : SY → Prop} {r s e b : Nat} (hG : lc_G nt tm R q) (h24 : R ≤ 24) (hn : n ≤ 12) (ht : ∀ j, t j ≤ 1000000) (hct : lc_ct ct nt n t) (hv : lc_vt q w t R n r 2 s e b)
    (h1 : q r 2 = 16 → post ((nI nt), (nI tm), (nI R), (nI n), yP, yC, yK, yM, yL, (nI r), yB, yD, (lN b), yF, yG, (lc_ra q 0), (lc_ra q 1), (lc_ra q 2), (lc_ra q 3), w, ct, mk, pR, pS, pE, pD, sS, sB, sE, sD, sK))
    (h2 : ¬ q r 2 = 16 → q r 3 = 16 → post ((nI nt), (nI tm), (nI R), (nI n), yP, yC, yK, yM, yL, (nI r), (nI (lc_m q w t r 2 s e b).1), yD, (lN ((lc_m q w t r 2 s e b).2 / lc_w q w t r 2 (lc_m q w t r 2 s e b).1 e)), (lN ((lc_m q w t r 2 s e b).2 % lc_w q w t r 2 (lc_m q w t r 2 s e b).1 e)), yG, (lc_ra q 0), (lc_ra q 1), (lc_ra q 2), (lc_ra q 3), w, ct, mk, pR, pS, pE, pD, sS, sB, sE, sD, sK))
    (h3 : ¬ q r 2 = 16 → ¬ q r 3 = 16 → ∀ m1 b1, (m1, b1) = lc_m q w t r 2 s e b → ∀ m2 b2, (m2, b2) = lc_m q w t r 1 m1 e (b1 % lc_w q w t r 2 m1 e) → post ((nI nt), (nI tm), (nI R), (nI n), yP, yC, yK, yM, yL, (nI r), (nI m1), (nI m2), (lN (b1 / lc_w q w t r 2 m1 e)), (lN (b2 / lc_w q w t r 1 m2 e)), (lN (b2 % lc_w q w t r 1 m2 e)), (lc_ra q 0), (lc_ra q 1), (lc_ra q 2), (lc_ra q 3), w, ct, mk, pR, pS, pE, pD, sS, sB, sE, sD, sK)) :
    wY_choose_97 post (nI s) (nI e) (lN b) (nI nt) (nI tm) (nI R) (nI n) yP yC yK yM yL (nI r) yB yD yE yF yG (lc_ra q 0) (lc_ra q 1) (lc_ra q 2) (lc_ra q 3) w ct mk pR pS pE pD sS sB sE sD sK := by
  obtain ⟨kS, kC⟩ := lc_vt_S hv
  have hv' := hv
  obtain ⟨hr, -, hs, he, -, -, -⟩ := hv'
  have r2 := lc_G_r hG hr 2 (by omega)
  have r3 := lc_G_r hG hr 3 (by omega)
  have hvi : vp_in (nI r) 24 := vp_in_nI (by omega) (by omega)
  unfold wY_choose_97
  refine br_f (lc_m1 (by omega)) ⟨hvi, ?_⟩
  rw [nI_clamp (by omega)]
  refine lc_if (c := lc_ra q 2 r = -1) (lc_cd_e r2) h1 (fun z2 => ⟨hvi, ?_⟩)
  refine lc_if (c := lc_ra q 3 r = -1) (lc_cd_e r3) (fun z3 => ?_) (fun z3 => ?_)
  · refine nm_r (nI_1 s) ⟨e - s + 1, ?_⟩
    exact ly_ch146 hG h24 hn ht hct hr z2 z3 he (h2 z2 z3) (e - s) (s + 1) b (by omega) (Nat.le_refl _) rfl kS (by omega)
  · refine nm_r (nI_1 s) ⟨e - s + 1, ?_⟩
    obtain ⟨m1, m2, m3, m4⟩ := lc_m_ok hG hv
    obtain ⟨-, hv1⟩ := lc_kd_n (d := 0) (j := 1) hG hv z2
    obtain ⟨kS1, kC1⟩ := lc_vt_S hv1
    refine ly_ch253 (k := b) hG h24 hn ht hct hr z2 z3 he ?_ (e - s) (s + 1) b (by omega) (Nat.le_refl _) rfl kS (by omega)
    unfold wY_choose_358
    have hlt := hv1.2.2.1
    refine br_t (nI_pos' (by omega)) (nm_r (nI_1 _) ⟨e - (lc_m q w t r 2 s e b).1 + 1, ?_⟩)
    exact ly_ch376 hG h24 hn ht hct hr z2 z3 he (h3 z2 z3 _ _ rfl _ _ rfl) (e - (lc_m q w t r 2 s e b).1) ((lc_m q w t r 2 s e b).1 + 1) _ (by omega) (Nat.le_refl _) rfl kS1 (Nat.lt_trans kS1 kC1)
theorem ly_ch37 {post : SY → Prop} {x s e k : Nat} (hG : lc_G nt tm R q) (h24 : R ≤ 24) (hn : n ≤ 12) (ht : ∀ j, t j ≤ 1000000) (hct : lc_ct ct nt n t) (hx : x < 8) (hs : s < e) (he : e ≤ n)
    (hp : wY_choose_97 post (nI s) (nI e) (lN (lc_pk q w t R x s e k).2) (nI nt) (nI tm) (nI R) (nI n) yP yC yK yM yL (nI (lc_pk q w t R x s e k).1) yB yD yE yF yG (lc_ra q 0) (lc_ra q 1) (lc_ra q 2) (lc_ra q 3) w ct mk pR pS pE pD sS sB sE sD sK) :
    ∀ D i b, i + D = R → lc_f (lc_g q w t x s e) D i b = lc_pk q w t R x s e k → b < lc_S (lc_g q w t x s e) i R → b < 1000000 → wY_choose_37 post (nI x) (nI s) (nI e) (nI nt) (nI tm) (nI R) (nI n) yP yC yK yM yL yA yB yD yE yF yG (lc_ra q 0) (lc_ra q 1) (lc_ra q 2) (lc_ra q 3) w ct mk pR pS pE pD sS sB sE sD sK (D + 1) (lN b) (nI i) := by
  intro D
  induction D with
  | zero =>
    intro i b hi hf hb hb2
    rw [lc_S_0 (by omega)] at hb
    omega
  | succ D ih =>
    intro i b hi hf hb hb2
    have hr : i < R := by omega
    have h0 := (hG.2.2 i hr).1
    have h8 := hG.1
    have e0 : lc_ra q 0 i = nI (q i 0) := lc_cd_n (by omega)
    rw [wY_choose_37]
    refine br_f (nI_ge hr (by omega)) ⟨vp_in_nI (by omega) (by omega), ?_⟩
    rw [nI_clamp (by omega), e0]
    refine pk_eq (q i 0) x (fun z => ?_) (fun z => ?_)
    · refine ly_rs hG h24 hn ht hct hr hs he ?_
      have eg : lc_g q w t x s e i = lc_w q w t i 3 s e := if_pos z
      have hw := lc_w_le (q := q) (w := w) (t := t) (r := i) 3 s e
      refine lc_if (lc_lle (by omega) (by omega)) (fun y => ?_) (fun y => ?_)
      · have hnl : ¬ b < lc_g q w t x s e i := by omega
        rw [lc_f_n hnl] at hf
        have hb' := lc_S_sub hnl hr hb
        rw [eg] at hf hb'
        exact nm_r (lN_sub y) (nm_r (nI_1 i) (ih (i + 1) _ (by omega) hf hb' (by omega)))
      · have hl : b < lc_g q w t x s e i := by omega
        rw [lc_f_t hl] at hf
        rw [← hf] at hp
        exact hp
    · have eg : lc_g q w t x s e i = 0 := if_neg z
      have hnl : ¬ b < lc_g q w t x s e i := by omega
      rw [lc_f_n hnl] at hf
      have hb' := lc_S_sub hnl hr hb
      rw [eg, Nat.sub_zero] at hf hb'
      exact nm_r (nI_1 i) (ih (i + 1) b (by omega) hf hb' hb2)
theorem ly_choose {post : SY → Prop} {x s e k : Nat} (hG : lc_G nt tm R q) (h24 : R ≤ 24) (hn : n ≤ 12) (ht : ∀ j, t j ≤ 1000000) (hct : lc_ct ct nt n t) (hS : lc_sat q w R nt n t) (hv : lc_ve t nt n x s e k)
    (h1 : ∀ r b, (r, b) = lc_pk q w t R x s e k → q r 2 = 16 → post ((nI nt), (nI tm), (nI R), (nI n), yP, yC, yK, yM, yL, (nI r), (nI e), (nI e), (lN b), 0, 0, (lc_ra q 0), (lc_ra q 1), (lc_ra q 2), (lc_ra q 3), w, ct, mk, pR, pS, pE, pD, sS, sB, sE, sD, sK))
    (h2 : ∀ r b, (r, b) = lc_pk q w t R x s e k → ¬ q r 2 = 16 → q r 3 = 16 → post ((nI nt), (nI tm), (nI R), (nI n), yP, yC, yK, yM, yL, (nI r), (nI (lc_m q w t r 2 s e b).1), (nI e), (lN ((lc_m q w t r 2 s e b).2 / lc_w q w t r 2 (lc_m q w t r 2 s e b).1 e)), (lN ((lc_m q w t r 2 s e b).2 % lc_w q w t r 2 (lc_m q w t r 2 s e b).1 e)), 0, (lc_ra q 0), (lc_ra q 1), (lc_ra q 2), (lc_ra q 3), w, ct, mk, pR, pS, pE, pD, sS, sB, sE, sD, sK))
    (h3 : ∀ r b, (r, b) = lc_pk q w t R x s e k → ¬ q r 2 = 16 → ¬ q r 3 = 16 → ∀ m1 b1, (m1, b1) = lc_m q w t r 2 s e b → ∀ m2 b2, (m2, b2) = lc_m q w t r 1 m1 e (b1 % lc_w q w t r 2 m1 e) → post ((nI nt), (nI tm), (nI R), (nI n), yP, yC, yK, yM, yL, (nI r), (nI m1), (nI m2), (lN (b1 / lc_w q w t r 2 m1 e)), (lN (b2 / lc_w q w t r 1 m2 e)), (lN (b2 % lc_w q w t r 1 m2 e)), (lc_ra q 0), (lc_ra q 1), (lc_ra q 2), (lc_ra q 3), w, ct, mk, pR, pS, pE, pD, sS, sB, sE, sD, sK)) :
    wpY_choose post ((nI nt), (nI tm), (nI R), (nI n), yP, yC, yK, yM, yL, yA, yB, yD, yE, yF, yG, (lc_ra q 0), (lc_ra q 1), (lc_ra q 2), (lc_ra q 3), w, ct, mk, pR, pS, pE, pD, sS, sB, sE, sD, sK) (nI x) (nI s) (nI e) (lN k) := by
  unfold wpY_choose
  have h8 := hG.1
  obtain ⟨kS, kC⟩ := lc_ve_S hS hv
  obtain ⟨p1, p2⟩ := lc_pk_ok hG hS hv
  obtain ⟨v1, v2, v3, -, -⟩ := hv
  refine ⟨R + 1, ly_ch37 (k := k) hG h24 hn ht hct (by omega) v2 v3 ?_ R 0 k (by omega) rfl kS kC⟩
  exact ly_ch97 hG h24 hn ht hct p2 (h1 _ _ rfl) (h2 _ _ rfl) (h3 _ _ rfl)
end LYC
