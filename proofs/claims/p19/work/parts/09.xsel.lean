section LXE
variable {q : Nat → Nat → Nat} {w : Nat → Int32} {t : Nat → Nat} {nt tm R n : Nat} {rk : Nat → Nat}
variable {xP xC xK xM xL : Int32} {ul wy oR oS oE oD gR gP gS gE gK gD : Nat → Int32}
theorem lx_push {post : St2 → Prop} {l : Nat} {a b c d e f : Int32} (hl : l < 196) (h : post ((nI nt), (nI tm), (nI R), (nI n), xP, xC, xK, xM, (nI (l + 1)), (lc_rc q), w, ul, (lc_tr t), wy, oR, oS, oE, oD, (upd gR l a), (upd gP l b), (upd gS l c), (upd gE l d), (upd gK l e), (upd gD l f))) : wpX_pushTail post ((nI nt), (nI tm), (nI R), (nI n), xP, xC, xK, xM, (nI l), (lc_rc q), w, ul, (lc_tr t), wy, oR, oS, oE, oD, gR, gP, gS, gE, gK, gD) a b c d e f := by
  unfold wpX_pushTail
  have hi : vp_in (nI l) 196 := vp_in_nI hl (by omega)
  have hc : (nI l).toNatClampNeg = l := nI_clamp (by omega)
  refine ⟨hi, nm_r (by rw [hc]) ⟨hi, nm_r (by rw [hc]) ⟨hi, nm_r (by rw [hc]) ⟨hi, nm_r (by rw [hc]) ⟨hi, nm_r (by rw [hc]) ⟨hi, nm_r (by rw [hc]) (nm_r (nI_1 l) h)⟩⟩⟩⟩⟩⟩
theorem lx_on7 {post : St2 → Prop} {x s e d m l k : Nat} (hG : lc_G nt tm R q) (h24 : R ≤ 24) (ht : ∀ j, t j ≤ 1000000) (hx : x < 8) (hs : s < e) (he : e ≤ 12) (hm : m < 196) (hl : l < 196)
    (hp : ∀ wy', post ((nI nt), (nI tm), (nI R), (nI n), xP, xC, xK, (nI (m + 1)), (nI (l + 1)), (lc_rc q), w, ul, (lc_tr t), wy', (upd oR m (nI (lc_pk q w t R x s e k).1)), (upd oS m (nI s)), (upd oE m (nI e)), (upd oD m (nI d)), (upd gR l (nI (lc_pk q w t R x s e k).1)), (upd gP l (nI 1)), (upd gS l (nI s)), (upd gE l (nI e)), (upd gK l (nI (lc_pk q w t R x s e k).2)), (upd gD l (nI (d + 1))))) :
    ∀ D i b wy, i + D = R → lc_f (lc_g q w t x s e) D i b = lc_pk q w t R x s e k → b < lc_S (lc_g q w t x s e) i R → b < 1000000 → wX_openNode_7 post (nI x) (nI s) (nI e) (nI d) (D + 1) (nI b) (nI i) (nI nt) (nI tm) (nI R) (nI n) xP xC xK (nI m) (nI l) (lc_rc q) w ul (lc_tr t) wy oR oS oE oD gR gP gS gE gK gD := by
  intro D
  induction D with
  | zero =>
    intro i b wy hi hf hb hb2
    rw [lc_S_0 (by omega)] at hb
    omega
  | succ D ih =>
    intro i b wy hi hf hb hb2
    have hr : i < R := by omega
    have h0 := (hG.2.2 i hr).1
    have h8 := hG.1
    rw [wX_openNode_7]
    refine br_f (nI_ge hr (by omega)) ?_
    rw [lc_x4, nI_clamp (by omega), lc_rc_0, lc_cd_n (by omega)]
    refine ⟨vp_in_nI (by omega) (by omega), ?_⟩
    refine pk_eq (q i 0) x (fun z => ?_) (fun z => ?_)
    · refine lx_tail (j := 3) hG h24 ht hr (by omega) (by omega) he (fun wy' => ?_)
      have eg : lc_g q w t x s e i = lc_w q w t i 3 s e := if_pos z
      have hw := lc_w_le (q := q) (w := w) (t := t) (r := i) 3 s e
      refine pk_le (lc_w q w t i 3 s e) b (fun y => ?_) (fun y => ?_)
      · have hn : ¬ b < lc_g q w t x s e i := by omega
        rw [lc_f_n hn] at hf
        have hb' := lc_S_sub hn hr hb
        rw [eg] at hf hb'
        exact nm_r (pk_sub y) (nm_r (nI_1 i) (ih (i + 1) _ wy' (by omega) hf hb' (by omega)))
      · have hn : b < lc_g q w t x s e i := by omega
        rw [lc_f_t hn] at hf
        rw [← hf] at hp
        have hi : vp_in (nI m) 196 := vp_in_nI hm (by omega)
        have hc : (nI m).toNatClampNeg = m := nI_clamp (by omega)
        refine ⟨hi, nm_r (by rw [hc]) ⟨hi, nm_r (by rw [hc]) ⟨hi, nm_r (by rw [hc]) ⟨hi, nm_r (by rw [hc]) (nm_r (nI_1 m) ?_)⟩⟩⟩⟩
        rw [nI_1 d]
        exact lx_push hl (hp wy')
    · have eg : lc_g q w t x s e i = 0 := if_neg z
      have hn : ¬ b < lc_g q w t x s e i := by omega
      rw [lc_f_n hn] at hf
      have hb' := lc_S_sub hn hr hb
      rw [eg, Nat.sub_zero] at hf hb'
      exact nm_r (nI_1 i) (ih (i + 1) b wy (by omega) hf hb' hb2)
theorem lx_open {post : St2 → Prop} {x s e d m l k : Nat} (hG : lc_G nt tm R q) (h24 : R ≤ 24) (hn : n ≤ 12) (ht : ∀ j, t j ≤ 1000000) (hS : lc_sat q w R nt n t) (hv : lc_ve t nt n x s e k) (hm : m < 196) (hl : l < 196)
    (hp : ∀ wy', post ((nI nt), (nI tm), (nI R), (nI n), xP, xC, xK, (nI (m + 1)), (nI (l + 1)), (lc_rc q), w, ul, (lc_tr t), wy', (upd oR m (nI (lc_pk q w t R x s e k).1)), (upd oS m (nI s)), (upd oE m (nI e)), (upd oD m (nI d)), (upd gR l (nI (lc_pk q w t R x s e k).1)), (upd gP l (nI 1)), (upd gS l (nI s)), (upd gE l (nI e)), (upd gK l (nI (lc_pk q w t R x s e k).2)), (upd gD l (nI (d + 1))))) : wpX_openNode post ((nI nt), (nI tm), (nI R), (nI n), xP, xC, xK, (nI m), (nI l), (lc_rc q), w, ul, (lc_tr t), wy, oR, oS, oE, oD, gR, gP, gS, gE, gK, gD) (nI x) (nI s) (nI e) (nI k) (nI d) := by
  unfold wpX_openNode
  have h8 := hG.1
  obtain ⟨h1, h2⟩ := lc_ve_S hS hv
  obtain ⟨v1, v2, v3, -, -⟩ := hv
  exact ⟨R + 1, lx_on7 hG h24 ht (by omega) v2 (by omega) hm hl hp R 0 k wy (by omega) rfl h1 h2⟩
theorem lx_ts90 {post : St2 → Prop} {r j s e d k m l c : Nat} (hG : lc_G nt tm R q) (h24 : R ≤ 24) (ht : ∀ j, t j ≤ 1000000) (hr : r < R) (hj : j ≤ 2) (he : e ≤ 12) (hl : l < 196) (hc : c = q r (3 - j)) (hc16 : c < 16)
    (hA : (lc_m q w t r j s e k).1 = e → ∀ wy', wX_takeSymbol_172 post (nI s) (nI d) (nI (lc_m q w t r j s e k).2) (nI c) (nI (lc_m q w t r j s e k).1) (nI (lc_w q w t r j (lc_m q w t r j s e k).1 e)) (nI nt) (nI tm) (nI R) (nI n) xP xC xK (nI m) (nI l) (lc_rc q) w ul (lc_tr t) wy' oR oS oE oD gR gP gS gE gK gD)
    (hB : (lc_m q w t r j s e k).1 < e → ∀ wy', wX_takeSymbol_172 post (nI s) (nI d) (nI (lc_m q w t r j s e k).2) (nI c) (nI (lc_m q w t r j s e k).1) (nI (lc_w q w t r j (lc_m q w t r j s e k).1 e)) (nI nt) (nI tm) (nI R) (nI n) xP xC xK (nI m) (nI (l + 1)) (lc_rc q) w ul (lc_tr t) wy' oR oS oE oD (upd gR l (nI r)) (upd gP l (nI (4 - j))) (upd gS l (nI (lc_m q w t r j s e k).1)) (upd gE l (nI e)) (upd gK l (nI ((lc_m q w t r j s e k).2 % lc_w q w t r j (lc_m q w t r j s e k).1 e))) (upd gD l (nI d))) :
    ∀ D i b wy, i + D = e + 1 → s + 1 ≤ i → lc_f (lc_mf q w t r j s e) D i b = lc_m q w t r j s e k → b < lc_S (lc_mf q w t r j s e) i (e + 1) → b < 1000000 → wX_takeSymbol_90 post (nI r) (nI (3 - j)) (nI s) (nI e) (nI d) (nI c) (D + 1) (nI b) (nI i) (nI nt) (nI tm) (nI R) (nI n) xP xC xK (nI m) (nI l) (lc_rc q) w ul (lc_tr t) wy oR oS oE oD gR gP gS gE gK gD := by
  intro D
  induction D with
  | zero =>
    intro i b wy hi hsi hf hb hb2
    rw [lc_S_0 (by omega)] at hb
    omega
  | succ D ih =>
    intro i b wy hi hsi hf hb hb2
    rw [wX_takeSymbol_90]
    refine br_f (nI_nlt (by omega) (by omega)) ?_
    refine lx_sym hc16 (by omega) (by omega) ?_
    have hy := lc_y_le (w := w) ht c s i
    have hw := lc_w_le (q := q) (w := w) (t := t) (r := r) j i e
    have hmf : lc_mf q w t r j s e i = lc_y w t c s i * lc_w q w t r j i e := by rw [hc]; rfl
    have hN : ∀ wy', ¬ b < lc_mf q w t r j s e i → wX_takeSymbol_90 post (nI r) (nI (3 - j)) (nI s) (nI e) (nI d) (nI c) (D + 1) (nI (b - lc_mf q w t r j s e i)) (nI (i + 1)) (nI nt) (nI tm) (nI R) (nI n) xP xC xK (nI m) (nI l) (lc_rc q) w ul (lc_tr t) wy' oR oS oE oD gR gP gS gE gK gD := by
      intro wy' hn
      rw [lc_f_n hn] at hf
      exact ih (i + 1) _ wy' (by omega) (by omega) hf (lc_S_sub hn (by omega) hb) (by omega)
    refine lc_if (lc_eq0 (by omega)) (fun z => ?_) (fun z => ?_)
    · rw [z, Nat.zero_mul] at hmf
      have H := hN wy (by omega)
      rw [hmf, Nat.sub_zero] at H
      rw [z]
      unfold wX_takeSymbol_129
      refine br_t (by decide) ?_
      unfold wX_takeSymbol_196
      refine nm_r (e' := nI b) ?_ (nm_r (nI_1 i) H)
      rw [show nI 0 * 0 = nI 0 from rfl]
      exact pk_sub (Nat.zero_le b)
    · have e1 : nI (3 - j) + 1 = nI (4 - j) := by rw [nI_1]; congr 1; omega
      rw [e1]
      refine lx_tail hG h24 ht hr (by omega) (by omega) he (fun wy' => ?_)
      unfold wX_takeSymbol_129
      refine lc_if (lc_0le (by omega)) (fun z2 => ?_) (fun z2 => ?_)
      · rw [z2, Nat.mul_zero] at hmf
        have H := hN wy' (by omega)
        rw [hmf, Nat.sub_zero] at H
        rw [z2]
        unfold wX_takeSymbol_196
        refine nm_r (e' := nI b) ?_ (nm_r (nI_1 i) H)
        rw [pk_mul, Nat.mul_zero]
        exact pk_sub (Nat.zero_le b)
      · have hw0 : 0 < lc_w q w t r j i e := by omega
        have hne : ¬ nI (lc_w q w t r j i e) = 0 := nI_ne0 hw0 (by omega)
        have hdl : b / lc_w q w t r j i e ≤ b := Nat.div_le_self _ _
        refine ⟨hne, ?_⟩
        rw [pk_div (by omega) hw0 (by omega)]
        refine pk_le (lc_y w t c s i) (b / lc_w q w t r j i e) (fun y => ?_) (fun y => ?_)
        · have y' : lc_y w t c s i * lc_w q w t r j i e ≤ b := (Nat.le_div_iff_mul_le hw0).mp y
          have H := hN wy' (by omega)
          rw [hmf] at H
          unfold wX_takeSymbol_196
          refine nm_r (e' := nI (b - lc_y w t c s i * lc_w q w t r j i e)) ?_ (nm_r (nI_1 i) H)
          rw [pk_mul, pk_sub y']
        · have y' : b < lc_y w t c s i * lc_w q w t r j i e := (Nat.div_lt_iff_lt_mul hw0).mp y
          have hb3 : b < lc_mf q w t r j s e i := by omega
          rw [lc_f_t hb3] at hf
          rw [← hf] at hA hB
          refine pk_le e i (fun z3 => ?_) (fun z3 => ⟨hne, ?_⟩)
          · exact hA (show i = e by omega) wy'
          · have e2 : nI b - nI (b / lc_w q w t r j i e) * nI (lc_w q w t r j i e) = nI (b % lc_w q w t r j i e) := by
              rw [← pk_div (by omega) hw0 (by omega)]
              exact pk_rem (by omega) hw0 (by omega)
            rw [e1, e2]
            exact lx_push hl (hB z3 wy')
theorem lx_ts172 {post : St2 → Prop} {s d b c i rest m l : Nat} (hG : lc_G nt tm R q) (h24 : R ≤ 24) (hn : n ≤ 12) (ht : ∀ j, t j ≤ 1000000) (hS : lc_sat q w R nt n t) (hc16 : c < 16) (hb : b < 1000000) (hr0 : 0 < rest) (hr : rest < 1000001) (hv : c < 8 → lc_ve t nt n c s i (b / rest)) (hm : m < 196) (hl : l < 196)
    (h1 : ¬ c < 8 → post ((nI nt), (nI tm), (nI R), (nI n), xP, xC, xK, (nI m), (nI l), (lc_rc q), w, ul, (lc_tr t), wy, oR, oS, oE, oD, gR, gP, gS, gE, gK, gD))
    (h2 : c < 8 → ∀ wy', post ((nI nt), (nI tm), (nI R), (nI n), xP, xC, xK, (nI (m + 1)), (nI (l + 1)), (lc_rc q), w, ul, (lc_tr t), wy', (upd oR m (nI (lc_pk q w t R c s i (b / rest)).1)), (upd oS m (nI s)), (upd oE m (nI i)), (upd oD m (nI d)), (upd gR l (nI (lc_pk q w t R c s i (b / rest)).1)), (upd gP l (nI 1)), (upd gS l (nI s)), (upd gE l (nI i)), (upd gK l (nI (lc_pk q w t R c s i (b / rest)).2)), (upd gD l (nI (d + 1))))) :
    wX_takeSymbol_172 post (nI s) (nI d) (nI b) (nI c) (nI i) (nI rest) (nI nt) (nI tm) (nI R) (nI n) xP xC xK (nI m) (nI l) (lc_rc q) w ul (lc_tr t) wy oR oS oE oD gR gP gS gE gK gD := by
  unfold wX_takeSymbol_172
  refine pk_le 8 c (fun z => h1 (by omega)) (fun z => ⟨nI_ne0 hr0 (by omega), ?_⟩)
  rw [pk_div (by omega) hr0 (by omega)]
  exact lx_open hG h24 hn ht hS (hv z) hm hl (h2 z)
/-- one symbol taken, over the lists -/
theorem lx_take {post : St2 → Prop} {r j s e k d : Nat} {tl : List lc_L} {out : List lc_N} (hG : lc_G nt tm R q) (h24 : R ≤ 24) (hn : n ≤ 12) (ht : ∀ j, t j ≤ 1000000) (hS : lc_sat q w R nt n t) (hv : lc_vt q w t R n r j s e k) (hm : out.length < 196) (hl : tl.length + 1 < 196) (hsk : lc_sk gR gP gS gE gK gD ((r, j, s, e, k, d) :: tl)) (hnd : lc_nd oR oS oE oD out)
    (hp : ∀ wy' oR' oS' oE' oD' gR' gP' gS' gE' gK' gD', lc_nd oR' oS' oE' oD' (lc_o2 q w t R r j s e k d out) → lc_sk gR' gP' gS' gE' gK' gD' (lc_t2 q w t R r j s e k d tl) → post ((nI nt), (nI tm), (nI R), (nI n), xP, xC, xK, (nI (lc_o2 q w t R r j s e k d out).length), (nI (lc_t2 q w t R r j s e k d tl).length), (lc_rc q), w, ul, (lc_tr t), wy', oR', oS', oE', oD', gR', gP', gS', gE', gK', gD')) :
    wpX_takeSymbol post ((nI nt), (nI tm), (nI R), (nI n), xP, xC, xK, (nI out.length), (nI (tl.length + 1)), (lc_rc q), w, ul, (lc_tr t), wy, oR, oS, oE, oD, gR, gP, gS, gE, gK, gD) := by
  obtain ⟨m1, m2, m3, m4⟩ := lc_m_ok hG hv
  have hp0 := lc_mp (Nat.lt_of_le_of_lt (Nat.zero_le _) m3)
  obtain ⟨kS, kC⟩ := lc_vt_S hv
  have hv' := hv
  obtain ⟨hr, hj, hse, hen, h16, -, -⟩ := hv'
  obtain ⟨⟨g1, g2, g3, g4, g5, g6⟩, hsk'⟩ := hsk
  have hq16 := lc_G_r hG hr (3 - j) (by omega)
  have hi : vp_in (nI tl.length) 196 := vp_in_nI (by omega) (by omega)
  have hc : (nI tl.length).toNatClampNeg = tl.length := nI_clamp (by omega)
  have hw := lc_w_le (q := q) (w := w) (t := t) (r := r) j (lc_m q w t r j s e k).1 e
  have ei : nI r * 4 + nI (3 - j) = nI (r * 4 + (3 - j)) := by rw [lc_x4, nI_add]
  have hvi : vp_in (nI r * 4 + nI (3 - j)) 96 := by rw [ei]; exact vp_in_nI (by omega) (by omega)
  unfold wpX_takeSymbol
  rw [← hc] at g1 g2 g3 g4 g5 g6
  refine nm_r (nI_pred tl.length) ⟨hi, nm_r g1 ⟨hi, nm_r g2 ⟨hi, nm_r g3 ⟨hi, nm_r g4 ⟨hi, nm_r g6 ⟨hi, nm_r g5 ⟨hvi, nm_r (e' := nI (q r (3 - j))) (by rw [ei, nI_clamp (by omega), lc_rc_p (by omega), lc_cd_n h16]) (nm_r (nI_1 s) ⟨e - s + 1, ?_⟩)⟩⟩⟩⟩⟩⟩⟩
  refine lx_ts90 (c := q r (3 - j)) hG h24 ht hr hj (by omega) (by omega) rfl (by omega) (fun em wy' => ?_) (fun em wy' => ?_) (e - s) (s + 1) k wy (by omega) (Nat.le_refl _) rfl kS (by omega)
  · refine lx_ts172 hG h24 hn ht hS (by omega) (by omega) hp0.2 (by omega) (fun h8 => lc_m_ch hG hv m1 m2 m3 m4 h8) hm (by omega) (fun h8 => ?_) (fun h8 wy2 => ?_)
    · have e1 : lc_o2 q w t R r j s e k d out = out := if_neg h8
      have e2 : lc_t2 q w t R r j s e k d tl = tl := by unfold lc_t2 lc_t1; rw [if_neg h8, if_neg (by omega)]
      rw [e1, e2] at hp
      exact hp _ _ _ _ _ _ _ _ _ _ _ hnd hsk'
    · have e1 : lc_o2 q w t R r j s e k d out = out ++ [((lc_c1 q w t R r j s e k).1, s, (lc_m q w t r j s e k).1, d)] := if_pos h8
      have e2 : lc_t2 q w t R r j s e k d tl = ((lc_c1 q w t R r j s e k).1, 2, s, (lc_m q w t r j s e k).1, (lc_c1 q w t R r j s e k).2, d + 1) :: tl := by unfold lc_t2 lc_t1; rw [if_pos h8, if_neg (by omega)]
      rw [e1, e2] at hp
      have H := hp wy2 _ _ _ _ _ _ _ _ _ _ (lc_nd_a hnd) (lc_sk_p hsk')
      rw [List.length_append] at H
      exact H
  · refine lx_ts172 hG h24 hn ht hS (by omega) (by omega) hp0.2 (by omega) (fun h8 => lc_m_ch hG hv m1 m2 m3 m4 h8) hm (by omega) (fun h8 => ?_) (fun h8 wy2 => ?_)
    · obtain ⟨j', rfl, hv2⟩ := lc_m_nx hG hv m1 em m3 m4
      have e1 : lc_o2 q w t R r (j' + 1) s e k d out = out := if_neg h8
      have e2 : lc_t2 q w t R r (j' + 1) s e k d tl = (r, j', (lc_m q w t r (j' + 1) s e k).1, e, (lc_m q w t r (j' + 1) s e k).2 % lc_w q w t r (j' + 1) (lc_m q w t r (j' + 1) s e k).1 e, d) :: tl := by unfold lc_t2 lc_t1; rw [if_neg h8, if_pos em]; rfl
      rw [e1, e2] at hp
      have e3 : 4 - (j' + 1) = 3 - j' := by omega
      rw [e3]
      exact hp _ _ _ _ _ _ _ _ _ _ _ hnd (lc_sk_p hsk')
    · obtain ⟨j', rfl, hv2⟩ := lc_m_nx hG hv m1 em m3 m4
      have e1 : lc_o2 q w t R r (j' + 1) s e k d out = out ++ [((lc_c1 q w t R r (j' + 1) s e k).1, s, (lc_m q w t r (j' + 1) s e k).1, d)] := if_pos h8
      have e2 : lc_t2 q w t R r (j' + 1) s e k d tl = ((lc_c1 q w t R r (j' + 1) s e k).1, 2, s, (lc_m q w t r (j' + 1) s e k).1, (lc_c1 q w t R r (j' + 1) s e k).2, d + 1) :: (r, j', (lc_m q w t r (j' + 1) s e k).1, e, (lc_m q w t r (j' + 1) s e k).2 % lc_w q w t r (j' + 1) (lc_m q w t r (j' + 1) s e k).1 e, d) :: tl := by unfold lc_t2 lc_t1; rw [if_pos h8, if_pos em]; rfl
      rw [e1, e2] at hp
      have e3 : 4 - (j' + 1) = 3 - j' := by omega
      rw [e3]
      have H := hp wy2 _ _ _ _ _ _ _ _ _ _ (lc_nd_a hnd) (lc_sk_p (lc_sk_p hsk'))
      rw [List.length_append] at H
      exact H
theorem lx_se58 {post : Int32 → St2 → Prop} {rank : Int32} {Lf : List lc_N} (hG : lc_G nt tm R q) (h24 : R ≤ 24) (hn : n ≤ 12) (ht : ∀ j, t j ≤ 1000000) (hS : lc_sat q w R nt n t) (hA : lc_A R q rk) (hk : ∀ x, x < nt → rk x < nt)
    (hp : ∀ xL' wy' oR' oS' oE' oD' gR' gP' gS' gE' gK' gD', lc_nd oR' oS' oE' oD' Lf → Lf.length ≤ 196 → post (nI Lf.length) ((nI nt), (nI tm), (nI R), (nI n), xP, xC, rank, (nI Lf.length), xL', (lc_rc q), w, ul, (lc_tr t), wy', oR', oS', oE', oD', gR', gP', gS', gE', gK', gD')) :
    ∀ N part f (out : List lc_N) (tl : List lc_L) wy oR oS oE oD gR gP gS gE gK gD, lc_tv q w t R n tl → lc_nd oR oS oE oD out → lc_sk gR gP gS gE gK gD tl → part + lc_mt rk q tl ≤ 196 → 1 ≤ part → out.length ≤ part → lc_mt rk q tl ≤ f → lc_mt rk q tl < N → out ++ lc_run q w t R f (lc_ex q w t tl) = Lf → wX_selectTree_58 post rank N (nI part) (nI nt) (nI tm) (nI R) (nI n) xP xC xK (nI out.length) (nI tl.length) (lc_rc q) w ul (lc_tr t) wy oR oS oE oD gR gP gS gE gK gD := by
  intro N
  induction N with
  | zero => intro part f out tl wy oR oS oE oD gR gP gS gE gK gD _ _ _ _ _ _ _ h; omega
  | succ N ih =>
    intro part f out tl wy oR oS oE oD gR gP gS gE gK gD htv hnd hsk hpart hp1 hout hf hN hL
    cases tl with
    | nil =>
      have e1 : lc_run q w t R f (lc_ex q w t []) = [] := lc_run_n
      rw [e1, List.append_nil] at hL
      subst hL
      have hpt : part ≤ 196 := Nat.le_trans (Nat.le_add_right _ _) hpart
      have H := hp (nI 0) wy oR oS oE oD gR gP gS gE gK gD hnd (by omega)
      rw [wX_selectTree_58]
      refine br_c (fun _ => H) (fun _ => br_t ?_ H)
      show nI 0 ≤ 0
      decide
    | cons a tl =>
      obtain ⟨r, j, s, e, k, d⟩ := a
      obtain ⟨o1, o2⟩ := lc_t2_ok (d := d) (tl := tl) hG hA hk hS htv
      have hlen := lc_mt_len (rk := rk) ((r, j, s, e, k, d) :: tl) htv
      have hlen' : tl.length + 1 ≤ lc_mt rk q ((r, j, s, e, k, d) :: tl) := hlen
      rw [wX_selectTree_58]
      refine br_f (nI_ge (b := 196) (by omega) (by decide)) (br_f ?_ ?_)
      · show ¬ nI (tl.length + 1) ≤ 0
        exact nI_nle (by omega) (by omega)
      · obtain ⟨f', hf', hrun⟩ := lc_t2_run (f := f) (d := d) (tl := tl) (out := out) hG htv.1 (by omega)
        rw [hrun] at hL
        refine lx_take hG h24 hn ht hS htv.1 (by omega) (by omega) hsk hnd (fun wy' oR' oS' oE' oD' gR' gP' gS' gE' gK' gD' hnd' hsk' => nm_r (nI_1 part) ?_)
        refine ih (part + 1) f' _ _ wy' oR' oS' oE' oD' gR' gP' gS' gE' gK' gD' o1 hnd' hsk' (by omega) (by omega) ?_ (by omega) (by omega) hL
        unfold lc_o2
        split
        · rw [List.length_append]
          exact Nat.add_le_add_right hout 1
        · omega
/-- the nodes of the tree of rank k -/
def lc_tree (q : Nat → Nat → Nat) (w : Nat → Int32) (t : Nat → Nat) (R n k : Nat) : List lc_N := lc_run q w t R 256 [(0, 0, n, k, 0)]
theorem lc_root {c k : Nat} (h1 : 1 ≤ nt) (hc : c = lc_rt t n) (hC : c < 1000000) (hk : k < c) : lc_ve t nt n 0 0 n k := by
  unfold lc_rt at hc
  by_cases z : n = 0
  · rw [if_pos z] at hc; omega
  · rw [if_neg z] at hc
    exact ⟨by omega, by omega, Nat.le_refl n, by omega, by omega⟩
theorem lx_select {post : Int32 → St2 → Prop} {c k : Nat} (hG : lc_G nt tm R q) (h24 : R ≤ 24) (h1 : 1 ≤ nt) (hn : n ≤ 12) (ht : ∀ j, t j ≤ 1000000) (hS : lc_sat q w R nt n t) (hA : lc_A R q rk) (hk : ∀ x, x < nt → rk x < nt) (hc : c = lc_rt t n) (hC : c < 1000000) (hkc : k < c)
    (hp : ∀ xL' wy' oR' oS' oE' oD' gR' gP' gS' gE' gK' gD', lc_nd oR' oS' oE' oD' (lc_tree q w t R n k) → (lc_tree q w t R n k).length ≤ 196 → post (nI (lc_tree q w t R n k).length) ((nI nt), (nI tm), (nI R), (nI n), 1, (nI c), (nI k), (nI (lc_tree q w t R n k).length), xL', (lc_rc q), w, ul, (lc_tr t), wy', oR', oS', oE', oD', gR', gP', gS', gE', gK', gD')) :
    wpX_selectTree post ((nI nt), (nI tm), (nI R), (nI n), 1, (nI c), xK, xM, xL, (lc_rc q), w, ul, (lc_tr t), wy, oR, oS, oE, oD, gR, gP, gS, gE, gK, gD) (nI k) := by
  have hv := lc_root h1 hc hC hkc
  have hv' := hv
  obtain ⟨v1, v2, v3, -, -⟩ := hv'
  obtain ⟨p1, p2⟩ := lc_pk_ok hG hS hv
  have hk0 := hk 0 h1
  have h8 := hG.1
  unfold wpX_selectTree
  refine br_f (by decide) (br_f (nI_ge (b := 1000000) hC (by decide)) (br_f (nI_pos (by omega)) (br_t (nI_lt hkc (by omega)) ?_)))
  refine lx_open (x := 0) (s := 0) (m := 0) (l := 0) (d := 0) hG h24 hn ht hS hv (by omega) (by omega) (fun wy' => ⟨196, ?_⟩)
  have hB : lc_mt rk q [((lc_pk q w t R 0 0 n k).1, 2, 0, n, (lc_pk q w t R 0 0 n k).2, 1)] = 17 * (n - 0) - 16 + rk 0 := by
    rw [lc_mt_c, lc_B_2, p1]; rfl
  refine lx_se58 (Lf := lc_tree q w t R n k) (rk := rk) hG h24 hn ht hS hA hk hp 196 1 255 [((lc_pk q w t R 0 0 n k).1, 0, n, 0)] [((lc_pk q w t R 0 0 n k).1, 2, 0, n, (lc_pk q w t R 0 0 n k).2, 1)] wy' _ _ _ _ _ _ _ _ _ _ ⟨p2, True.intro⟩ (lc_nd_a lc_nd_0) (lc_sk_p (gR := gR) (gP := gP) (gS := gS) (gE := gE) (gK := gK) (gD := gD) (l := []) (r := (lc_pk q w t R 0 0 n k).1) (j := 2) (s := 0) (e := n) (k := (lc_pk q w t R 0 0 n k).2) (d := 1) True.intro) ?_ (Nat.le_refl 1) (Nat.le_refl 1) ?_ ?_ rfl
  · rw [hB]; omega
  · rw [hB]; omega
  · rw [hB]; omega
end LXE
