section LPB
variable {q : Nat → Nat → Nat} {w : Nat → Int32} {t tb : Nat → Nat} {nt tm R n : Nat} {rk : Nat → Nat}
/-! nodes are sound -/
def lc_nv (R n : Nat) (v : lc_N) : Prop := v.1 < R ∧ v.2.1 < v.2.2.1 ∧ v.2.2.1 ≤ n ∧ v.2.2.2 < 256
theorem lc_mu_m {y : lc_E} : ∀ {l : List lc_E}, y ∈ l → lc_mu rk [y] ≤ lc_mu rk l := by
  intro l
  induction l with
  | nil => intro h; cases h
  | cons a l ih =>
    intro h
    obtain ⟨x, s, e, k, d⟩ := a
    rcases List.mem_cons.mp h with rfl | h
    · rw [lc_mu_c, lc_mu_c]
      show _ + 0 ≤ _
      omega
    · have := ih h
      show lc_mu rk [y] ≤ 17 * (e - s) - 15 + rk x + lc_mu rk l
      omega
theorem lc_run_v (hG : lc_G nt tm R q) (hA : lc_A R q rk) (hk : ∀ x, x < nt → rk x < nt) (hS : lc_sat q w R nt n t) : ∀ f st, lc_ev t nt n st → (∀ y ∈ st, y.2.2.2.2 + lc_mu rk [y] ≤ 256) → ∀ v ∈ lc_run q w t R f st, lc_nv R n v := by
  intro f
  induction f with
  | zero => intro st _ _ v hv; cases hv
  | succ f ih =>
    intro st h hd v hv
    cases st with
    | nil => cases hv
    | cons a l =>
      obtain ⟨x, s, e, k, d⟩ := a
      obtain ⟨o1, -⟩ := lc_en_ok hG hA hk hS h
      obtain ⟨o1', o2'⟩ := lc_en_ok (l := []) hG hA hk hS ⟨h.1, True.intro⟩ (d := d)
      obtain ⟨p1, p2⟩ := lc_pk_ok hG hS h.1
      have hda := hd _ List.mem_cons_self
      have hda' : d + lc_mu rk [(x, s, e, k, d)] ≤ 256 := hda
      have h2 := lc_mu_2 (rk := rk) (l := []) (d := d) ⟨h.1, True.intro⟩
      rw [lc_run_s] at hv
      rcases List.mem_cons.mp hv with rfl | hv
      · exact ⟨p2.1, h.1.2.1, h.1.2.2.1, show d < 256 by omega⟩
      · refine ih _ o1 ?_ v hv
        intro y hy
        rcases List.mem_append.mp hy with h1 | h1
        · rw [lc_kd_d _ _ _ y h1]
          rw [List.append_nil] at o2'
          have := lc_mu_m (rk := rk) h1
          omega
        · exact hd y (List.mem_cons_of_mem _ h1)
/-- the first node made is no deeper than the stack -/
theorem lc_run_h {f δ : Nat} : ∀ {st : List lc_E}, (∀ y ∈ st, y.2.2.2.2 ≤ δ) → lc_run q w t R f st = [] ∨ ∃ v l, lc_run q w t R f st = v :: l ∧ v.2.2.2 ≤ δ := by
  intro st h
  cases f with
  | zero => exact Or.inl rfl
  | succ f =>
    cases st with
    | nil => exact Or.inl rfl
    | cons a l =>
      obtain ⟨x, s, e, k, d⟩ := a
      exact Or.inr ⟨_, _, lc_run_s, h _ List.mem_cons_self⟩
theorem lc_dr0 {L : List lc_N} {i : Nat} {v : lc_N} {l : List lc_N} (h : L.drop i = v :: l) : L[i]? = some v ∧ i < L.length ∧ L.drop (i + 1) = l := by
  have e : L[i]? = some v := by
    have := List.getElem?_drop (xs := L) (i := i) (j := 0)
    rw [h, Nat.add_zero] at this
    rw [← this]; rfl
  refine ⟨e, ?_, ?_⟩
  · exact (List.getElem?_eq_some_iff.mp e).1
  · rw [← List.drop_drop, h]; rfl
theorem lc_drn {L : List lc_N} {i : Nat} (h : L.drop i = []) : L.length ≤ i := List.drop_eq_nil_iff.mp h
theorem lc_mem {L : List lc_N} {i : Nat} {v : lc_N} (h : L[i]? = some v) : v ∈ L := List.mem_of_getElem? h
variable {xP xC xK xM xL : Int32} {ul wy oR oS oE oD gR gP gS gE gK gD : Nat → Int32}
theorem lx_isNode {M : Nat} {post : Int32 → Prop} {x : Int32} (hM : M ≤ 196) (hf : (¬ x < 0 → ¬ x < nI M) → post 0) (ht : ∀ j, j < M → x = nI j → post 1) : wpX_isNode post ((nI nt), (nI tm), (nI R), (nI n), xP, xC, xK, (nI M), xL, (lc_rc q), w, ul, (lc_tr t), wy, oR, oS, oE, oD, gR, gP, gS, gE, gK, gD) x := by
  unfold wpX_isNode
  refine br_c (fun h => hf (fun z => absurd h z)) (fun h => br_c (fun h' => hf (fun _ => Int32.not_lt.mpr h')) (fun h' => ?_))
  obtain ⟨j, hj, rfl⟩ := nI_of h
  exact ht j ((nI_ltI hj (by omega)).mp (Int32.not_le.mp h')) rfl
theorem lz_nR {L : List lc_N} {i : Nat} {v : lc_N} {post : Int32 → Prop} (hM : L.length ≤ 196) (hnd : lc_nd oR oS oE oD L) (hv : L[i]? = some v) (h : post (nI v.1)) : wpX_nodeRule post ((nI nt), (nI tm), (nI R), (nI n), xP, xC, xK, (nI L.length), xL, (lc_rc q), w, ul, (lc_tr t), wy, oR, oS, oE, oD, gR, gP, gS, gE, gK, gD) (nI i) := by
  unfold wpX_nodeRule
  have hi : i < L.length := (List.getElem?_eq_some_iff.mp hv).1
  refine lx_isNode hM (fun z => ?_) (fun j hj e => br_f (by decide) ⟨vp_in_nI (by omega) (by omega), ?_⟩)
  · exact absurd (nI_lt hi (by omega)) (z (nI_pos (by omega)))
  · rw [nI_clamp (by omega), (hnd i v hv).1]
    exact h
theorem lz_nS {L : List lc_N} {i : Nat} {v : lc_N} {post : Int32 → Prop} (hM : L.length ≤ 196) (hnd : lc_nd oR oS oE oD L) (hv : L[i]? = some v) (h : post (nI v.2.1)) : wpX_nodeStart post ((nI nt), (nI tm), (nI R), (nI n), xP, xC, xK, (nI L.length), xL, (lc_rc q), w, ul, (lc_tr t), wy, oR, oS, oE, oD, gR, gP, gS, gE, gK, gD) (nI i) := by
  unfold wpX_nodeStart
  have hi : i < L.length := (List.getElem?_eq_some_iff.mp hv).1
  refine lx_isNode hM (fun z => ?_) (fun j hj e => br_f (by decide) ⟨vp_in_nI (by omega) (by omega), ?_⟩)
  · exact absurd (nI_lt hi (by omega)) (z (nI_pos (by omega)))
  · rw [nI_clamp (by omega), (hnd i v hv).2.1]
    exact h
theorem lz_nE {L : List lc_N} {i : Nat} {v : lc_N} {post : Int32 → Prop} (hM : L.length ≤ 196) (hnd : lc_nd oR oS oE oD L) (hv : L[i]? = some v) (h : post (nI v.2.2.1)) : wpX_nodeEnd post ((nI nt), (nI tm), (nI R), (nI n), xP, xC, xK, (nI L.length), xL, (lc_rc q), w, ul, (lc_tr t), wy, oR, oS, oE, oD, gR, gP, gS, gE, gK, gD) (nI i) := by
  unfold wpX_nodeEnd
  have hi : i < L.length := (List.getElem?_eq_some_iff.mp hv).1
  refine lx_isNode hM (fun z => ?_) (fun j hj e => br_f (by decide) ⟨vp_in_nI (by omega) (by omega), ?_⟩)
  · exact absurd (nI_lt hi (by omega)) (z (nI_pos (by omega)))
  · rw [nI_clamp (by omega), (hnd i v hv).2.2.1]
    exact h
theorem lz_nD {L : List lc_N} {i : Nat} {v : lc_N} {post : Int32 → Prop} (hM : L.length ≤ 196) (hnd : lc_nd oR oS oE oD L) (hv : L[i]? = some v) (h : post (nI v.2.2.2)) : wpX_nodeDepth post ((nI nt), (nI tm), (nI R), (nI n), xP, xC, xK, (nI L.length), xL, (lc_rc q), w, ul, (lc_tr t), wy, oR, oS, oE, oD, gR, gP, gS, gE, gK, gD) (nI i) := by
  unfold wpX_nodeDepth
  have hi : i < L.length := (List.getElem?_eq_some_iff.mp hv).1
  refine lx_isNode hM (fun z => ?_) (fun j hj e => br_f (by decide) ⟨vp_in_nI (by omega) (by omega), ?_⟩)
  · exact absurd (nI_lt hi (by omega)) (z (nI_pos (by omega)))
  · rw [nI_clamp (by omega), (hnd i v hv).2.2.2]
    exact h
theorem lz_nR0 {M : Nat} {post : Int32 → Prop} (hM : M ≤ 196) (h : post (-1)) : wpX_nodeRule post ((nI nt), (nI tm), (nI R), (nI n), xP, xC, xK, (nI M), xL, (lc_rc q), w, ul, (lc_tr t), wy, oR, oS, oE, oD, gR, gP, gS, gE, gK, gD) (nI M) := by
  unfold wpX_nodeRule
  refine lx_isNode hM (fun _ => br_t rfl h) (fun j hj e => ?_)
  have := (nI_eq (by omega) (by omega)).mp e
  omega
theorem lz_sym {post : Int32 → Prop} {r p : Nat} (h24 : R ≤ 24) (hr : r < R) (hp : p ≤ 3) (h : post (lc_cd (q r p))) : wpX_ruleSymbol post ((nI nt), (nI tm), (nI R), (nI n), xP, xC, xK, xM, xL, (lc_rc q), w, ul, (lc_tr t), wy, oR, oS, oE, oD, gR, gP, gS, gE, gK, gD) (nI r) (nI p) := by
  unfold wpX_ruleSymbol
  have ei : nI r * 4 + nI p = nI (r * 4 + p) := by rw [lc_x4, nI_add]
  refine br_f (nI_pos (by omega)) (br_f (nI_ge hr (by omega)) (br_f (nI_pos (by omega)) (br_t (nI_le (b := 3) hp (by decide)) ?_)))
  rw [ei, nI_clamp (by omega), lc_rc_p (by omega)]
  exact ⟨vp_in_nI (by omega) (by omega), h⟩
theorem lz_tok {post : Int32 → Prop} {i : Nat} (hn : n ≤ 12) (hi : i < n) (h : post (w i)) : wpX_inputToken post ((nI nt), (nI tm), (nI R), (nI n), xP, xC, xK, xM, xL, (lc_rc q), w, ul, (lc_tr t), wy, oR, oS, oE, oD, gR, gP, gS, gE, gK, gD) (nI i) := by
  unfold wpX_inputToken
  refine br_f (nI_pos (by omega)) (br_t (nI_lt hi (by omega)) ⟨vp_in_nI (by omega) (by omega), ?_⟩)
  rw [nI_clamp (by omega)]
  exact h
/-! the law's own helpers -/
theorem lz_nn (x : Int32) {M : Nat} (h0 : 0 < M) (hM : M < 1000) : ∃ j, j < M ∧ ∀ post : Int32 → Prop, post (nI j) → wpL_nn post () x (nI M) := by
  have hm : (nI M).toInt = (M : Int) := nI_toInt (by omega)
  have hr : (x - x / nI M * nI M).toInt = x.toInt.tmod M := by rw [rem_toInt, hm]
  have hb := tmod_bounds (a := x.toInt) (M := (M : Int)) (by omega)
  have hne : ¬ nI M = 0 := nI_ne0 h0 (by omega)
  by_cases c : 0 ≤ x - x / nI M * nI M
  · have c' : ¬ x - x / nI M * nI M < 0 := Int32.not_lt.mpr c
    obtain ⟨j, hj, e⟩ := nI_of c'
    refine ⟨j, ?_, fun post hp => ⟨hne, nm_r e (br_t (by rw [← e]; exact c) hp)⟩⟩
    have := nI_toInt hj
    rw [← e, hr] at this
    omega
  · have c' : x - x / nI M * nI M < 0 := Int32.not_le.mp c
    have c2 := Int32.lt_iff_toInt_lt.mp c'
    rw [hr, show (0 : Int32).toInt = 0 from rfl] at c2
    have e : x - x / nI M * nI M + nI M = nI (x.toInt.tmod M + M).toNat := by
      apply Int32.toInt_inj.mp
      rw [Int32.toInt_add, hr, hm, nI_toInt (by omega), Int.bmod_eq_of_le (by omega) (by omega)]
      omega
    refine ⟨(x.toInt.tmod M + M).toNat, by omega, fun post hp => ⟨hne, nm_e (br_f c ?_)⟩⟩
    rw [e]
    exact hp
theorem lz_cell {L : Nat} {xs : Nat → Int32} {i : Nat} (hL : L ≤ 260) (hi : i < 1000) : ∃ v, ∀ post : Int32 → Prop, post v → wpL_cell post L xs () (nI i) := by
  by_cases c : L ≤ i
  · exact ⟨0, fun post hp => br_t (nI_le c (by omega)) hp⟩
  · refine ⟨xs i, fun post hp => br_f (nI_ge (by omega) (by omega)) ⟨vp_in_nI (by omega) (by omega), ?_⟩⟩
    rw [nI_clamp (by omega)]
    exact hp
theorem lz_code (x : Int32) {a b : Nat} (ha : 0 < a) (ha8 : a ≤ 8) (hb : 0 < b) (hb8 : b ≤ 8) : ∃ c, lc_va a b c ∧ ∀ post : Int32 → Prop, post (nI c) → wpL_code post () x (nI a) (nI b) := by
  obtain ⟨j, hj, hJ⟩ := lz_nn x (M := a + b) (by omega) (by omega)
  by_cases c : a ≤ j
  · refine ⟨8 + (j - a), Or.inr (by omega), fun post hp => ?_⟩
    unfold wpL_code
    rw [nI_add]
    refine hJ _ (br_t (nI_le c (by omega)) ?_)
    rw [pk_sub c]
    have e : 8 + nI (j - a) = nI (8 + (j - a)) := nI_add 8 (j - a)
    rw [e]
    exact hp
  · refine ⟨j, Or.inl (by omega), fun post hp => ?_⟩
    unfold wpL_code
    rw [nI_add]
    exact hJ _ (br_f (nI_ge (by omega) (by omega)) hp)
end LPB
