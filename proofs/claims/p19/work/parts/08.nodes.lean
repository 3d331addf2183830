section LXD
variable {q : Nat → Nat → Nat} {w : Nat → Int32} {t : Nat → Nat} {nt tm R n : Nat} {rk : Nat → Nat}
/-! nodes and tails in arrays -/
def lc_nd (oR oS oE oD : Nat → Int32) (l : List lc_N) : Prop := ∀ i v, l[i]? = some v → oR i = nI v.1 ∧ oS i = nI v.2.1 ∧ oE i = nI v.2.2.1 ∧ oD i = nI v.2.2.2
theorem lc_nd_0 {oR oS oE oD : Nat → Int32} : lc_nd oR oS oE oD [] := by
  intro i v h
  simp at h
theorem lc_nd_a {oR oS oE oD : Nat → Int32} {l : List lc_N} {a b c d : Nat} (h : lc_nd oR oS oE oD l) : lc_nd (upd oR l.length (nI a)) (upd oS l.length (nI b)) (upd oE l.length (nI c)) (upd oD l.length (nI d)) (l ++ [(a, b, c, d)]) := by
  intro i v hv
  by_cases hi : i < l.length
  · rw [List.getElem?_append_left hi] at hv
    have hne : i ≠ l.length := by omega
    rw [pk_un hne, pk_un hne, pk_un hne, pk_un hne]
    exact h i v hv
  · rw [List.getElem?_append_right (by omega)] at hv
    by_cases e : i = l.length
    · subst e
      rw [Nat.sub_self] at hv
      have : v = (a, b, c, d) := by simpa using hv.symm
      subst this
      exact ⟨pk_us, pk_us, pk_us, pk_us⟩
    · exfalso
      obtain ⟨k, hk⟩ : ∃ k, i - l.length = k + 1 := ⟨i - l.length - 1, by omega⟩
      rw [hk] at hv
      simp at hv
def lc_sk (gR gP gS gE gK gD : Nat → Int32) : List lc_L → Prop
  | [] => True
  | (r, j, s, e, k, d) :: l => (gR l.length = nI r ∧ gP l.length = nI (3 - j) ∧ gS l.length = nI s ∧ gE l.length = nI e ∧ gK l.length = nI k ∧ gD l.length = nI d) ∧ lc_sk gR gP gS gE gK gD l
theorem lc_sk_u {gR gP gS gE gK gD : Nat → Int32} {a b c d e f : Int32} : ∀ {l : List lc_L} {i : Nat}, lc_sk gR gP gS gE gK gD l → l.length ≤ i → lc_sk (upd gR i a) (upd gP i b) (upd gS i c) (upd gE i d) (upd gK i e) (upd gD i f) l := by
  intro l
  induction l with
  | nil => intro i _ _; exact True.intro
  | cons x l ih =>
    intro i h hi
    obtain ⟨r, j, s, e, k, d⟩ := x
    have hl : l.length + 1 ≤ i := hi
    have hne : l.length ≠ i := by omega
    obtain ⟨⟨h1, h2, h3, h4, h5, h6⟩, h7⟩ := h
    refine ⟨⟨?_, ?_, ?_, ?_, ?_, ?_⟩, ih h7 (by omega)⟩
    · rw [pk_un hne]; exact h1
    · rw [pk_un hne]; exact h2
    · rw [pk_un hne]; exact h3
    · rw [pk_un hne]; exact h4
    · rw [pk_un hne]; exact h5
    · rw [pk_un hne]; exact h6
theorem lc_sk_p {gR gP gS gE gK gD : Nat → Int32} {l : List lc_L} {r j s e k d : Nat} (h : lc_sk gR gP gS gE gK gD l) : lc_sk (upd gR l.length (nI r)) (upd gP l.length (nI (3 - j))) (upd gS l.length (nI s)) (upd gE l.length (nI e)) (upd gK l.length (nI k)) (upd gD l.length (nI d)) ((r, j, s, e, k, d) :: l) :=
  ⟨⟨pk_us, pk_us, pk_us, pk_us, pk_us, pk_us⟩, lc_sk_u h (Nat.le_refl _)⟩
/-! one symbol taken -/
def lc_t1 (q : Nat → Nat → Nat) (w : Nat → Int32) (t : Nat → Nat) (r j s e k d : Nat) (tl : List lc_L) : List lc_L :=
  if (lc_m q w t r j s e k).1 < e then (r, j - 1, (lc_m q w t r j s e k).1, e, (lc_m q w t r j s e k).2 % lc_w q w t r j (lc_m q w t r j s e k).1 e, d) :: tl else tl
/-- the child of the first symbol: its rule and rank -/
def lc_c1 (q : Nat → Nat → Nat) (w : Nat → Int32) (t : Nat → Nat) (R r j s e k : Nat) : Nat × Nat := lc_pk q w t R (q r (3 - j)) s (lc_m q w t r j s e k).1 ((lc_m q w t r j s e k).2 / lc_w q w t r j (lc_m q w t r j s e k).1 e)
def lc_o2 (q : Nat → Nat → Nat) (w : Nat → Int32) (t : Nat → Nat) (R r j s e k d : Nat) (out : List lc_N) : List lc_N :=
  if q r (3 - j) < 8 then out ++ [((lc_c1 q w t R r j s e k).1, s, (lc_m q w t r j s e k).1, d)] else out
def lc_t2 (q : Nat → Nat → Nat) (w : Nat → Int32) (t : Nat → Nat) (R r j s e k d : Nat) (tl : List lc_L) : List lc_L :=
  if q r (3 - j) < 8 then ((lc_c1 q w t R r j s e k).1, 2, s, (lc_m q w t r j s e k).1, (lc_c1 q w t R r j s e k).2, d + 1) :: lc_t1 q w t r j s e k d tl else lc_t1 q w t r j s e k d tl
theorem lc_mt_c {r j s e k d : Nat} {tl : List lc_L} : lc_mt rk q ((r, j, s, e, k, d) :: tl) = lc_B rk q r j s e + lc_mt rk q tl := rfl
theorem lc_t2_ok (hG : lc_G nt tm R q) (hA : lc_A R q rk) (hk : ∀ x, x < nt → rk x < nt) (hS : lc_sat q w R nt n t) {r j s e k d : Nat} {tl : List lc_L} (h : lc_tv q w t R n ((r, j, s, e, k, d) :: tl)) : lc_tv q w t R n (lc_t2 q w t R r j s e k d tl) ∧ lc_mt rk q (lc_t2 q w t R r j s e k d tl) + 1 ≤ lc_mt rk q ((r, j, s, e, k, d) :: tl) := by
  obtain ⟨hv, htl⟩ := h
  obtain ⟨m1, m2, m3, m4⟩ := lc_m_ok hG hv
  have hp := lc_mp (Nat.lt_of_le_of_lt (Nat.zero_le _) m3)
  have hse := hv.2.2.1
  rw [lc_mt_c]
  unfold lc_t2 lc_t1
  by_cases hme : (lc_m q w t r j s e k).1 < e
  · rw [if_pos hme]
    obtain ⟨j', rfl, hv'⟩ := lc_m_nx hG hv m1 hme m3 m4
    rw [Nat.add_sub_cancel]
    by_cases h8 : q r (3 - (j' + 1)) < 8
    · rw [if_pos h8]
      have hc := lc_m_ch hG hv m1 m2 m3 m4 h8
      obtain ⟨p1, p2⟩ := lc_pk_ok hG hS hc
      refine ⟨⟨p2, hv', htl⟩, ?_⟩
      have hB := lc_B_mid hG hk hv.1 hv.2.1 m1 hme h8
      rw [lc_mt_c, lc_mt_c, lc_B_2]
      unfold lc_c1
      rw [p1]
      omega
    · rw [if_neg h8]
      refine ⟨⟨hv', htl⟩, ?_⟩
      have e3 := lc_m_te h8 hp.1
      have hB := lc_B_ter (rk := rk) (q := q) (r := r) (j := j') (s := s) (e := e) hv.2.1 (by omega)
      rw [lc_mt_c, e3]
      omega
  · rw [if_neg hme]
    have em : (lc_m q w t r j s e k).1 = e := by omega
    by_cases h8 : q r (3 - j) < 8
    · rw [if_pos h8]
      have hc := lc_m_ch hG hv m1 m2 m3 m4 h8
      obtain ⟨p1, p2⟩ := lc_pk_ok hG hS hc
      refine ⟨⟨p2, htl⟩, ?_⟩
      have hw := hp.2
      rw [em] at hw
      have hB := lc_B_end hG hA hk hv.1 hv.2.1 hse hw h8
      rw [lc_mt_c, lc_B_2]
      unfold lc_c1
      rw [p1, em]
      omega
    · rw [if_neg h8]
      refine ⟨htl, ?_⟩
      have := lc_B_pos (rk := rk) (q := q) (r := r) (j := j) hse
      omega
theorem lc_t1_ex (hG : lc_G nt tm R q) {r j s e k d : Nat} {tl : List lc_L} (hv : lc_vt q w t R n r j s e k) : lc_ex q w t ((r, j, s, e, k, d) :: tl) = lc_k1 (q r (3 - j)) s (lc_m q w t r j s e k).1 ((lc_m q w t r j s e k).2 / lc_w q w t r j (lc_m q w t r j s e k).1 e) d ++ lc_ex q w t (lc_t1 q w t r j s e k d tl) := by
  obtain ⟨m1, m2, m3, m4⟩ := lc_m_ok hG hv
  show lc_kd q w t r (j + 1) s e k d ++ lc_ex q w t tl = _
  rw [lc_kd_s, List.append_assoc]
  unfold lc_t1
  by_cases hme : (lc_m q w t r j s e k).1 < e
  · rw [if_pos hme, if_pos hme]
    obtain ⟨j', rfl, hv'⟩ := lc_m_nx hG hv m1 hme m3 m4
    rfl
  · rw [if_neg hme, if_neg hme, List.nil_append]
theorem lc_t2_run (hG : lc_G nt tm R q) {r j s e k d f : Nat} {tl : List lc_L} {out : List lc_N} (hv : lc_vt q w t R n r j s e k) (hf : 1 ≤ f) : ∃ f', f ≤ f' + 1 ∧ out ++ lc_run q w t R f (lc_ex q w t ((r, j, s, e, k, d) :: tl)) = lc_o2 q w t R r j s e k d out ++ lc_run q w t R f' (lc_ex q w t (lc_t2 q w t R r j s e k d tl)) := by
  rw [lc_t1_ex hG hv]
  unfold lc_o2 lc_t2 lc_k1
  by_cases h8 : q r (3 - j) < 8
  · rw [if_pos h8, if_pos h8, if_pos h8]
    obtain ⟨g, rfl⟩ : ∃ g, f = g + 1 := ⟨f - 1, by omega⟩
    refine ⟨g, Nat.le_refl _, ?_⟩
    rw [List.cons_append, List.nil_append, lc_run_s, List.append_assoc]
    rfl
  · rw [if_neg h8, if_neg h8, if_neg h8, List.nil_append]
    exact ⟨f, by omega, rfl⟩
theorem lc_ve_S (hS : lc_sat q w R nt n t) {x s e k : Nat} (h : lc_ve t nt n x s e k) : k < lc_S (lc_g q w t x s e) 0 R ∧ k < 1000000 := by
  obtain ⟨hx, hs, he, hk, hc⟩ := h
  rw [hS x s e hx hs he] at hk hc
  unfold lc_n at hk hc
  rw [lc_cp_lt hc] at hk hc
  exact ⟨hk, by omega⟩
end LXD
