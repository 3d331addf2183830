section
section LCA
/-! A: counting, sets of codes, the closure -/
/-- how many i below n are in S -/
def lc_cn (S : Nat → Bool) : Nat → Nat
  | 0 => 0
  | n + 1 => lc_cn S n + (if S n = true then 1 else 0)
theorem lc_cn_s (S : Nat → Bool) (n : Nat) : lc_cn S (n + 1) = lc_cn S n + (if S n = true then 1 else 0) := rfl
theorem lc_cn_le (S : Nat → Bool) (n : Nat) : lc_cn S n ≤ n := by
  induction n with
  | zero => exact Nat.le_refl 0
  | succ n ih => rw [lc_cn_s]; split <;> omega
theorem lc_cn_mono {S S' : Nat → Bool} (h : ∀ i, S i = true → S' i = true) (n : Nat) : lc_cn S n ≤ lc_cn S' n := by
  induction n with
  | zero => exact Nat.le_refl 0
  | succ n ih =>
    rw [lc_cn_s, lc_cn_s]
    by_cases h1 : S n = true
    · rw [if_pos h1, if_pos (h n h1)]; omega
    · rw [if_neg h1]; omega
theorem lc_cn_lt {S S' : Nat → Bool} (h : ∀ i, S i = true → S' i = true) {n i : Nat} (hi : i < n) (h1 : ¬ S i = true) (h2 : S' i = true) : lc_cn S n < lc_cn S' n := by
  induction n with
  | zero => omega
  | succ n ih =>
    rw [lc_cn_s, lc_cn_s]
    by_cases e : i = n
    · subst e
      rw [if_neg h1, if_pos h2]
      have := lc_cn_mono h i
      omega
    · have := ih (by omega)
      by_cases h3 : S n = true
      · rw [if_pos h3, if_pos (h n h3)]; omega
      · rw [if_neg h3]; omega
theorem lc_cn_pos {S : Nat → Bool} {n i : Nat} (hi : i < n) (h : S i = true) : 1 ≤ lc_cn S n := by
  have e : lc_cn (fun _ => false) n = 0 := by
    clear hi
    induction n with
    | zero => rfl
    | succ n ih => rw [lc_cn_s, ih]; rfl
  have := lc_cn_lt (S := fun _ => false) (S' := S) (fun i h => by cases h) hi (by simp) h
  omega
/-- the rule r takes part: all rules, or (u) the unit rules alone -/
def lc_ca (u : Bool) (q : Nat → Nat → Nat) (r : Nat) : Prop := u = true → q r 1 < 8 ∧ q r 2 = 16
def lc_st (u : Bool) (q : Nat → Nat → Nat) (r : Nat) (S : Nat → Bool) : Nat → Bool :=
  fun i => S i || (S (q r 0) && ((!u || (decide (q r 1 < 8) && decide (q r 2 = 16))) && decide (i = q r 1)))
def lc_ps (u : Bool) (q : Nat → Nat → Nat) : Nat → (Nat → Bool) → (Nat → Bool)
  | 0, S => S
  | r + 1, S => lc_st u q r (lc_ps u q r S)
def lc_it (u : Bool) (q : Nat → Nat → Nat) (R : Nat) : Nat → (Nat → Bool) → (Nat → Bool)
  | 0, S => S
  | k + 1, S => lc_ps u q R (lc_it u q R k S)
/-- closed under the rules that take part -/
def lc_cl (u : Bool) (q : Nat → Nat → Nat) (R : Nat) (S : Nat → Bool) : Prop := ∀ r, r < R → lc_ca u q r → S (q r 0) = true → S (q r 1) = true
theorem lc_st_t {u : Bool} {q : Nat → Nat → Nat} {r : Nat} {S : Nat → Bool} (h : S (q r 0) = true) (hc : lc_ca u q r) : lc_st u q r S = fun i => S i || decide (i = q r 1) := by
  funext i
  unfold lc_st
  rw [h]
  cases u with
  | false => simp
  | true => obtain ⟨h1, h2⟩ := hc rfl; simp [h1, h2]
theorem lc_st_f {u : Bool} {q : Nat → Nat → Nat} {r : Nat} {S : Nat → Bool} (h : ¬ (S (q r 0) = true ∧ lc_ca u q r)) : lc_st u q r S = S := by
  funext i
  unfold lc_st
  by_cases h0 : S (q r 0) = true
  · have hc : ¬ lc_ca u q r := fun c => h ⟨h0, c⟩
    cases u with
    | false => exact absurd (fun z => by cases z) hc
    | true =>
      have h3 : ¬ (q r 1 < 8 ∧ q r 2 = 16) := fun z => hc (fun _ => z)
      have : (decide (q r 1 < 8) && decide (q r 2 = 16)) = false := by
        rw [Bool.eq_false_iff]
        intro z
        rw [Bool.and_eq_true, decide_eq_true_eq, decide_eq_true_eq] at z
        exact h3 z
      simp [this]
  · have : S (q r 0) = false := by simpa using h0
    simp [this]
theorem lc_st_sub {u : Bool} {q : Nat → Nat → Nat} {r : Nat} {S : Nat → Bool} {i : Nat} (h : S i = true) : lc_st u q r S i = true := by
  unfold lc_st; rw [h]; rfl
theorem lc_ps_sub {u : Bool} {q : Nat → Nat → Nat} {S : Nat → Bool} {i : Nat} (h : S i = true) (r : Nat) : lc_ps u q r S i = true := by
  induction r with
  | zero => exact h
  | succ r ih => exact lc_st_sub ih
theorem lc_ps_in {u : Bool} {q : Nat → Nat → Nat} {S : Nat → Bool} {r' : Nat} (hc : lc_ca u q r') (h : S (q r' 0) = true) : ∀ r, r' < r → lc_ps u q r S (q r' 1) = true := by
  intro r
  induction r with
  | zero => intro h; omega
  | succ r ih =>
    intro hr
    by_cases e : r' = r
    · subst e
      show lc_st u q r' (lc_ps u q r' S) (q r' 1) = true
      rw [lc_st_t (lc_ps_sub h r') hc]
      simp
    · exact lc_st_sub (ih (by omega))
theorem lc_ps_cl {u : Bool} {q : Nat → Nat → Nat} {R : Nat} {S : Nat → Bool} (h : lc_cl u q R S) : ∀ r, r ≤ R → lc_ps u q r S = S := by
  intro r
  induction r with
  | zero => intro _; rfl
  | succ r ih =>
    intro hr
    show lc_st u q r (lc_ps u q r S) = S
    rw [ih (by omega)]
    by_cases c : S (q r 0) = true ∧ lc_ca u q r
    · rw [lc_st_t c.1 c.2]
      funext i
      by_cases e : i = q r 1
      · subst e
        rw [h r (by omega) c.2 c.1]; rfl
      · rw [decide_eq_false e, Bool.or_false]
    · exact lc_st_f c
theorem lc_it_cl {u : Bool} {q : Nat → Nat → Nat} {R nt : Nat} {S : Nat → Bool} {a : Nat} (ha : a < nt) (hS : S a = true) (hq : ∀ r, r < R → q r 0 < nt) : lc_cl u q R (lc_it u q R nt S) := by
  have H : ∀ k, lc_cl u q R (lc_it u q R k S) ∨ k + 1 ≤ lc_cn (lc_it u q R k S) nt := by
    intro k
    induction k with
    | zero => exact Or.inr (lc_cn_pos ha hS)
    | succ k ih =>
      rcases ih with ih | ih
      · left
        show lc_cl u q R (lc_ps u q R (lc_it u q R k S))
        rw [lc_ps_cl ih R (Nat.le_refl R)]
        exact ih
      · by_cases h : ∃ i, i < nt ∧ ¬ lc_it u q R k S i = true ∧ lc_ps u q R (lc_it u q R k S) i = true
        · obtain ⟨i, hi, h1, h2⟩ := h
          right
          have := lc_cn_lt (S := lc_it u q R k S) (S' := lc_ps u q R (lc_it u q R k S)) (fun i h => lc_ps_sub h R) hi h1 h2
          show k + 1 + 1 ≤ lc_cn (lc_ps u q R (lc_it u q R k S)) nt
          omega
        · left
          intro r hr hc h2
          refine lc_ps_in hc ?_ R hr
          exact Decidable.byContradiction fun h1 => h ⟨q r 0, hq r hr, h1, h2⟩
  rcases H nt with h | h
  · exact h
  · have := lc_cn_le (lc_it u q R nt S) nt
    omega
theorem lc_it_more {u : Bool} {q : Nat → Nat → Nat} {R k : Nat} {S : Nat → Bool} (h : lc_cl u q R (lc_it u q R k S)) : ∀ j, lc_it u q R (k + j) S = lc_it u q R k S := by
  intro j
  induction j with
  | zero => rfl
  | succ j ih =>
    show lc_ps u q R (lc_it u q R (k + j) S) = _
    rw [ih]
    exact lc_ps_cl h R (Nat.le_refl R)
theorem lc_it_9 {u : Bool} {q : Nat → Nat → Nat} {R nt : Nat} {S : Nat → Bool} {a : Nat} (ha : a < nt) (h8 : nt ≤ 8) (hS : S a = true) (hq : ∀ r, r < R → q r 0 < nt) : lc_it u q R 9 S = lc_it u q R nt S := by
  have := lc_it_more (lc_it_cl (u := u) ha hS hq) (9 - nt)
  rw [show nt + (9 - nt) = 9 by omega] at this
  exact this
theorem lc_it_sub {u : Bool} {q : Nat → Nat → Nat} {R : Nat} {S : Nat → Bool} {i : Nat} (h : S i = true) : ∀ k, lc_it u q R k S i = true := by
  intro k
  induction k with
  | zero => exact h
  | succ k ih => exact lc_ps_sub ih R
/-! B: ranks of the unit rules -/
def lc_A (R : Nat) (q : Nat → Nat → Nat) (rk : Nat → Nat) : Prop := ∀ r, r < R → q r 1 < 8 → q r 2 = 16 → rk (q r 1) < rk (q r 0)
/-- ranks below nt -/
theorem lc_A_low {R nt : Nat} {q : Nat → Nat → Nat} {rk : Nat → Nat} (h : lc_A R q rk) (h0 : ∀ r, r < R → q r 0 < nt) (h1 : ∀ r, r < R → q r 1 < 8 → q r 1 < nt) : ∃ rl : Nat → Nat, lc_A R q rl ∧ ∀ x, x < nt → rl x < nt := by
  refine ⟨fun x => lc_cn (fun y => decide (rk y < rk x)) nt, ?_, ?_⟩
  · intro r hr h8 h16
    have hl := h r hr h8 h16
    refine lc_cn_lt (i := q r 1) ?_ (h1 r hr h8) ?_ ?_
    · intro i hi
      have hi' := of_decide_eq_true hi
      exact decide_eq_true (Nat.lt_trans hi' hl)
    · intro z
      have := of_decide_eq_true z
      omega
    · exact decide_eq_true hl
  · intro x hx
    have h2 := lc_cn_lt (S := fun y => decide (rk y < rk x)) (S' := fun _ => true) (fun _ _ => rfl) hx (by intro z; have := of_decide_eq_true z; omega) rfl
    have h3 := lc_cn_le (fun _ => true) nt
    show lc_cn (fun y => decide (rk y < rk x)) nt < nt
    omega
/-- a rule more -/
def lc_add (q : Nat → Nat → Nat) (R l a b c : Nat) : Nat → Nat → Nat := fun r p => if r = R then (if p = 0 then l else if p = 1 then a else if p = 2 then b else c) else q r p
theorem lc_add_lo {q : Nat → Nat → Nat} {R l a b c r : Nat} (h : r < R) (p : Nat) : lc_add q R l a b c r p = q r p := if_neg (by omega)
theorem lc_add_0 {q : Nat → Nat → Nat} {R l a b c : Nat} : lc_add q R l a b c R 0 = l := by simp [lc_add]
theorem lc_add_1 {q : Nat → Nat → Nat} {R l a b c : Nat} : lc_add q R l a b c R 1 = a := by simp [lc_add]
theorem lc_add_2 {q : Nat → Nat → Nat} {R l a b c : Nat} : lc_add q R l a b c R 2 = b := by simp [lc_add]
theorem lc_add_3 {q : Nat → Nat → Nat} {R l a b c : Nat} : lc_add q R l a b c R 3 = c := by simp [lc_add]
theorem lc_A_add {R : Nat} {q : Nat → Nat → Nat} {rk : Nat → Nat} {l a b c : Nat} (h : lc_A R q rk) (hn : a < 8 → b = 16 → ∃ S : Nat → Bool, lc_cl true q R S ∧ S a = true ∧ S l = false) : ∃ rk', lc_A (R + 1) (lc_add q R l a b c) rk' := by
  by_cases hu : a < 8 ∧ b = 16
  · obtain ⟨S, hc, hSa, hSl⟩ := hn hu.1 hu.2
    refine ⟨fun y => if S y = true then rk y else rk y + (rk a + 1), ?_⟩
    intro r hr h1 h2
    by_cases e : r = R
    · subst e
      rw [lc_add_0, lc_add_1]
      show (if S a = true then rk a else _) < (if S l = true then _ else rk l + (rk a + 1))
      rw [if_pos hSa, if_neg (by rw [hSl]; decide)]
      omega
    · have hr' : r < R := by omega
      rw [lc_add_lo hr'] at h1 h2 ⊢
      rw [lc_add_lo hr']
      have hlt := h r hr' h1 h2
      show (if S (q r 1) = true then rk (q r 1) else _) < (if S (q r 0) = true then rk (q r 0) else _)
      by_cases h0 : S (q r 0) = true
      · rw [if_pos h0, if_pos (hc r hr' (fun _ => ⟨h1, h2⟩) h0)]
        exact hlt
      · rw [if_neg h0]
        split <;> omega
  · refine ⟨rk, ?_⟩
    intro r hr h1 h2
    by_cases e : r = R
    · subst e
      rw [lc_add_1] at h1
      rw [lc_add_2] at h2
      exact absurd ⟨h1, h2⟩ hu
    · have hr' : r < R := by omega
      rw [lc_add_lo hr'] at h1 h2 ⊢
      rw [lc_add_lo hr']
      exact h r hr' h1 h2
/-! C: X's levels -/
/-- a chain of j unit rules begins at x -/
def lc_P (R : Nat) (q : Nat → Nat → Nat) : Nat → Nat → Prop
  | 0, _ => True
  | j + 1, x => ∃ r, r < R ∧ q r 1 < 8 ∧ q r 2 = 16 ∧ q r 0 = x ∧ lc_P R q j (q r 1)
theorem lc_P_rk {R : Nat} {q : Nat → Nat → Nat} {rk : Nat → Nat} (h : lc_A R q rk) : ∀ j x, lc_P R q j x → j ≤ rk x := by
  intro j
  induction j with
  | zero => intro x _; omega
  | succ j ih =>
    intro x hx
    obtain ⟨r, hr, h1, h2, rfl, hp⟩ := hx
    have := ih _ hp
    have := h r hr h1 h2
    omega
/-- the levels after k rounds, r rules into the next -/
def lc_lv (R nt : Nat) (q : Nat → Nat → Nat) (k r : Nat) (lv : Nat → Nat) : Prop :=
  (∀ x, x < nt → lc_P R q (lv x) x) ∧ (∀ x, x < nt → ∀ j, j ≤ k → lc_P R q j x → j ≤ lv x) ∧ (∀ i, i < r → q i 1 < 8 → q i 2 = 16 → ∀ j, j ≤ k → lc_P R q j (q i 1) → j + 1 ≤ lv (q i 0))
theorem lc_lv_0 {R nt : Nat} {q : Nat → Nat → Nat} {lv : Nat → Nat} (h : ∀ x, x < nt → lv x = 0) : lc_lv R nt q 0 0 lv :=
  ⟨fun x hx => by rw [h x hx]; exact True.intro, fun x hx j hj _ => by omega, fun i hi => by omega⟩
theorem lc_lv_n {R nt : Nat} {q : Nat → Nat → Nat} {k : Nat} {lv : Nat → Nat} (h : lc_lv R nt q k R lv) : lc_lv R nt q (k + 1) 0 lv := by
  obtain ⟨a, b, c⟩ := h
  refine ⟨a, ?_, fun i hi => by omega⟩
  intro x hx j hj hp
  by_cases e : j ≤ k
  · exact b x hx j e hp
  · obtain ⟨j', rfl⟩ : ∃ j', j = j' + 1 := ⟨j - 1, by omega⟩
    obtain ⟨r, hr, h1, h2, h0, hp'⟩ := hp
    have := c r hr h1 h2 j' (by omega) hp'
    rw [h0] at this
    exact this
/-- a natural number set in an array -/
def lc_up (f : Nat → Nat) (k v : Nat) : Nat → Nat := fun j => if j = k then v else f j
theorem lc_up_s {f : Nat → Nat} {k v : Nat} : lc_up f k v k = v := if_pos rfl
theorem lc_up_n {f : Nat → Nat} {k v j : Nat} (h : j ≠ k) : lc_up f k v j = f j := if_neg h
theorem lc_lv_up {R nt : Nat} {q : Nat → Nat → Nat} {k r : Nat} {lv : Nat → Nat} (h : lc_lv R nt q k r lv) (hr : r < R) (h0 : q r 0 < nt) (h1 : q r 1 < nt) (h8 : q r 1 < 8) (h2 : q r 2 = 16) : lc_lv R nt q k (r + 1) (if lv (q r 0) < lv (q r 1) + 1 then lc_up lv (q r 0) (lv (q r 1) + 1) else lv) := by
  obtain ⟨a, b, c⟩ := h
  have hmono : ∀ x, lv x ≤ (if lv (q r 0) < lv (q r 1) + 1 then lc_up lv (q r 0) (lv (q r 1) + 1) else lv) x := by
    intro x
    split
    · by_cases e : x = q r 0
      · subst e; rw [lc_up_s]; omega
      · rw [lc_up_n e]; omega
    · omega
  refine ⟨?_, ?_, ?_⟩
  · intro x hx
    split
    · by_cases e : x = q r 0
      · subst e; rw [lc_up_s]; exact ⟨r, hr, h8, h2, rfl, a _ h1⟩
      · rw [lc_up_n e]; exact a x hx
    · exact a x hx
  · intro x hx j hj hp
    exact Nat.le_trans (b x hx j hj hp) (hmono x)
  · intro i hi hi1 hi2 j hj hp
    by_cases e : i = r
    · subst e
      have hb := b _ h1 j hj hp
      split
      · rw [lc_up_s]; omega
      · omega
    · exact Nat.le_trans (c i (by omega) hi1 hi2 j hj hp) (hmono _)
theorem lc_lv_no {R nt : Nat} {q : Nat → Nat → Nat} {k r : Nat} {lv : Nat → Nat} (h : lc_lv R nt q k r lv) (hn : ¬ (q r 1 < 8 ∧ q r 2 = 16)) : lc_lv R nt q k (r + 1) lv := by
  obtain ⟨a, b, c⟩ := h
  refine ⟨a, b, ?_⟩
  intro i hi hi1 hi2 j hj hp
  by_cases e : i = r
  · subst e; exact absurd ⟨hi1, hi2⟩ hn
  · exact c i (by omega) hi1 hi2 j hj hp
/-- at the end the levels are ranks below nt -/
theorem lc_lv_end {R nt : Nat} {q : Nat → Nat → Nat} {rk lv : Nat → Nat} (hA : lc_A R q rk) (hk : ∀ x, x < nt → rk x < nt) (h0 : ∀ r, r < R → q r 0 < nt) (h1 : ∀ r, r < R → q r 1 < 8 → q r 1 < nt) (h : lc_lv R nt q (nt - 1) 0 lv) : lc_A R q lv ∧ ∀ x, x < nt → lv x < nt := by
  obtain ⟨a, b, -⟩ := h
  refine ⟨?_, ?_⟩
  · intro r hr h8 h2
    have hp : lc_P R q (lv (q r 1) + 1) (q r 0) := ⟨r, hr, h8, h2, rfl, a _ (h1 r hr h8)⟩
    have e1 := lc_P_rk hA _ _ hp
    have e2 := hk _ (h0 r hr)
    exact b _ (h0 r hr) _ (by omega) hp
  · intro x hx
    have := lc_P_rk hA _ _ (a x hx)
    have := hk x hx
    omega
end LCA
end
section
section LCB
/-! D: sums, saturated -/
def lc_cp (x : Nat) : Nat := if x < 1000000 then x else 1000000
theorem lc_cp_le (x : Nat) : lc_cp x ≤ 1000000 := by unfold lc_cp; split <;> omega
theorem lc_cp_a (x y : Nat) : lc_cp (lc_cp x + y) = lc_cp (x + y) := by
  unfold lc_cp
  by_cases h : x < 1000000
  · rw [if_pos h]
  · rw [if_neg h, if_neg (by omega), if_neg (by omega)]
theorem lc_cp_b (x y : Nat) : lc_cp (x + lc_cp y) = lc_cp (x + y) := by
  rw [Nat.add_comm, lc_cp_a, Nat.add_comm]
theorem lc_cp_lt {x : Nat} (h : lc_cp x < 1000000) : lc_cp x = x := by
  unfold lc_cp at h ⊢
  split at h
  · rw [if_pos (by assumption)]
  · omega
theorem lc_cp_id {x : Nat} (h : x ≤ 1000000) : lc_cp x = x := by
  unfold lc_cp; split <;> omega
theorem lc_cp_0 : lc_cp 0 = 0 := rfl
/-- the sum of f over a ≤ i < k -/
def lc_S (f : Nat → Nat) (a : Nat) : Nat → Nat
  | 0 => 0
  | k + 1 => lc_S f a k + (if a ≤ k then f k else 0)
theorem lc_S_s {f : Nat → Nat} {a k : Nat} (h : a ≤ k) : lc_S f a (k + 1) = lc_S f a k + f k := by
  show lc_S f a k + (if a ≤ k then f k else 0) = _
  rw [if_pos h]
theorem lc_S_0 {f : Nat → Nat} {a : Nat} : ∀ {k : Nat}, k ≤ a → lc_S f a k = 0 := by
  intro k
  induction k with
  | zero => intro _; rfl
  | succ k ih =>
    intro h
    show lc_S f a k + (if a ≤ k then f k else 0) = 0
    rw [if_neg (by omega), ih (by omega)]
theorem lc_S_c {f g : Nat → Nat} {a : Nat} : ∀ {k : Nat}, (∀ i, a ≤ i → i < k → f i = g i) → lc_S f a k = lc_S g a k := by
  intro k
  induction k with
  | zero => intro _; rfl
  | succ k ih =>
    intro h
    show lc_S f a k + (if a ≤ k then f k else 0) = lc_S g a k + (if a ≤ k then g k else 0)
    rw [ih (fun i h1 h2 => h i h1 (by omega))]
    by_cases e : a ≤ k
    · rw [if_pos e, if_pos e, h k e (by omega)]
    · rw [if_neg e, if_neg e]
theorem lc_S_le {f : Nat → Nat} {a i : Nat} (h : a ≤ i) : ∀ {k : Nat}, i < k → f i ≤ lc_S f a k := by
  intro k
  induction k with
  | zero => intro h; omega
  | succ k ih =>
    intro hk
    show f i ≤ lc_S f a k + (if a ≤ k then f k else 0)
    by_cases e : i = k
    · subst e; rw [if_pos h]; omega
    · have := ih (by omega); omega
theorem lc_S_h {f : Nat → Nat} {a : Nat} : ∀ {k : Nat}, a < k → lc_S f a k = f a + lc_S f (a + 1) k := by
  intro k
  induction k with
  | zero => intro h; omega
  | succ k ih =>
    intro hk
    by_cases e : a = k
    · subst e
      rw [lc_S_s (Nat.le_refl a), lc_S_0 (Nat.le_refl a), lc_S_0 (Nat.le_refl (a + 1))]; omega
    · rw [lc_S_s (by omega), lc_S_s (by omega), ih (by omega)]; omega
theorem lc_S_last {f : Nat → Nat} {a k : Nat} (h : ∀ i, a ≤ i → i < k → f i = 0) (hk : a ≤ k) : lc_S f a (k + 1) = f k := by
  rw [lc_S_s hk, lc_S_c (g := fun _ => 0) h]
  have : ∀ k, lc_S (fun _ => 0) a k = 0 := by
    intro k
    induction k with
    | zero => rfl
    | succ k ih => show lc_S (fun _ => 0) a k + (if a ≤ k then 0 else 0) = 0; rw [ih]; split <;> rfl
  rw [this]; omega
/-! E: the counts -/
def lc_ix (x s e : Nat) : Nat := (x * 13 + s) * 13 + e
theorem lc_ix_i {x s e x' s' e' : Nat} (h : lc_ix x s e = lc_ix x' s' e') (hs : s < 13) (he : e < 13) (hs' : s' < 13) (he' : e' < 13) : x = x' ∧ s = s' ∧ e = e' := by
  unfold lc_ix at h; omega
theorem lc_ix_lt {x s e : Nat} (hx : x < 8) (hs : s < 13) (he : e < 13) : lc_ix x s e < 1352 := by
  unfold lc_ix; omega
def lc_va (nt tm c : Nat) : Prop := c < nt ∨ (8 ≤ c ∧ c < 8 + tm)
/-- rule r is well made -/
def lc_gr (nt tm : Nat) (q : Nat → Nat → Nat) (r : Nat) : Prop := q r 0 < nt ∧ lc_va nt tm (q r 1) ∧ ((q r 2 = 16 ∧ q r 3 = 16) ∨ (lc_va nt tm (q r 2) ∧ (q r 3 = 16 ∨ lc_va nt tm (q r 3))))
def lc_G (nt tm R : Nat) (q : Nat → Nat → Nat) : Prop := nt ≤ 8 ∧ tm ≤ 8 ∧ ∀ r, r < R → lc_gr nt tm q r
def lc_y (w : Nat → Int32) (t : Nat → Nat) (c s e : Nat) : Nat := if c < 8 then t (lc_ix c s e) else if e = s + 1 ∧ w s = nI (c - 8) then 1 else 0
/-- in how many ways the last j symbols of rule r cover [s, e) -/
def lc_w (q : Nat → Nat → Nat) (w : Nat → Int32) (t : Nat → Nat) (r : Nat) : Nat → Nat → Nat → Nat
  | 0, s, e => if s = e then 1 else 0
  | j + 1, s, e => if q r (3 - j) = 16 then lc_w q w t r j s e else lc_cp (lc_S (fun k => lc_y w t (q r (3 - j)) s k * lc_w q w t r j k e) (s + 1) (e + 1))
def lc_g (q : Nat → Nat → Nat) (w : Nat → Int32) (t : Nat → Nat) (x s e : Nat) : Nat → Nat := fun r => if q r 0 = x then lc_w q w t r 3 s e else 0
def lc_n (q : Nat → Nat → Nat) (w : Nat → Int32) (t : Nat → Nat) (R x s e : Nat) : Nat := lc_cp (lc_S (lc_g q w t x s e) 0 R)
variable {q : Nat → Nat → Nat} {w : Nat → Int32} {t t' : Nat → Nat} {nt tm R n : Nat} {rk : Nat → Nat}
theorem lc_w_0 {r s e : Nat} : lc_w q w t r 0 s e = if s = e then 1 else 0 := rfl
theorem lc_w_s {r j s e : Nat} (h : ¬ q r (3 - j) = 16) : lc_w q w t r (j + 1) s e = lc_cp (lc_S (fun k => lc_y w t (q r (3 - j)) s k * lc_w q w t r j k e) (s + 1) (e + 1)) := if_neg h
theorem lc_w_n {r j s e : Nat} (h : q r (3 - j) = 16) : lc_w q w t r (j + 1) s e = lc_w q w t r j s e := if_pos h
theorem lc_w_z {r j e : Nat} (h : ¬ q r (3 - j) = 16) : lc_w q w t r (j + 1) e e = 0 := by
  rw [lc_w_s h, lc_S_0 (Nat.le_refl _)]; rfl
theorem lc_w_le {r : Nat} : ∀ j s e, lc_w q w t r j s e ≤ 1000000 := by
  intro j
  induction j with
  | zero => intro s e; rw [lc_w_0]; split <;> omega
  | succ j ih =>
    intro s e
    by_cases h : q r (3 - j) = 16
    · rw [lc_w_n h]; exact ih s e
    · rw [lc_w_s h]; exact lc_cp_le _
theorem lc_y_le (ht : ∀ j, t j ≤ 1000000) (c s e : Nat) : lc_y w t c s e ≤ 1000000 := by
  unfold lc_y
  split
  · exact ht _
  · split <;> omega
theorem lc_n_le (x s e : Nat) : lc_n q w t R x s e ≤ 1000000 := lc_cp_le _
theorem lc_G_16 (hG : lc_G nt tm R q) {r : Nat} (hr : r < R) : ¬ q r 1 = 16 ∧ (q r 2 = 16 → q r 3 = 16) := by
  obtain ⟨h8, t8, h⟩ := hG
  obtain ⟨h0, h1, h2⟩ := h r hr
  unfold lc_va at h1 h2
  constructor
  · omega
  · intro e; omega
theorem lc_G_8 (hG : lc_G nt tm R q) {r : Nat} (hr : r < R) : ∀ p, p ≤ 3 → q r p < 8 → q r p < nt := by
  obtain ⟨h8, t8, h⟩ := hG
  obtain ⟨h0, h1, h2⟩ := h r hr
  unfold lc_va at h1 h2
  intro p hp h
  have : p = 0 ∨ p = 1 ∨ p = 2 ∨ p = 3 := by omega
  rcases this with rfl | rfl | rfl | rfl <;> omega
theorem lc_G_r (hG : lc_G nt tm R q) {r : Nat} (hr : r < R) : ∀ p, p ≤ 3 → q r p ≤ 16 := by
  obtain ⟨h8, t8, h⟩ := hG
  obtain ⟨h0, h1, h2⟩ := h r hr
  unfold lc_va at h1 h2
  intro p hp
  have : p = 0 ∨ p = 1 ∨ p = 2 ∨ p = 3 := by omega
  rcases this with rfl | rfl | rfl | rfl <;> omega
theorem lc_y_c {c s e : Nat} (h : c < 8 → t (lc_ix c s e) = t' (lc_ix c s e)) : lc_y w t c s e = lc_y w t' c s e := by
  unfold lc_y
  by_cases h8 : c < 8
  · rw [if_pos h8, if_pos h8, h h8]
  · rw [if_neg h8, if_neg h8]
theorem lc_w_c {r : Nat} (hn : ∀ p, p ≤ 3 → q r p < 8 → q r p < nt) : ∀ j s e, (∀ x a b, x < nt → s ≤ a → a < b → b ≤ e → t (lc_ix x a b) = t' (lc_ix x a b)) → lc_w q w t r j s e = lc_w q w t' r j s e := by
  intro j
  induction j with
  | zero => intro s e _; rfl
  | succ j ih =>
    intro s e h
    by_cases c : q r (3 - j) = 16
    · rw [lc_w_n c, lc_w_n c]; exact ih s e h
    · rw [lc_w_s c, lc_w_s c]
      refine congrArg lc_cp (lc_S_c ?_)
      intro k h1 h2
      show lc_y w t (q r (3 - j)) s k * lc_w q w t r j k e = lc_y w t' (q r (3 - j)) s k * lc_w q w t' r j k e
      rw [lc_y_c (fun h8 => h _ s k (hn _ (by omega) h8) (by omega) (by omega) (by omega)), ih k e (fun x a b h3 h4 h5 h6 => h x a b h3 (by omega) h5 h6)]
theorem lc_w3_c (hG : lc_G nt tm R q) {r : Nat} (hr : r < R) {s e : Nat} (h : ∀ x a b, x < nt → s ≤ a → a < b → b ≤ e → b - a < e - s → t (lc_ix x a b) = t' (lc_ix x a b)) (hu : q r 1 < 8 → q r 2 = 16 → t (lc_ix (q r 1) s e) = t' (lc_ix (q r 1) s e)) : lc_w q w t r 3 s e = lc_w q w t' r 3 s e := by
  have hn := lc_G_8 hG hr
  have h16 := (lc_G_16 hG hr).1
  rw [lc_w_s (j := 2) h16, lc_w_s (j := 2) h16]
  refine congrArg lc_cp (lc_S_c ?_)
  intro k h1 h2
  show lc_y w t (q r 1) s k * lc_w q w t r 2 k e = lc_y w t' (q r 1) s k * lc_w q w t' r 2 k e
  by_cases hk : k < e
  · rw [lc_y_c (fun h8 => h _ s k (hn 1 (by omega) h8) (by omega) (by omega) (by omega) (by omega)), lc_w_c hn 2 k e (fun x a b h3 h4 h5 h6 => h x a b h3 (by omega) h5 h6 (by omega))]
  · obtain rfl : k = e := by omega
    by_cases h2 : q r 2 = 16
    · rw [lc_y_c (fun h8 => hu h8 h2), lc_w_c hn 2 k k (fun x a b h3 h4 h5 h6 => by omega)]
    · rw [lc_w_z (j := 1) h2, lc_w_z (j := 1) h2, Nat.mul_zero, Nat.mul_zero]
theorem lc_n_c {x s e : Nat} (h : ∀ r, r < R → q r 0 = x → lc_w q w t r 3 s e = lc_w q w t' r 3 s e) : lc_n q w t R x s e = lc_n q w t' R x s e := by
  refine congrArg lc_cp (lc_S_c ?_)
  intro r _ hr
  unfold lc_g
  by_cases hx : q r 0 = x
  · rw [if_pos hx, if_pos hx, h r hr hx]
  · rw [if_neg hx, if_neg hx]
/-- the cell's count is what the rules ask -/
def lc_ok (q : Nat → Nat → Nat) (w : Nat → Int32) (R : Nat) (t : Nat → Nat) (x s e : Nat) : Prop := t (lc_ix x s e) = lc_n q w t R x s e
theorem lc_n_up (hG : lc_G nt tm R q) (hA : lc_A R q rk) {x s e x' s' e' v : Nat} (he : e < 13) (hs : s < e) (he' : e' < 13) (hs' : s' < e') (h1 : e' - s' ≤ e - s) (h2 : s' = s → e' = e → rk x' ≤ rk x) : lc_n q w (lc_up t (lc_ix x s e) v) R x' s' e' = lc_n q w t R x' s' e' := by
  refine lc_n_c ?_
  intro r hr hx
  refine lc_w3_c hG hr ?_ ?_
  · intro y a b hy ha hab hb hl
    refine lc_up_n ?_
    intro z
    obtain ⟨-, z2, z3⟩ := lc_ix_i z (by omega) (by omega) (by omega) (by omega)
    omega
  · intro h8 h16
    refine lc_up_n ?_
    intro z
    obtain ⟨z1, z2, z3⟩ := lc_ix_i z (by omega) (by omega) (by omega) (by omega)
    have := hA r hr h8 h16
    have := h2 z2 z3
    rw [z1, hx] at *
    omega
theorem lc_ok_w (hG : lc_G nt tm R q) (hA : lc_A R q rk) {x s e : Nat} (he : e < 13) (hs : s < e) : lc_ok q w R (lc_up t (lc_ix x s e) (lc_n q w t R x s e)) x s e := by
  unfold lc_ok
  rw [lc_n_up hG hA he hs he hs (Nat.le_refl _) (fun _ _ => Nat.le_refl _), lc_up_s]
theorem lc_ok_k (hG : lc_G nt tm R q) (hA : lc_A R q rk) {x s e x' s' e' v : Nat} (he : e < 13) (hs : s < e) (he' : e' < 13) (hs' : s' < e') (h1 : e' - s' ≤ e - s) (h2 : s' = s → e' = e → rk x' ≤ rk x ∧ x' ≠ x) (h : lc_ok q w R t x' s' e') : lc_ok q w R (lc_up t (lc_ix x s e) v) x' s' e' := by
  unfold lc_ok
  rw [lc_n_up hG hA he hs he' hs' h1 (fun a b => (h2 a b).1), lc_up_n]
  · exact h
  · intro z
    obtain ⟨z1, z2, z3⟩ := lc_ix_i z (by omega) (by omega) (by omega) (by omega)
    exact (h2 z2 z3).2 z1
theorem lc_ok_s {x s e : Nat} (h : lc_ok q w R t x s e) : lc_up t (lc_ix x s e) (lc_n q w t R x s e) = t := by
  funext j
  unfold lc_up
  split
  · subst_vars; exact h.symm
  · rfl
def lc_sat (q : Nat → Nat → Nat) (w : Nat → Int32) (R nt n : Nat) (t : Nat → Nat) : Prop := ∀ x s e, x < nt → s < e → e ≤ n → lc_ok q w R t x s e
theorem lc_uq (hG : lc_G nt tm R q) (hA : lc_A R q rk) (h : lc_sat q w R nt n t) (h' : lc_sat q w R nt n t') : ∀ x s e, x < nt → s < e → e ≤ n → t (lc_ix x s e) = t' (lc_ix x s e) := by
  have H : ∀ L k x s e, e - s = L → rk x = k → x < nt → s < e → e ≤ n → t (lc_ix x s e) = t' (lc_ix x s e) := by
    intro L
    induction L using Nat.strongRecOn with
    | ind L ihL =>
      intro k
      induction k using Nat.strongRecOn with
      | ind k ihk =>
        intro x s e hL hk hx hs he
        rw [h x s e hx hs he, h' x s e hx hs he]
        refine lc_n_c ?_
        intro r hr hx0
        refine lc_w3_c hG hr ?_ ?_
        · intro y a b hy ha hab hb hl
          exact ihL (b - a) (by omega) (rk y) y a b rfl rfl hy hab (by omega)
        · intro h8 h16
          have h1 := hA r hr h8 h16
          have h2 := lc_G_8 hG hr 1 (by omega) h8
          exact ihk (rk (q r 1)) (by rw [← hk, ← hx0]; exact h1) (q r 1) s e hL rfl h2 hs he
  intro x s e
  exact H _ _ x s e rfl rfl
/-! F: the counts as Y has them -/
theorem lc_w_e {r j : Nat} (h : ∀ i, i < j → q r (3 - i) = 16) : ∀ s e, lc_w q w t r j s e = if s = e then 1 else 0 := by
  induction j with
  | zero => intro s e; rfl
  | succ j ih =>
    intro s e
    rw [lc_w_n (h j (by omega))]
    exact ih (fun i hi => h i (by omega)) s e
/-- one symbol is left -/
theorem lc_w_l {r j s e : Nat} (ht : ∀ j, t j ≤ 1000000) (h : ∀ i, i < j → q r (3 - i) = 16) (hj : ¬ q r (3 - j) = 16) (hs : s < e) : lc_w q w t r (j + 1) s e = lc_y w t (q r (3 - j)) s e := by
  rw [lc_w_s hj, lc_S_last]
  · rw [lc_w_e h, if_pos rfl, Nat.mul_one, lc_cp_id (lc_y_le ht _ _ _)]
  · intro i h1 h2
    rw [lc_w_e h, if_neg (by omega), Nat.mul_zero]
  · omega
/-- more than one symbol is left -/
theorem lc_w_m {r j s e : Nat} (hj : ¬ q r (3 - (j + 1)) = 16) (hj' : ¬ q r (3 - j) = 16) (hs : s < e) : lc_w q w t r (j + 1 + 1) s e = lc_cp (lc_S (fun k => lc_y w t (q r (3 - (j + 1))) s k * lc_w q w t r (j + 1) k e) (s + 1) e) := by
  rw [lc_w_s hj, lc_S_s (by omega)]
  show lc_cp (_ + lc_y w t (q r (3 - (j + 1))) s e * lc_w q w t r (j + 1) e e) = _
  rw [lc_w_z hj', Nat.mul_zero, Nat.add_zero]
end LCB
end
section
section LCC
/-! G: the tree of a rank -/
/-- the first place from a on whose part holds the rank k, and the rank there -/
def lc_f (f : Nat → Nat) : Nat → Nat → Nat → Nat × Nat
  | 0, a, k => (a, k)
  | n + 1, a, k => if k < f a then (a, k) else lc_f f n (a + 1) (k - f a)
theorem lc_f_t {f : Nat → Nat} {n a k : Nat} (h : k < f a) : lc_f f (n + 1) a k = (a, k) := if_pos h
theorem lc_f_n {f : Nat → Nat} {n a k : Nat} (h : ¬ k < f a) : lc_f f (n + 1) a k = lc_f f n (a + 1) (k - f a) := if_neg h
theorem lc_S_sub {f : Nat → Nat} {a b k : Nat} (h : ¬ k < f a) (hb : a < b) (hk : k < lc_S f a b) : k - f a < lc_S f (a + 1) b := by
  rw [lc_S_h hb] at hk; omega
theorem lc_f_ok {f : Nat → Nat} : ∀ n a k, k < lc_S f a (a + n) → a ≤ (lc_f f n a k).1 ∧ (lc_f f n a k).1 < a + n ∧ (lc_f f n a k).2 < f (lc_f f n a k).1 := by
  intro n
  induction n with
  | zero => intro a k h; rw [lc_S_0 (by omega)] at h; omega
  | succ n ih =>
    intro a k h
    by_cases c : k < f a
    · rw [lc_f_t c]; exact ⟨Nat.le_refl a, by omega, c⟩
    · rw [lc_f_n c]
      have h2 := lc_S_sub c (by omega) h
      rw [show a + (n + 1) = a + 1 + n by omega] at h2
      have := ih (a + 1) (k - f a) h2
      omega
theorem lc_f_skip {f : Nat → Nat} : ∀ n a k, (∀ i, a ≤ i → i < a + n → f i = 0) → k < f (a + n) → lc_f f (n + 1) a k = (a + n, k) := by
  intro n
  induction n with
  | zero => intro a k _ h; exact lc_f_t h
  | succ n ih =>
    intro a k h hk
    have h0 := h a (Nat.le_refl a) (by omega)
    rw [lc_f_n (by omega), h0, Nat.sub_zero, ih (a + 1) k (fun i h1 h2 => h i (by omega) (by omega)) (by rw [show a + 1 + n = a + (n + 1) by omega]; exact hk)]
    rw [show a + 1 + n = a + (n + 1) by omega]
variable {q : Nat → Nat → Nat} {w : Nat → Int32} {t t' : Nat → Nat} {nt tm R n : Nat} {rk : Nat → Nat}
def lc_mf (q : Nat → Nat → Nat) (w : Nat → Int32) (t : Nat → Nat) (r j s e : Nat) : Nat → Nat := fun i => lc_y w t (q r (3 - j)) s i * lc_w q w t r j i e
/-- where the first of the last j + 1 symbols of rule r ends, and the rank there -/
def lc_m (q : Nat → Nat → Nat) (w : Nat → Int32) (t : Nat → Nat) (r j s e k : Nat) : Nat × Nat := lc_f (lc_mf q w t r j s e) (e - s) (s + 1) k
def lc_pk (q : Nat → Nat → Nat) (w : Nat → Int32) (t : Nat → Nat) (R x s e k : Nat) : Nat × Nat := lc_f (lc_g q w t x s e) R 0 k
def lc_vt (q : Nat → Nat → Nat) (w : Nat → Int32) (t : Nat → Nat) (R n r j s e k : Nat) : Prop := r < R ∧ j ≤ 2 ∧ s < e ∧ e ≤ n ∧ ¬ q r (3 - j) = 16 ∧ k < lc_w q w t r (j + 1) s e ∧ lc_w q w t r (j + 1) s e < 1000000
def lc_ve (t : Nat → Nat) (nt n x s e k : Nat) : Prop := x < nt ∧ s < e ∧ e ≤ n ∧ k < t (lc_ix x s e) ∧ t (lc_ix x s e) < 1000000
theorem lc_mp {a b : Nat} (h : 0 < a * b) : 0 < a ∧ 0 < b := by
  constructor
  · rcases Nat.eq_zero_or_pos a with h1 | h1
    · rw [h1, Nat.zero_mul] at h; omega
    · exact h1
  · rcases Nat.eq_zero_or_pos b with h1 | h1
    · rw [h1, Nat.mul_zero] at h; omega
    · exact h1
/-- what is left behind the middle is a tail again -/
theorem lc_nx (hG : lc_G nt tm R q) {r j m e : Nat} (hr : r < R) (hj : j ≤ 2) (hm : m < e) (hw : 0 < lc_w q w t r j m e) : ∃ j', j = j' + 1 ∧ ¬ q r (3 - j') = 16 := by
  cases j with
  | zero => rw [lc_w_0, if_neg (by omega)] at hw; omega
  | succ j =>
    refine ⟨j, rfl, ?_⟩
    intro h
    rw [lc_w_n h] at hw
    cases j with
    | zero => rw [lc_w_0, if_neg (by omega)] at hw; omega
    | succ j =>
      have e : j = 0 := by omega
      subst e
      rw [lc_w_n ((lc_G_16 hG hr).2 h), lc_w_0, if_neg (by omega)] at hw
      omega
theorem lc_vt_S {r j s e k : Nat} (h : lc_vt q w t R n r j s e k) : k < lc_S (lc_mf q w t r j s e) (s + 1) (e + 1) ∧ lc_S (lc_mf q w t r j s e) (s + 1) (e + 1) < 1000000 := by
  obtain ⟨hr, hj, hs, he, h16, hk, hc⟩ := h
  rw [lc_w_s h16] at hk hc
  rw [lc_cp_lt hc] at hk hc
  exact ⟨hk, hc⟩
theorem lc_m_ok (hG : lc_G nt tm R q) {r j s e k : Nat} (h : lc_vt q w t R n r j s e k) :
    s < (lc_m q w t r j s e k).1 ∧ (lc_m q w t r j s e k).1 ≤ e ∧
    (lc_m q w t r j s e k).2 < lc_y w t (q r (3 - j)) s (lc_m q w t r j s e k).1 * lc_w q w t r j (lc_m q w t r j s e k).1 e ∧
    lc_y w t (q r (3 - j)) s (lc_m q w t r j s e k).1 * lc_w q w t r j (lc_m q w t r j s e k).1 e < 1000000 := by
  obtain ⟨hk, hc⟩ := lc_vt_S h
  obtain ⟨hr, hj, hs, he, h16, -, -⟩ := h
  have e1 : s + 1 + (e - s) = e + 1 := by omega
  have H := lc_f_ok (f := lc_mf q w t r j s e) (e - s) (s + 1) k (by rw [e1]; exact hk)
  obtain ⟨a, b, c⟩ := H
  have d := lc_S_le (f := lc_mf q w t r j s e) a (k := e + 1) (by omega)
  exact ⟨by unfold lc_m; omega, by unfold lc_m; omega, c, Nat.lt_of_le_of_lt d hc⟩
/-- the tail behind the middle -/
theorem lc_m_nx (hG : lc_G nt tm R q) {r j s e k m b : Nat} (h : lc_vt q w t R n r j s e k) (hm : s < m) (he : m < e) (hb : b < lc_y w t (q r (3 - j)) s m * lc_w q w t r j m e) (hc : lc_y w t (q r (3 - j)) s m * lc_w q w t r j m e < 1000000) : ∃ j', j = j' + 1 ∧ lc_vt q w t R n r j' m e (b % lc_w q w t r j m e) := by
  obtain ⟨hr, hj, hs, hn, h16, -, -⟩ := h
  obtain ⟨h1, h2⟩ := lc_mp (Nat.lt_of_le_of_lt (Nat.zero_le b) hb)
  obtain ⟨j', rfl, h3⟩ := lc_nx hG hr hj he h2
  refine ⟨j', rfl, hr, by omega, he, hn, h3, Nat.mod_lt _ h2, ?_⟩
  exact Nat.lt_of_le_of_lt (Nat.le_mul_of_pos_left _ h1) hc
/-- the child before the middle -/
theorem lc_m_ch (hG : lc_G nt tm R q) {r j s e k m b : Nat} (h : lc_vt q w t R n r j s e k) (hm : s < m) (he : m ≤ e) (hb : b < lc_y w t (q r (3 - j)) s m * lc_w q w t r j m e) (hc : lc_y w t (q r (3 - j)) s m * lc_w q w t r j m e < 1000000) (h8 : q r (3 - j) < 8) : lc_ve t nt n (q r (3 - j)) s m (b / lc_w q w t r j m e) := by
  obtain ⟨hr, hj, hs, hn, h16, -, -⟩ := h
  obtain ⟨h1, h2⟩ := lc_mp (Nat.lt_of_le_of_lt (Nat.zero_le b) hb)
  have ey : lc_y w t (q r (3 - j)) s m = t (lc_ix (q r (3 - j)) s m) := if_pos h8
  refine ⟨lc_G_8 hG hr _ (by omega) h8, hm, by omega, ?_, ?_⟩
  · rw [← ey]; exact (Nat.div_lt_iff_lt_mul h2).mpr hb
  · rw [← ey]; exact Nat.lt_of_le_of_lt (Nat.le_mul_of_pos_right _ h2) hc
theorem lc_m_te {c s m : Nat} (h8 : ¬ c < 8) (h : 0 < lc_y w t c s m) : m = s + 1 := by
  unfold lc_y at h
  rw [if_neg h8] at h
  split at h
  · exact (by assumption : _ ∧ _).1
  · omega
theorem lc_m_un (hG : lc_G nt tm R q) {r e : Nat} (hr : r < R) (h : 0 < lc_w q w t r 2 e e) : q r 2 = 16 := by
  refine Decidable.byContradiction fun z => ?_
  rw [lc_w_z (j := 1) z] at h
  omega
theorem lc_pk_ok (hG : lc_G nt tm R q) (hS : lc_sat q w R nt n t) {x s e k : Nat} (h : lc_ve t nt n x s e k) : q (lc_pk q w t R x s e k).1 0 = x ∧ lc_vt q w t R n (lc_pk q w t R x s e k).1 2 s e (lc_pk q w t R x s e k).2 := by
  obtain ⟨hx, hs, he, hk, hc⟩ := h
  rw [hS x s e hx hs he] at hk hc
  unfold lc_n at hk hc
  rw [lc_cp_lt hc] at hk hc
  have H := lc_f_ok (f := lc_g q w t x s e) R 0 k (by rw [Nat.zero_add]; exact hk)
  obtain ⟨a, b, c⟩ := H
  have d := lc_S_le (f := lc_g q w t x s e) a (k := R) (by omega)
  have e0 : q (lc_f (lc_g q w t x s e) R 0 k).1 0 = x := by
    refine Decidable.byContradiction fun z => ?_
    have c0 : lc_g q w t x s e (lc_f (lc_g q w t x s e) R 0 k).1 = 0 := if_neg z
    omega
  have eg : lc_g q w t x s e (lc_f (lc_g q w t x s e) R 0 k).1 = lc_w q w t (lc_f (lc_g q w t x s e) R 0 k).1 3 s e := if_pos e0
  rw [eg] at c d
  unfold lc_pk
  exact ⟨e0, by omega, Nat.le_refl 2, hs, he, (lc_G_16 hG (by omega)).1, c, Nat.lt_of_le_of_lt d hc⟩
/-! H: entries, nodes -/
abbrev lc_E : Type := Nat × Nat × Nat × Nat × Nat
abbrev lc_N : Type := Nat × Nat × Nat × Nat
/-- r, j, start, end, rank, depth -/
abbrev lc_L : Type := Nat × Nat × Nat × Nat × Nat × Nat
def lc_k1 (c s m k d : Nat) : List lc_E := if c < 8 then [(c, s, m, k, d)] else []
def lc_kd (q : Nat → Nat → Nat) (w : Nat → Int32) (t : Nat → Nat) (r : Nat) : Nat → Nat → Nat → Nat → Nat → List lc_E
  | 0, _, _, _, _ => []
  | j + 1, s, e, k, d => lc_k1 (q r (3 - j)) s (lc_m q w t r j s e k).1 ((lc_m q w t r j s e k).2 / lc_w q w t r j (lc_m q w t r j s e k).1 e) d ++ (if (lc_m q w t r j s e k).1 < e then lc_kd q w t r j (lc_m q w t r j s e k).1 e ((lc_m q w t r j s e k).2 % lc_w q w t r j (lc_m q w t r j s e k).1 e) d else [])
theorem lc_kd_s {r j s e k d : Nat} : lc_kd q w t r (j + 1) s e k d = lc_k1 (q r (3 - j)) s (lc_m q w t r j s e k).1 ((lc_m q w t r j s e k).2 / lc_w q w t r j (lc_m q w t r j s e k).1 e) d ++ (if (lc_m q w t r j s e k).1 < e then lc_kd q w t r j (lc_m q w t r j s e k).1 e ((lc_m q w t r j s e k).2 % lc_w q w t r j (lc_m q w t r j s e k).1 e) d else []) := rfl
def lc_run (q : Nat → Nat → Nat) (w : Nat → Int32) (t : Nat → Nat) (R : Nat) : Nat → List lc_E → List lc_N
  | 0, _ => []
  | _ + 1, [] => []
  | f + 1, (x, s, e, k, d) :: l => ((lc_pk q w t R x s e k).1, s, e, d) :: lc_run q w t R f (lc_kd q w t (lc_pk q w t R x s e k).1 3 s e (lc_pk q w t R x s e k).2 (d + 1) ++ l)
theorem lc_run_s {f x s e k d : Nat} {l : List lc_E} : lc_run q w t R (f + 1) ((x, s, e, k, d) :: l) = ((lc_pk q w t R x s e k).1, s, e, d) :: lc_run q w t R f (lc_kd q w t (lc_pk q w t R x s e k).1 3 s e (lc_pk q w t R x s e k).2 (d + 1) ++ l) := rfl
theorem lc_run_n {f : Nat} : lc_run q w t R f [] = [] := by cases f <;> rfl
def lc_mu (rk : Nat → Nat) : List lc_E → Nat
  | [] => 0
  | (x, s, e, _, _) :: l => 17 * (e - s) - 15 + rk x + lc_mu rk l
theorem lc_mu_c {rk : Nat → Nat} {x s e k d : Nat} {l : List lc_E} : lc_mu rk ((x, s, e, k, d) :: l) = 17 * (e - s) - 15 + rk x + lc_mu rk l := rfl
theorem lc_mu_a {rk : Nat → Nat} (l m : List lc_E) : lc_mu rk (l ++ m) = lc_mu rk l + lc_mu rk m := by
  induction l with
  | nil => show lc_mu rk m = 0 + lc_mu rk m; omega
  | cons a l ih =>
    obtain ⟨x, s, e, k, d⟩ := a
    show 17 * (e - s) - 15 + rk x + lc_mu rk (l ++ m) = 17 * (e - s) - 15 + rk x + lc_mu rk l + lc_mu rk m
    rw [ih]; omega
def lc_ev (t : Nat → Nat) (nt n : Nat) : List lc_E → Prop
  | [] => True
  | (x, s, e, k, _) :: l => lc_ve t nt n x s e k ∧ lc_ev t nt n l
theorem lc_ev_a {t : Nat → Nat} {nt n : Nat} {l m : List lc_E} (h : lc_ev t nt n l) (h' : lc_ev t nt n m) : lc_ev t nt n (l ++ m) := by
  induction l with
  | nil => exact h'
  | cons a l ih =>
    obtain ⟨x, s, e, k, d⟩ := a
    exact ⟨h.1, ih h.2⟩
def lc_B (rk : Nat → Nat) (q : Nat → Nat → Nat) (r j s e : Nat) : Nat := if j = 2 then 17 * (e - s) - 16 + rk (q r 0) else 17 * (e - s) - 8
theorem lc_B_2 {r s e : Nat} : lc_B rk q r 2 s e = 17 * (e - s) - 16 + rk (q r 0) := if_pos rfl
theorem lc_B_n {r j s e : Nat} (h : j ≠ 2) : lc_B rk q r j s e = 17 * (e - s) - 8 := if_neg h
theorem lc_B_pos {r j s e : Nat} (h : s < e) : 1 ≤ lc_B rk q r j s e := by
  unfold lc_B; split <;> omega
/-- what a child takes of its tail's bound: c over [s, m), nothing behind it -/
theorem lc_B_end (hG : lc_G nt tm R q) (hA : lc_A R q rk) (hk : ∀ x, x < nt → rk x < nt) {r j s e : Nat} (hr : r < R) (hj : j ≤ 2) (hs : s < e) (hw : 0 < lc_w q w t r j e e) (h8 : q r (3 - j) < 8) : 17 * (e - s) - 15 + rk (q r (3 - j)) ≤ lc_B rk q r j s e := by
  have h1 := hk _ (lc_G_8 hG hr (3 - j) (by omega) h8)
  have h2 := hG.1
  by_cases hj2 : j = 2
  · subst hj2
    have h3 := hA r hr h8 (lc_m_un hG hr hw)
    rw [lc_B_2]
    show 17 * (e - s) - 15 + rk (q r 1) ≤ _
    omega
  · rw [lc_B_n hj2]; omega
theorem lc_B_mid (hG : lc_G nt tm R q) (hk : ∀ x, x < nt → rk x < nt) {r j s m e : Nat} (hr : r < R) (hj : j + 1 ≤ 2) (hs : s < m) (hm : m < e) (h8 : q r (3 - (j + 1)) < 8) : 17 * (m - s) - 15 + rk (q r (3 - (j + 1))) + lc_B rk q r j m e ≤ lc_B rk q r (j + 1) s e := by
  have h1 := hk _ (lc_G_8 hG hr (3 - (j + 1)) (by omega) h8)
  have h2 := hG.1
  rw [lc_B_n (j := j) (by omega)]
  unfold lc_B
  split <;> omega
theorem lc_B_ter {r j s e : Nat} (hj : j + 1 ≤ 2) (hm : s + 1 < e) : 1 + lc_B rk q r j (s + 1) e ≤ lc_B rk q r (j + 1) s e := by
  rw [lc_B_n (j := j) (by omega)]
  unfold lc_B
  split <;> omega
theorem lc_kd_ok (hG : lc_G nt tm R q) (hA : lc_A R q rk) (hk : ∀ x, x < nt → rk x < nt) {r d : Nat} : ∀ j s e k, lc_vt q w t R n r j s e k → lc_ev t nt n (lc_kd q w t r (j + 1) s e k d) ∧ lc_mu rk (lc_kd q w t r (j + 1) s e k d) ≤ lc_B rk q r j s e := by
  intro j
  induction j with
  | zero =>
    intro s e k h
    obtain ⟨m1, m2, m3, m4⟩ := lc_m_ok hG h
    have hme : ¬ (lc_m q w t r 0 s e k).1 < e := by
      intro z
      obtain ⟨j', e1, -⟩ := lc_m_nx hG h m1 z m3 m4
      omega
    rw [lc_kd_s, if_neg hme, List.append_nil]
    unfold lc_k1
    by_cases h8 : q r (3 - 0) < 8
    · rw [if_pos h8]
      have e1 : (lc_m q w t r 0 s e k).1 = e := by omega
      have hc := lc_m_ch hG h m1 m2 m3 m4 h8
      rw [e1] at hc m3 ⊢
      refine ⟨⟨hc, True.intro⟩, ?_⟩
      exact lc_B_end hG hA hk h.1 (by omega) h.2.2.1 (lc_mp (Nat.lt_of_le_of_lt (Nat.zero_le _) m3)).2 h8
    · rw [if_neg h8]
      exact ⟨True.intro, Nat.zero_le _⟩
  | succ j ih =>
    intro s e k h
    obtain ⟨m1, m2, m3, m4⟩ := lc_m_ok hG h
    have hp := lc_mp (Nat.lt_of_le_of_lt (Nat.zero_le _) m3)
    rw [lc_kd_s]
    have hj2 := h.2.1
    by_cases hme : (lc_m q w t r (j + 1) s e k).1 < e
    · rw [if_pos hme]
      obtain ⟨j', e1, hv⟩ := lc_m_nx hG h m1 hme m3 m4
      have e2 : j' = j := by omega
      subst e2
      obtain ⟨i1, i2⟩ := ih _ _ _ hv
      unfold lc_k1
      by_cases h8 : q r (3 - (j' + 1)) < 8
      · rw [if_pos h8]
        refine ⟨⟨lc_m_ch hG h m1 m2 m3 m4 h8, i1⟩, ?_⟩
        have := lc_B_mid hG hk h.1 hj2 m1 hme h8
        rw [List.cons_append, List.nil_append, lc_mu_c]
        omega
      · rw [if_neg h8]
        refine ⟨i1, ?_⟩
        have e3 := lc_m_te h8 hp.1
        have := lc_B_ter (rk := rk) (q := q) (r := r) (j := j') (s := s) (e := e) hj2 (by omega)
        rw [e3] at i2 ⊢
        show lc_mu rk (lc_kd q w t r (j' + 1) (s + 1) e _ d) ≤ _
        omega
    · rw [if_neg hme, List.append_nil]
      unfold lc_k1
      by_cases h8 : q r (3 - (j + 1)) < 8
      · rw [if_pos h8]
        have e1 : (lc_m q w t r (j + 1) s e k).1 = e := by omega
        have hc := lc_m_ch hG h m1 m2 m3 m4 h8
        rw [e1] at hc hp ⊢
        exact ⟨⟨hc, True.intro⟩, lc_B_end hG hA hk h.1 hj2 h.2.2.1 hp.2 h8⟩
      · rw [if_neg h8]
        exact ⟨True.intro, Nat.zero_le _⟩
/-- a node more: the bound falls -/
theorem lc_en_ok (hG : lc_G nt tm R q) (hA : lc_A R q rk) (hk : ∀ x, x < nt → rk x < nt) (hS : lc_sat q w R nt n t) {x s e k d : Nat} {l : List lc_E} (h : lc_ev t nt n ((x, s, e, k, d) :: l)) : lc_ev t nt n (lc_kd q w t (lc_pk q w t R x s e k).1 3 s e (lc_pk q w t R x s e k).2 (d + 1) ++ l) ∧ lc_mu rk (lc_kd q w t (lc_pk q w t R x s e k).1 3 s e (lc_pk q w t R x s e k).2 (d + 1) ++ l) + 1 ≤ lc_mu rk ((x, s, e, k, d) :: l) := by
  obtain ⟨h1, h2⟩ := h
  obtain ⟨p1, p2⟩ := lc_pk_ok hG hS h1
  obtain ⟨k1, k2⟩ := lc_kd_ok (d := d + 1) hG hA hk 2 s e _ p2
  have k3 : lc_mu rk (lc_kd q w t (lc_pk q w t R x s e k).1 3 s e (lc_pk q w t R x s e k).2 (d + 1)) ≤ lc_B rk q (lc_pk q w t R x s e k).1 2 s e := k2
  refine ⟨lc_ev_a k1 h2, ?_⟩
  rw [lc_mu_a, lc_mu_c]
  rw [lc_B_2, p1] at k3
  have := h1.2.1
  omega
/-! I: X's tails -/
def lc_ex (q : Nat → Nat → Nat) (w : Nat → Int32) (t : Nat → Nat) : List lc_L → List lc_E
  | [] => []
  | (r, j, s, e, k, d) :: l => lc_kd q w t r (j + 1) s e k d ++ lc_ex q w t l
def lc_tv (q : Nat → Nat → Nat) (w : Nat → Int32) (t : Nat → Nat) (R n : Nat) : List lc_L → Prop
  | [] => True
  | (r, j, s, e, k, _) :: l => lc_vt q w t R n r j s e k ∧ lc_tv q w t R n l
def lc_mt (rk : Nat → Nat) (q : Nat → Nat → Nat) : List lc_L → Nat
  | [] => 0
  | (r, j, s, e, _, _) :: l => lc_B rk q r j s e + lc_mt rk q l
theorem lc_mt_len (l : List lc_L) (h : lc_tv q w t R n l) : l.length ≤ lc_mt rk q l := by
  induction l with
  | nil => exact Nat.le_refl 0
  | cons a l ih =>
    obtain ⟨r, j, s, e, k, d⟩ := a
    have h1 := ih h.2
    have h2 := lc_B_pos (rk := rk) (q := q) (r := r) (j := j) h.1.2.2.1
    show l.length + 1 ≤ lc_B rk q r j s e + lc_mt rk q l
    omega
end LCC
end
section
section LCN
/-! rows of the kit, pasted -/
def bt (x : Int32) (i : Nat) : Bool := x.toBitVec.getLsbD i
theorem b_ext {x y : Int32} (h : ∀ i, i < 32 → bt x i = bt y i) : x = y := Int32.toBitVec_inj.mp (BitVec.eq_of_getLsbD_eq (fun i hi => h i hi))
theorem b_or (x y : Int32) (i : Nat) : bt (x ||| y) i = (bt x i || bt y i) := by unfold bt; rw [Int32.toBitVec_or, BitVec.getLsbD_or]
theorem b_and (x y : Int32) (i : Nat) : bt (x &&& y) i = (bt x i && bt y i) := by unfold bt; rw [Int32.toBitVec_and, BitVec.getLsbD_and]
theorem b_big {x : Int32} {i : Nat} (h : 32 ≤ i) : bt x i = false := BitVec.getLsbD_of_ge _ _ h
theorem b_0 (i : Nat) : bt 0 i = false := BitVec.getLsbD_zero
theorem s_l : ∀ n, n < 32 → ((nI n &&& 31).toBitVec.smod 32).toNat = n := by decide +kernel
theorem b_shl (n : Nat) (hn : n < 32) (x : Int32) {i : Nat} (hi : i < 32) : bt (x <<< (nI n &&& 31)) i = (decide (n ≤ i) && bt x (i - n)) := by
  unfold bt
  rw [Int32.toBitVec_shiftLeft]
  show (x.toBitVec <<< ((nI n &&& 31).toBitVec.smod 32).toNat).getLsbD i = _
  rw [s_l n hn, BitVec.getLsbD_shiftLeft]
  rcases Nat.lt_or_ge i n with h | h
  · simp [h, Nat.not_le.mpr h]
  · simp [hi, h, Nat.not_lt.mpr h]
theorem b_sshr (n : Nat) (hn : n < 32) (x : Int32) {i : Nat} (hi : i < 32) : bt (x >>> (nI n &&& 31)) i = if n + i < 32 then bt x (n + i) else bt x 31 := by
  unfold bt
  rw [Int32.toBitVec_shiftRight]
  show (x.toBitVec.sshiftRight ((nI n &&& 31).toBitVec.smod 32).toNat).getLsbD i = _
  rw [s_l n hn, BitVec.getLsbD_sshiftRight, BitVec.msb_eq_getLsbD_last]
  simp [hi]
/-! numbers of this claim -/
def lc_cd (c : Nat) : Int32 := if c = 16 then -1 else nI c
theorem lc_cd_16 : lc_cd 16 = -1 := if_pos rfl
theorem lc_cd_n {c : Nat} (h : ¬ c = 16) : lc_cd c = nI c := if_neg h
theorem lc_m1 {a : Nat} (h : a < 2 ^ 31) : ¬ nI a = -1 := by
  intro e
  have := nI_pos (n := a) h
  rw [e] at this
  exact this (by decide)
theorem lc_cd_e {c : Nat} (h : c ≤ 16) : lc_cd c = -1 ↔ c = 16 := by
  constructor
  · intro z
    refine Decidable.byContradiction fun hc => ?_
    rw [lc_cd_n hc] at z
    exact lc_m1 (by omega) z
  · intro z; subst z; exact lc_cd_16
def lc_rc (q : Nat → Nat → Nat) : Nat → Int32 := fun j => lc_cd (q (j / 4) (j % 4))
def lc_ra (q : Nat → Nat → Nat) (p : Nat) : Nat → Int32 := fun r => lc_cd (q r p)
def lc_tr (t : Nat → Nat) : Nat → Int32 := fun j => nI (t j)
theorem lc_rc_0 {q : Nat → Nat → Nat} {r : Nat} : lc_rc q (r * 4) = lc_cd (q r 0) := by
  unfold lc_rc; rw [show r * 4 / 4 = r by omega, show r * 4 % 4 = 0 by omega]
theorem lc_rc_p {q : Nat → Nat → Nat} {r p : Nat} (hp : p < 4) : lc_rc q (r * 4 + p) = lc_cd (q r p) := by
  unfold lc_rc; rw [show (r * 4 + p) / 4 = r by omega, show (r * 4 + p) % 4 = p by omega]
theorem lc_x4 (r : Nat) : nI r * 4 = nI (r * 4) := pk_mul r 4
theorem lc_x13 (r : Nat) : nI r * 13 = nI (r * 13) := pk_mul r 13
theorem lc_a2 (r : Nat) : nI r + 2 = nI (r + 2) := nI_add r 2
theorem lc_a3 (r : Nat) : nI r + 3 = nI (r + 3) := nI_add r 3
theorem lc_ixI (x s e : Nat) : nI x * 13 + nI s = nI (x * 13 + s) := by rw [lc_x13, nI_add]
theorem lc_ixN (x s e : Nat) : (nI x * 13 + nI s) * 13 + nI e = nI (lc_ix x s e) := by
  rw [lc_ixI x s e, lc_x13, nI_add]; rfl
theorem lc_tr_up {t : Nat → Nat} {k v : Nat} : upd (lc_tr t) k (nI v) = lc_tr (lc_up t k v) := by
  funext j
  unfold upd lc_tr lc_up
  split <;> rfl
theorem lc_0le {a : Nat} (h : a < 2 ^ 31) : nI a ≤ 0 ↔ a = 0 := by
  rw [← nI_0, nI_leI h (by omega)]; omega
theorem lc_eq0 {a : Nat} (h : a < 2 ^ 31) : nI a = 0 ↔ a = 0 := by
  rw [← nI_0, nI_eq h (by omega)]
/-- a branch by its meaning -/
theorem lc_if {c d A B : Prop} (e : c ↔ d) (f : d → A) (g : ¬ d → B) : (c → A) ∧ (¬ c → B) := ⟨fun h => f (e.mp h), fun h => g (fun z => h (e.mpr z))⟩
theorem lc_at {α : Sort _} {P : α → Prop} {a b : α} (e : a = b) (h : P b) : P a := e ▸ h
/-! bits -/
theorem lc_b_1 : ∀ j, j < 32 → bt 1 j = decide (j = 0) := by decide +kernel
theorem lc_b1 {a i : Nat} (ha : a < 32) (hi : i < 32) : bt ((1 : Int32) <<< (nI a &&& 31)) i = decide (i = a) := by
  rw [b_shl a ha 1 hi]
  by_cases h : a ≤ i
  · rw [lc_b_1 _ (by omega), decide_eq_true h, Bool.true_and]
    exact decide_eq_decide.mpr (by omega)
  · rw [decide_eq_false h, Bool.false_and, decide_eq_false (by omega)]
theorem lc_hb {K : Int32} {i : Nat} (hi : i < 31) : ((K >>> (nI i &&& 31)) &&& 1) = 0 ↔ bt K i = false := by
  have h0 : bt (K >>> (nI i &&& 31)) 0 = bt K i := by
    rw [b_sshr i (by omega) K (by omega), if_pos (by omega), Nat.add_zero]
  constructor
  · intro h
    have e : bt (K >>> (nI i &&& 31) &&& 1) 0 = bt 0 0 := by rw [h]
    rw [b_and, h0, b_0, lc_b_1 0 (by omega)] at e
    simpa using e
  · intro h
    refine b_ext ?_
    intro j hj
    rw [b_and, b_0, lc_b_1 j hj]
    by_cases e : j = 0
    · subst e; rw [h0, h]; rfl
    · rw [decide_eq_false e, Bool.and_false]
def lc_bs (K : Int32) (S : Nat → Bool) : Prop := ∀ i, i < 16 → bt K i = S i
theorem lc_bs_or {K : Int32} {S : Nat → Bool} {c : Nat} (h : lc_bs K S) (hc : c < 16) : lc_bs (K ||| ((1 : Int32) <<< (nI c &&& 31))) (fun i => S i || decide (i = c)) := by
  intro i hi
  rw [b_or, h i hi, lc_b1 (by omega) (by omega)]
/-! longs -/
theorem lc_cpL {x : Nat} (h : x < 2 ^ 62) {P : Int64 → Prop} (hp : P (lN (lc_cp x))) : (lN x ≤ 1000000 → P (lN x)) ∧ (¬ lN x ≤ 1000000 → P 1000000) := by
  have e : (lN x ≤ 1000000) ↔ x ≤ 1000000 := pk_lLE (a := x) (b := 1000000) (by omega) (by omega)
  refine lc_if e (fun z => ?_) (fun z => ?_)
  · rw [lc_cp_id z] at hp; exact hp
  · have : lc_cp x = 1000000 := if_neg (by omega)
    rw [this] at hp; exact hp
end LCN
end
section
section LXA
variable {q : Nat → Nat → Nat} {w : Nat → Int32} {t : Nat → Nat} {nt tm R n : Nat}
variable {xP xC xK xM xL : Int32} {ul wy oR oS oE oD gR gP gS gE gK gD : Nat → Int32}
/-- the form of a rule -/
def lc_fm (nt tm l a b c : Nat) : Prop := l < nt ∧ lc_va nt tm a ∧ ((b = 16 ∧ c = 16) ∨ (lc_va nt tm b ∧ (c = 16 ∨ lc_va nt tm c)))
def lc_Fm (nt tm : Nat) (p0 p1 p2 p3 : Int32) : Prop := ∃ l a b c, lc_fm nt tm l a b c ∧ p0 = nI l ∧ p1 = nI a ∧ p2 = lc_cd b ∧ p3 = lc_cd c
def lc_vN (nt : Nat) (x : Int32) : Prop := ∃ c, c < nt ∧ x = nI c
def lc_vS (nt tm : Nat) (x : Int32) : Prop := ∃ c, lc_va nt tm c ∧ x = nI c
theorem lc_vN_iff {x : Int32} (h8 : nt ≤ 8) : lc_vN nt x ↔ (¬ x < 0 ∧ ¬ nI nt ≤ x) := by
  constructor
  · rintro ⟨c, hc, rfl⟩
    exact ⟨nI_pos (by omega), nI_ge hc (by omega)⟩
  · rintro ⟨h1, h2⟩
    rcases pk_ix x (n := nt) (by omega) with h | h | h
    · exact absurd h h1
    · exact absurd h h2
    · exact h
theorem lc_8t : 8 + nI tm = nI (8 + tm) := nI_add 8 tm
theorem lc_vS_iff {x : Int32} (h8 : nt ≤ 8) (t8 : tm ≤ 8) : lc_vS nt tm x ↔ (lc_vN nt x ∨ (¬ x < 8 ∧ ¬ 8 + nI tm ≤ x)) := by
  rw [lc_8t]
  constructor
  · rintro ⟨c, hc, rfl⟩
    rcases hc with hc | ⟨h1, h2⟩
    · exact Or.inl ⟨c, hc, rfl⟩
    · exact Or.inr ⟨nI_nlt (b := 8) h1 (by omega), nI_ge h2 (by omega)⟩
  · rintro (⟨c, hc, rfl⟩ | ⟨h1, h2⟩)
    · exact ⟨c, Or.inl hc, rfl⟩
    · rcases pk_ix x (n := 8 + tm) (by omega) with h | h | ⟨c, hc, rfl⟩
      · exact absurd (Int32.lt_trans h (by decide)) h1
      · exact absurd h h2
      · refine ⟨c, Or.inr ⟨?_, hc⟩, rfl⟩
        refine Nat.le_of_not_lt fun z => h1 ?_
        exact nI_lt (b := 8) z (by omega)
theorem lx_isN {post : Int32 → Prop} {x : Int32} (h8 : nt ≤ 8) (ht : lc_vN nt x → post 1) (hf : ¬ lc_vN nt x → post 0) : wpX_isNonterminal post ((nI nt), (nI tm), (nI R), (nI n), xP, xC, xK, xM, xL, (lc_rc q), w, ul, (lc_tr t), wy, oR, oS, oE, oD, gR, gP, gS, gE, gK, gD) x := by
  unfold wpX_isNonterminal
  rw [lc_vN_iff h8] at ht hf
  exact br_c (fun h => hf (fun z => z.1 h)) (fun h => br_c (fun h' => hf (fun z => z.2 h')) (fun h' => ht ⟨h, h'⟩))
theorem lx_isS {post : Int32 → Prop} {x : Int32} (h8 : nt ≤ 8) (t8 : tm ≤ 8) (ht : lc_vS nt tm x → post 1) (hf : ¬ lc_vS nt tm x → post 0) : wpX_isSymbol post ((nI nt), (nI tm), (nI R), (nI n), xP, xC, xK, xM, xL, (lc_rc q), w, ul, (lc_tr t), wy, oR, oS, oE, oD, gR, gP, gS, gE, gK, gD) x := by
  unfold wpX_isSymbol
  rw [lc_vS_iff h8 t8] at ht hf
  refine lx_isN h8 (fun hN => ?_) (fun hN => ?_)
  · exact br_f (by decide) (ht (Or.inl hN))
  · refine br_t rfl ?_
    refine br_c (fun h => hf ?_) (fun h => br_c (fun h' => hf ?_) (fun h' => ht (Or.inr ⟨h, h'⟩)))
    · rintro (z | z)
      · exact hN z
      · exact z.1 h
    · rintro (z | z)
      · exact hN z
      · exact z.2 h'
theorem lc_va_16 {c : Nat} (h8 : nt ≤ 8) (t8 : tm ≤ 8) (h : lc_va nt tm c) : c < 16 := by
  unfold lc_va at h; omega
theorem lc_cd_va {c : Nat} (h8 : nt ≤ 8) (t8 : tm ≤ 8) (h : lc_va nt tm c) : lc_cd c = nI c := lc_cd_n (by have := lc_va_16 h8 t8 h; omega)
theorem lc_Fm_iff {p0 p1 p2 p3 : Int32} (h8 : nt ≤ 8) (t8 : tm ≤ 8) : lc_Fm nt tm p0 p1 p2 p3 ↔ lc_vN nt p0 ∧ lc_vS nt tm p1 ∧ ((p2 = -1 ∧ p3 = -1) ∨ (lc_vS nt tm p2 ∧ (p3 = -1 ∨ lc_vS nt tm p3))) := by
  constructor
  · rintro ⟨l, a, b, c, ⟨h1, h2, h3⟩, rfl, rfl, rfl, rfl⟩
    refine ⟨⟨l, h1, rfl⟩, ⟨a, h2, rfl⟩, ?_⟩
    rcases h3 with ⟨rfl, rfl⟩ | ⟨hb, rfl | hc⟩
    · exact Or.inl ⟨lc_cd_16, lc_cd_16⟩
    · exact Or.inr ⟨⟨b, hb, lc_cd_va h8 t8 hb⟩, Or.inl lc_cd_16⟩
    · exact Or.inr ⟨⟨b, hb, lc_cd_va h8 t8 hb⟩, Or.inr ⟨c, hc, lc_cd_va h8 t8 hc⟩⟩
  · rintro ⟨⟨l, h1, rfl⟩, ⟨a, h2, rfl⟩, h3⟩
    rcases h3 with ⟨rfl, rfl⟩ | ⟨⟨b, hb, rfl⟩, rfl | ⟨c, hc, rfl⟩⟩
    · exact ⟨l, a, 16, 16, ⟨h1, h2, Or.inl ⟨rfl, rfl⟩⟩, rfl, rfl, lc_cd_16.symm, lc_cd_16.symm⟩
    · exact ⟨l, a, b, 16, ⟨h1, h2, Or.inr ⟨hb, Or.inl rfl⟩⟩, rfl, rfl, (lc_cd_va h8 t8 hb).symm, lc_cd_16.symm⟩
    · exact ⟨l, a, b, c, ⟨h1, h2, Or.inr ⟨hb, Or.inr hc⟩⟩, rfl, rfl, (lc_cd_va h8 t8 hb).symm, (lc_cd_va h8 t8 hc).symm⟩
theorem lc_vS_m1 {x : Int32} (h8 : nt ≤ 8) (t8 : tm ≤ 8) (h : lc_vS nt tm x) : ¬ x = -1 := by
  obtain ⟨c, hc, rfl⟩ := h
  exact lc_m1 (by have := lc_va_16 h8 t8 hc; omega)
theorem lx_form {post : Int32 → Prop} {p0 p1 p2 p3 : Int32} (h8 : nt ≤ 8) (t8 : tm ≤ 8) (ht : lc_Fm nt tm p0 p1 p2 p3 → post 1) (hf : ¬ lc_Fm nt tm p0 p1 p2 p3 → post 0) : wpX_isRuleForm post ((nI nt), (nI tm), (nI R), (nI n), xP, xC, xK, xM, xL, (lc_rc q), w, ul, (lc_tr t), wy, oR, oS, oE, oD, gR, gP, gS, gE, gK, gD) p0 p1 p2 p3 := by
  unfold wpX_isRuleForm
  rw [lc_Fm_iff h8 t8] at ht hf
  refine lx_isN h8 (fun h0 => ?_) (fun h0 => ?_)
  · refine br_f (by decide) ?_
    refine lx_isS h8 t8 (fun h1 => ?_) (fun h1 => ?_)
    · refine br_f (by decide) ?_
      refine br_c (fun e2 => br_c (fun e3 => ht ⟨h0, h1, Or.inl ⟨e2, e3⟩⟩) (fun e3 => hf ?_)) (fun e2 => ?_)
      · rintro ⟨-, -, z | z⟩
        · exact e3 z.2
        · exact lc_vS_m1 h8 t8 z.1 e2
      · refine lx_isS h8 t8 (fun h2 => ?_) (fun h2 => ?_)
        · refine br_f (by decide) (br_c (fun e3 => ht ⟨h0, h1, Or.inr ⟨h2, Or.inl e3⟩⟩) (fun e3 => ?_))
          refine lx_isS h8 t8 (fun h3 => ?_) (fun h3 => ?_)
          · exact br_f (by decide) (ht ⟨h0, h1, Or.inr ⟨h2, Or.inr h3⟩⟩)
          · refine br_t rfl (hf ?_)
            rintro ⟨-, -, z | z⟩
            · exact e2 z.1
            · rcases z.2 with z | z
              · exact e3 z
              · exact h3 z
        · refine br_t rfl (hf ?_)
          rintro ⟨-, -, z | z⟩
          · exact e2 z.1
          · exact h2 z.1
    · exact br_t rfl (hf (fun z => h1 z.2.1))
  · exact br_t rfl (hf (fun z => h0 z.1))
theorem lx_holds {post : Int32 → Prop} {K : Int32} {i : Nat} (hi : i < 31) (ht : bt K i = true → post 1) (hf : bt K i = false → post 0) : wpX_holds post () K (nI i) := by
  unfold wpX_holds
  refine lc_if (lc_hb hi) hf (fun h => ht ?_)
  simpa using h
theorem lx_unit {post : Int32 → Prop} {r : Nat} (hG : lc_G nt tm R q) (h24 : R ≤ 24) (hr : r < R) (ht : q r 1 < 8 → q r 2 = 16 → post 1) (hf : ¬ (q r 1 < 8 ∧ q r 2 = 16) → post 0) : wpX_isUnitRule post ((nI nt), (nI tm), (nI R), (nI n), xP, xC, xK, xM, xL, (lc_rc q), w, ul, (lc_tr t), wy, oR, oS, oE, oD, gR, gP, gS, gE, gK, gD) (nI r) := by
  unfold wpX_isUnitRule
  have h1 := (lc_G_16 hG hr).1
  have h1' := lc_G_r hG hr 1 (by omega)
  have h2 := lc_G_r hG hr 2 (by omega)
  refine nm_r (lc_x4 r) ?_
  have e1 : nI (r * 4) + 1 = nI (r * 4 + 1) := nI_1 _
  have e2 : nI (r * 4) + 2 = nI (r * 4 + 2) := lc_a2 _
  rw [e1, e2, nI_clamp (by omega), nI_clamp (by omega), lc_rc_p (by omega), lc_rc_p (by omega), lc_cd_n h1]
  refine ⟨vp_in_nI (by omega) (by omega), ?_⟩
  refine pk_le 8 (q r 1) (fun h => hf (by omega)) (fun h => ⟨vp_in_nI (by omega) (by omega), ?_⟩)
  exact lc_if (lc_cd_e h2) (fun z => ht h z) (fun z => hf (fun y => z y.2))
theorem lx_cf61 {post : Int32 → Prop} {J7 J19 : Int32 → Int32 → Prop} {x2 x4 K : Int32} {i : Nat} (hG : lc_G nt tm R q) (h24 : R ≤ 24) (hr : i < R) (h : J19 (K ||| ((1 : Int32) <<< (nI (q i 1) &&& 31))) (nI (i + 1))) : wX_cornersFrom_61 post J7 J19 x2 K x4 (nI i) (nI (i * 4)) (nI nt) (nI tm) (nI R) (nI n) xP xC xK xM xL (lc_rc q) w ul (lc_tr t) wy oR oS oE oD gR gP gS gE gK gD := by
  unfold wX_cornersFrom_61
  have h1 := (lc_G_16 hG hr).1
  have e1 : nI (i * 4) + 1 = nI (i * 4 + 1) := nI_1 _
  rw [e1, nI_clamp (by omega), lc_rc_p (by omega), lc_cd_n h1]
  exact ⟨vp_in_nI (by omega) (by omega), nm_e (nm_r (nI_1 i) h)⟩
theorem lx_cf19 {post : Int32 → Prop} {J7 : Int32 → Int32 → Prop} {u : Bool} {k : Nat} {S : Nat → Bool} (hG : lc_G nt tm R q) (h24 : R ≤ 24) (hJ : ∀ K', lc_bs K' (lc_ps u q R S) → J7 K' (nI (k + 1))) : ∀ d i K, i + d = R → lc_bs K (lc_ps u q i S) → wX_cornersFrom_19 post J7 (if u = true then 1 else 0) (nI k) (nI nt) (nI tm) (nI R) (nI n) xP xC xK xM xL (lc_rc q) w ul (lc_tr t) wy oR oS oE oD gR gP gS gE gK gD (d + 1) K (nI i) := by
  intro d
  induction d with
  | zero =>
    intro i K hi hK
    obtain rfl : i = R := by omega
    exact br_t (nI_le (Nat.le_refl _) (by omega)) (nm_r (nI_1 k) (hJ K hK))
  | succ d ih =>
    intro i K hi hK
    have hr : i < R := by omega
    have h0 := (hG.2.2 i hr).1
    have h8 := hG.1
    have h1 := lc_G_r hG hr 1 (by omega)
    have h16 := (lc_G_16 hG hr).1
    rw [wX_cornersFrom_19]
    refine br_f (nI_ge hr (by omega)) (nm_r (lc_x4 i) ?_)
    rw [nI_clamp (by omega), lc_rc_0, lc_cd_n (by omega)]
    refine ⟨vp_in_nI (by omega) (by omega), ?_⟩
    have hin : bt K (q i 0) = lc_ps u q i S (q i 0) := hK _ (by omega)
    have hY : bt K (q i 0) = true → lc_ca u q i → wX_cornersFrom_61 post J7 (wX_cornersFrom_19 post J7 (if u = true then 1 else 0) (nI k) (nI nt) (nI tm) (nI R) (nI n) xP xC xK xM xL (lc_rc q) w ul (lc_tr t) wy oR oS oE oD gR gP gS gE gK gD (d + 1)) (if u = true then 1 else 0) K (nI k) (nI i) (nI (i * 4)) (nI nt) (nI tm) (nI R) (nI n) xP xC xK xM xL (lc_rc q) w ul (lc_tr t) wy oR oS oE oD gR gP gS gE gK gD := by
      intro hb hc
      refine lx_cf61 hG h24 hr (ih (i + 1) _ (by omega) ?_)
      show lc_bs _ (lc_st u q i (lc_ps u q i S))
      rw [lc_st_t (by rw [← hin]; exact hb) hc]
      exact lc_bs_or hK (by omega)
    have hN : ¬ (bt K (q i 0) = true ∧ lc_ca u q i) → wX_cornersFrom_19 post J7 (if u = true then 1 else 0) (nI k) (nI nt) (nI tm) (nI R) (nI n) xP xC xK xM xL (lc_rc q) w ul (lc_tr t) wy oR oS oE oD gR gP gS gE gK gD (d + 1) K (nI (i + 1)) := by
      intro hc
      refine ih (i + 1) K (by omega) ?_
      show lc_bs K (lc_st u q i (lc_ps u q i S))
      rw [lc_st_f (by rw [← hin]; exact hc)]
      exact hK
    refine lx_holds (by omega) (fun hb => ?_) (fun hb => ?_)
    · refine br_f (by decide) ?_
      cases u with
      | false => exact br_t rfl (hY hb (fun z => by cases z))
      | true =>
        refine br_f (by decide) ?_
        refine lx_unit hG h24 hr (fun z1 z2 => ?_) (fun z => ?_)
        · exact br_f (by decide) (hY hb (fun _ => ⟨z1, z2⟩))
        · exact br_t rfl (nm_r (nI_1 i) (hN (fun y => z (y.2 rfl))))
    · refine br_t rfl (nm_r (nI_1 i) (hN (fun y => ?_)))
      rw [hb] at y
      exact absurd y.1 (by decide)
theorem lx_cf7 {post : Int32 → Prop} {u : Bool} {S : Nat → Bool} (hG : lc_G nt tm R q) (h24 : R ≤ 24) (hp : ∀ K', lc_bs K' (lc_it u q R nt S) → post K') : ∀ d k K, k + d = nt → lc_bs K (lc_it u q R k S) → wX_cornersFrom_7 post (if u = true then 1 else 0) (nI nt) (nI tm) (nI R) (nI n) xP xC xK xM xL (lc_rc q) w ul (lc_tr t) wy oR oS oE oD gR gP gS gE gK gD (d + 1) K (nI k) := by
  intro d
  induction d with
  | zero =>
    intro k K hk hK
    obtain rfl : k = nt := by omega
    have h8 := hG.1
    exact br_t (nI_le (Nat.le_refl _) (by omega)) (hp K hK)
  | succ d ih =>
    intro k K hk hK
    have h8 := hG.1
    rw [wX_cornersFrom_7]
    refine br_f (nI_ge (by omega) (by omega)) ⟨R + 1, ?_⟩
    exact lx_cf19 (S := lc_it u q R k S) hG h24 (fun K' hK' => ih (k + 1) K' (by omega) hK') R 0 K (by omega) hK
theorem lx_cf {post : Int32 → Prop} {u : Bool} {a : Nat} (hG : lc_G nt tm R q) (h24 : R ≤ 24) (ha : a < 16) (hp : ∀ K', lc_bs K' (lc_it u q R nt (fun i => decide (i = a))) → post K') : wpX_cornersFrom post ((nI nt), (nI tm), (nI R), (nI n), xP, xC, xK, xM, xL, (lc_rc q), w, ul, (lc_tr t), wy, oR, oS, oE, oD, gR, gP, gS, gE, gK, gD) (nI a) (if u = true then 1 else 0) := by
  unfold wpX_cornersFrom
  refine nm_e ⟨nt + 1, ?_⟩
  exact lx_cf7 hG h24 hp nt 0 _ (by omega) (fun i hi => lc_b1 (by omega) (by omega))
/-- the set of a's corners -/
def lc_co (u : Bool) (q : Nat → Nat → Nat) (R nt a : Nat) : Nat → Bool := lc_it u q R nt (fun i => decide (i = a))
theorem lx_cyc {post : Int32 → Prop} {l : Nat} {a : Nat} (hG : lc_G nt tm R q) (h24 : R ≤ 24) (hl : l < nt) (ha : lc_va nt tm a) (ht : a < nt → lc_co true q R nt a l = true → post 1) (hf : (a < nt → lc_co true q R nt a l = false) → post 0) : wpX_closesUnitCycle post ((nI nt), (nI tm), (nI R), (nI n), xP, xC, xK, xM, xL, (lc_rc q), w, ul, (lc_tr t), wy, oR, oS, oE, oD, gR, gP, gS, gE, gK, gD) (nI l) (nI a) := by
  unfold wpX_closesUnitCycle
  have h8 := hG.1
  have h16 := lc_va_16 hG.1 hG.2.1 ha
  refine lx_isN h8 (fun hN => ?_) (fun hN => ?_)
  · obtain ⟨c, hc, e⟩ := hN
    have ha : a = c := (nI_eq (by omega) (by omega)).mp e
    subst ha
    refine br_f (by decide) ?_
    refine lx_cf (u := true) hG h24 h16 (fun K' hK' => ?_)
    refine lx_holds (by omega) (fun hb => ?_) (fun hb => ?_)
    · refine ⟨rfl, ht hc ?_⟩
      rw [hK' l (by omega)] at hb; exact hb
    · refine ⟨rfl, hf (fun _ => ?_)⟩
      rw [hK' l (by omega)] at hb; exact hb
  · refine br_t rfl (hf (fun z => absurd ⟨a, z, rfl⟩ hN))
theorem lx_add44 {post : Int32 → St2 → Prop} {l a b c : Nat} (h24 : R < 24) (hp : post (nI R) ((nI nt), (nI tm), (nI (R + 1)), (nI n), 0, xC, (-1), 0, xL, (lc_rc (lc_add q R l a b c)), w, ul, (lc_tr t), wy, oR, oS, oE, oD, gR, gP, gS, gE, gK, gD)) (e0 : lc_cd l = nI l) (e1 : lc_cd a = nI a) : wX_addRule_44 post (nI l) (nI a) (lc_cd b) (lc_cd c) (nI nt) (nI tm) (nI R) (nI n) xP xC xK xM xL (lc_rc q) w ul (lc_tr t) wy oR oS oE oD gR gP gS gE gK gD := by
  unfold wX_addRule_44
  refine nm_r (lc_x4 R) ?_
  have i1 : nI (R * 4) + 1 = nI (R * 4 + 1) := nI_1 _
  have i2 : nI (R * 4) + 2 = nI (R * 4 + 2) := lc_a2 _
  have i3 : nI (R * 4) + 3 = nI (R * 4 + 3) := lc_a3 _
  rw [i1, i2, i3, nI_clamp (by omega), nI_clamp (by omega), nI_clamp (by omega), nI_clamp (by omega)]
  refine ⟨vp_in_nI (by omega) (by omega), nm_e ⟨vp_in_nI (by omega) (by omega), nm_e ⟨vp_in_nI (by omega) (by omega), nm_e ⟨vp_in_nI (by omega) (by omega), nm_e (nm_r (nI_1 R) ?_)⟩⟩⟩⟩
  have e : upd (upd (upd (upd (lc_rc q) (R * 4) (nI l)) (R * 4 + 1) (nI a)) (R * 4 + 2) (lc_cd b)) (R * 4 + 3) (lc_cd c) = lc_rc (lc_add q R l a b c) := by
    funext j
    unfold upd lc_rc lc_add
    by_cases hj : j / 4 = R
    · have : j % 4 = 0 ∨ j % 4 = 1 ∨ j % 4 = 2 ∨ j % 4 = 3 := by omega
      rcases this with z | z | z | z
      · rw [if_neg (by omega), if_neg (by omega), if_neg (by omega), if_pos (by omega), if_pos hj, if_pos z, e0]
      · rw [if_neg (by omega), if_neg (by omega), if_pos (by omega), if_pos hj, if_neg (by omega), if_pos z, e1]
      · rw [if_neg (by omega), if_pos (by omega), if_pos hj, if_neg (by omega), if_neg (by omega), if_pos z]
      · rw [if_pos (by omega), if_pos hj, if_neg (by omega), if_neg (by omega), if_neg (by omega)]
    · rw [if_neg (by omega), if_neg (by omega), if_neg (by omega), if_neg (by omega), if_neg hj]
  rw [e]
  exact hp
/-- X's addRule -/
theorem lx_addRule {post : Int32 → St2 → Prop} {p0 p1 p2 p3 : Int32} (hG : lc_G nt tm R q) (h24 : R ≤ 24)
    (h2 : ¬ lc_Fm nt tm p0 p1 p2 p3 → post (-2) ((nI nt), (nI tm), (nI R), (nI n), xP, xC, xK, xM, xL, (lc_rc q), w, ul, (lc_tr t), wy, oR, oS, oE, oD, gR, gP, gS, gE, gK, gD))
    (h3 : lc_Fm nt tm p0 p1 p2 p3 → R = 24 → post (-3) ((nI nt), (nI tm), (nI R), (nI n), xP, xC, xK, xM, xL, (lc_rc q), w, ul, (lc_tr t), wy, oR, oS, oE, oD, gR, gP, gS, gE, gK, gD))
    (h4 : ∀ l a, lc_fm nt tm l a 16 16 → p0 = nI l → p1 = nI a → p2 = -1 → p3 = -1 → R < 24 → a < nt → lc_co true q R nt a l = true → post (-4) ((nI nt), (nI tm), (nI R), (nI n), xP, xC, xK, xM, xL, (lc_rc q), w, ul, (lc_tr t), wy, oR, oS, oE, oD, gR, gP, gS, gE, gK, gD))
    (h0 : ∀ l a b c, lc_fm nt tm l a b c → p0 = nI l → p1 = nI a → p2 = lc_cd b → p3 = lc_cd c → R < 24 → (b = 16 → a < nt → lc_co true q R nt a l = false) → post (nI R) ((nI nt), (nI tm), (nI (R + 1)), (nI n), 0, xC, (-1), 0, xL, (lc_rc (lc_add q R l a b c)), w, ul, (lc_tr t), wy, oR, oS, oE, oD, gR, gP, gS, gE, gK, gD)) :
    wpX_addRule post ((nI nt), (nI tm), (nI R), (nI n), xP, xC, xK, xM, xL, (lc_rc q), w, ul, (lc_tr t), wy, oR, oS, oE, oD, gR, gP, gS, gE, gK, gD) p0 p1 p2 p3 := by
  unfold wpX_addRule
  have h8 := hG.1
  have t8 := hG.2.1
  refine lx_form h8 t8 (fun hF => ?_) (fun hF => ?_)
  · refine br_f (by decide) ?_
    have hF' := hF
    obtain ⟨l, a, b, c, hf, rfl, rfl, rfl, rfl⟩ := hF
    have hf' := hf
    obtain ⟨f1, f2, f3⟩ := hf'
    have hb16 : b ≤ 16 := by
      rcases f3 with ⟨rfl, -⟩ | ⟨z, -⟩
      · omega
      · have := lc_va_16 h8 t8 z; omega
    refine pk_lt R 24 (fun hR => ?_) (fun hR => h3 hF' (by omega))
    refine lc_if (lc_cd_e hb16) (fun e => ?_) (fun e => ?_)
    · subst e
      obtain rfl : c = 16 := by
        rcases f3 with ⟨-, z⟩ | ⟨z, -⟩
        · exact z
        · have := lc_va_16 h8 t8 z; omega
      refine lx_cyc hG h24 f1 f2 (fun ha hc => ?_) (fun hc => ?_)
      · exact br_f (by decide) (h4 l a hf rfl rfl lc_cd_16 lc_cd_16 hR ha hc)
      · exact br_t rfl (lx_add44 hR (h0 l a 16 16 hf rfl rfl rfl rfl hR (fun _ => hc)) (lc_cd_n (by omega)) (lc_cd_va h8 t8 f2))
    · exact lx_add44 hR (h0 l a b c hf rfl rfl rfl rfl hR (fun z => absurd z e)) (lc_cd_n (by omega)) (lc_cd_va h8 t8 f2)
  · exact br_t rfl (h2 hF)
end LXA
end
section
section LXB
variable {q : Nat → Nat → Nat} {w : Nat → Int32} {t : Nat → Nat} {nt tm R n : Nat}
variable {xP xC xK xM xL : Int32} {ul wy oR oS oE oD gR gP gS gE gK gD : Nat → Int32}
theorem lx_sym {post : Int32 → Prop} {c s e : Nat} (hc : c < 16) (hs : s < e) (he : e ≤ 12) (h : post (nI (lc_y w t c s e))) : wpX_symbolTrees post ((nI nt), (nI tm), (nI R), (nI n), xP, xC, xK, xM, xL, (lc_rc q), w, ul, (lc_tr t), wy, oR, oS, oE, oD, gR, gP, gS, gE, gK, gD) (nI c) (nI s) (nI e) := by
  unfold wpX_symbolTrees
  unfold lc_y at h
  refine pk_le 8 c (fun h8 => ?_) (fun h8 => ?_)
  · rw [if_neg (by omega)] at h
    have e1 : nI e - nI s = nI (e - s) := pk_sub (by omega)
    have e2 : nI c - 8 = nI (c - 8) := pk_sub (a := c) (b := 8) (by omega)
    rw [e1, e2]
    refine pk_eq (e - s) 1 (fun z => ⟨vp_in_nI (by omega) (by omega), ?_⟩) (fun z => ?_)
    · rw [nI_clamp (by omega)]
      refine br_c (fun z2 => ?_) (fun z2 => ?_)
      · rw [if_pos ⟨by omega, z2⟩] at h; exact h
      · rw [if_neg (fun y => z2 y.2)] at h; exact h
    · rw [if_neg (fun y => z (by omega))] at h; exact h
  · rw [if_pos h8] at h
    have hx := lc_ix_lt (x := c) (s := s) (e := e) h8 (by omega) (by omega)
    rw [lc_ixN, nI_clamp (by omega)]
    exact ⟨vp_in_nI hx (by omega), h⟩
theorem lx_cap {post : Int32 → Prop} {a b c : Nat} (ha : a ≤ 1000000) (hb : b ≤ 1000000) (hc : c ≤ 1000000) (h : post (nI (lc_cp (a + b * c)))) : wpX_cappedSum post () (nI a) (nI b) (nI c) := by
  unfold wpX_cappedSum
  have hm : b * c ≤ 1000000 * 1000000 := Nat.mul_le_mul hb hc
  have e1 : (nI a).toInt64 + (nI b).toInt64 * (nI c).toInt64 = lN (a + b * c) := by
    rw [nI_l (by omega), nI_l (by omega), nI_l (by omega), lN_mul, lN_add]
  refine nm_r e1 ?_
  have e2 : (1000000 ≤ lN (a + b * c)) ↔ 1000000 ≤ a + b * c := pk_lLE (a := 1000000) (b := a + b * c) (by omega) (by omega)
  refine lc_if e2 (fun z => ?_) (fun z => ?_)
  · have : lc_cp (a + b * c) = 1000000 := if_neg (by omega)
    rw [this] at h; exact h
  · have : lc_cp (a + b * c) = a + b * c := if_pos (by omega)
    rw [this] at h
    rw [lN_i]; exact h
/-- the ways behind symbol c, before it -/
def lc_pb (w : Nat → Int32) (t : Nat → Nat) (c e : Nat) (v : Nat → Nat) (k : Nat) : Nat := lc_cp (lc_S (fun i => lc_y w t c k i * v i) (k + 1) (e + 1))
theorem lx_pb18 {post : St2 → Prop} {J3 : Int32 → (Nat → Int32) → (Nat → Int32) → (Nat → Int32) → (Nat → Int32) → (Nat → Int32) → (Nat → Int32) → (Nat → Int32) → (Nat → Int32) → (Nat → Int32) → (Nat → Int32) → (Nat → Int32) → (Nat → Int32) → (Nat → Int32) → (Nat → Int32) → (Nat → Int32) → Prop} {c k e : Nat} {v : Nat → Nat} (ht : ∀ j, t j ≤ 1000000) (hc : c < 16) (hk : k ≤ e) (he : e ≤ 12) (hv : ∀ i, v i ≤ 1000000) (hw : ∀ i, k < i → i ≤ e → wy i = nI (v i)) (hJ : J3 (nI (k + 1)) (lc_rc q) w ul (lc_tr t) (upd wy k (nI (lc_pb w t c e v k))) oR oS oE oD gR gP gS gE gK gD) :
    ∀ d i, i + d = e + 1 → k + 1 ≤ i → wX_putBefore_18 post J3 (nI c) (nI e) (nI k) (nI nt) (nI tm) (nI R) (nI n) xP xC xK xM xL (lc_rc q) w ul (lc_tr t) wy oR oS oE oD gR gP gS gE gK gD (d + 1) (nI (lc_cp (lc_S (fun i => lc_y w t c k i * v i) (k + 1) i))) (nI i) := by
  intro d
  induction d with
  | zero =>
    intro i hi h1
    obtain rfl : i = e + 1 := by omega
    refine br_t (nI_lt (by omega) (by omega)) ⟨vp_in_nI (by omega) (by omega), ?_⟩
    rw [nI_clamp (by omega)]
    exact nm_e (nm_r (nI_1 k) hJ)
  | succ d ih =>
    intro i hi h1
    rw [wX_putBefore_18]
    have hi2 : i ≤ e := by omega
    have H := ih (i + 1) (by omega) (by omega)
    rw [lc_S_s h1] at H
    refine br_f (nI_nlt hi2 (by omega)) ⟨vp_in_nI (by omega) (by omega), ?_⟩
    have hvi := hv i
    rw [nI_clamp (by omega), hw i (by omega) hi2]
    refine lc_if (lc_0le (by omega)) (fun z => ?_) (fun z => ?_)
    · rw [z, Nat.mul_zero, Nat.add_zero] at H
      exact nm_r (nI_1 i) H
    · refine lx_sym hc (by omega) (by omega) ⟨vp_in_nI (by omega) (by omega), ?_⟩
      refine lx_cap (lc_cp_le _) (lc_y_le ht _ _ _) hvi ?_
      rw [lc_cp_a]
      exact nm_r (nI_1 i) H
theorem lx_pb3 {post : St2 → Prop} {c s e : Nat} {v : Nat → Nat} (ht : ∀ j, t j ≤ 1000000) (hc : c < 16) (hs : s ≤ e) (he : e ≤ 12) (hv : ∀ i, v i ≤ 1000000) (hp : ∀ wy', (∀ k, s ≤ k → k ≤ e → wy' k = nI (lc_pb w t c e v k)) → post ((nI nt), (nI tm), (nI R), (nI n), xP, xC, xK, xM, xL, (lc_rc q), w, ul, (lc_tr t), wy', oR, oS, oE, oD, gR, gP, gS, gE, gK, gD)) :
    ∀ d k wy, k + d = e + 1 → s ≤ k → (∀ i, s ≤ i → i < k → wy i = nI (lc_pb w t c e v i)) → (∀ i, k ≤ i → i ≤ e → wy i = nI (v i)) → wX_putBefore_3 post (nI c) (nI e) (nI nt) (nI tm) (nI R) (nI n) xP xC xK xM xL (d + 1) (nI k) (lc_rc q) w ul (lc_tr t) wy oR oS oE oD gR gP gS gE gK gD := by
  intro d
  induction d with
  | zero =>
    intro k wy hk hsk h1 h2
    obtain rfl : k = e + 1 := by omega
    exact br_t (nI_lt (by omega) (by omega)) (hp wy (fun i a b => h1 i a (by omega)))
  | succ d ih =>
    intro k wy hk hsk h1 h2
    rw [wX_putBefore_3]
    refine br_f (nI_nlt (by omega) (by omega)) (nm_r (nI_1 k) ⟨e - k + 1, ?_⟩)
    have h0 : lc_S (fun i => lc_y w t c k i * v i) (k + 1) (k + 1) = 0 := lc_S_0 (Nat.le_refl _)
    have H := lx_pb18 (post := post) (J3 := wX_putBefore_3 post (nI c) (nI e) (nI nt) (nI tm) (nI R) (nI n) xP xC xK xM xL (d + 1)) (xP := xP) (xC := xC) (xK := xK) (xM := xM) (xL := xL) (nt := nt) (tm := tm) (R := R) (n := n) (q := q) (w := w) (t := t) (ul := ul) (wy := wy) (oR := oR) (oS := oS) (oE := oE) (oD := oD) (gR := gR) (gP := gP) (gS := gS) (gE := gE) (gK := gK) (gD := gD) (c := c) (k := k) (e := e) (v := v) ht hc (by omega) he hv (fun i a b => h2 i (by omega) b) ?_ (e - k) (k + 1) (by omega) (by omega)
    · rw [h0] at H
      exact H
    · refine ih (k + 1) _ (by omega) (by omega) ?_ ?_
      · intro i a b
        by_cases z : i = k
        · subst z; exact pk_us
        · rw [pk_un z]; exact h1 i a (by omega)
      · intro i a b
        rw [pk_un (by omega)]; exact h2 i (by omega) b
theorem lx_put {post : St2 → Prop} {c s e : Nat} {v : Nat → Nat} (ht : ∀ j, t j ≤ 1000000) (hc : c < 16) (hs : s ≤ e) (he : e ≤ 12) (hv : ∀ i, v i ≤ 1000000) (hw : ∀ i, s ≤ i → i ≤ e → wy i = nI (v i)) (hp : ∀ wy', (∀ k, s ≤ k → k ≤ e → wy' k = nI (lc_pb w t c e v k)) → post ((nI nt), (nI tm), (nI R), (nI n), xP, xC, xK, xM, xL, (lc_rc q), w, ul, (lc_tr t), wy', oR, oS, oE, oD, gR, gP, gS, gE, gK, gD)) : wpX_putBefore post ((nI nt), (nI tm), (nI R), (nI n), xP, xC, xK, xM, xL, (lc_rc q), w, ul, (lc_tr t), wy, oR, oS, oE, oD, gR, gP, gS, gE, gK, gD) (nI c) (nI s) (nI e) := by
  unfold wpX_putBefore
  exact ⟨e + 1 - s + 1, lx_pb3 ht hc hs he hv hp (e + 1 - s) s wy (by omega) (Nat.le_refl _) (fun i a b => by omega) hw⟩
/-- the last i symbols of rule r stand in the ways -/
theorem lx_tt35 {post : Int32 → St2 → Prop} {r j s e : Nat} (hG : lc_G nt tm R q) (h24 : R ≤ 24) (ht : ∀ j, t j ≤ 1000000) (hr : r < R) (hj : j ≤ 3) (hs : s ≤ e) (he : e ≤ 12) (hp : ∀ wy', post (nI (lc_w q w t r j s e)) ((nI nt), (nI tm), (nI R), (nI n), xP, xC, xK, xM, xL, (lc_rc q), w, ul, (lc_tr t), wy', oR, oS, oE, oD, gR, gP, gS, gE, gK, gD)) :
    ∀ d i wy, i + d = j → (∀ k, s ≤ k → k ≤ e → wy k = nI (lc_w q w t r i k e)) → wX_tailTrees_35 post (nI r) (nI (4 - j)) (nI s) (nI e) (d + 1) (nI (3 - i)) (nI nt) (nI tm) (nI R) (nI n) xP xC xK xM xL (lc_rc q) w ul (lc_tr t) wy oR oS oE oD gR gP gS gE gK gD := by
  intro d
  induction d with
  | zero =>
    intro i wy hi h
    obtain rfl : i = j := by omega
    refine br_t (nI_lt (by omega) (by omega)) ⟨vp_in_nI (by omega) (by omega), ?_⟩
    rw [nI_clamp (by omega), h s (Nat.le_refl _) hs]
    exact hp wy
  | succ d ih =>
    intro i wy hi h
    rw [wX_tailTrees_35]
    have ei : nI r * 4 + nI (3 - i) = nI (r * 4 + (3 - i)) := by rw [lc_x4, nI_add]
    have ed : nI (3 - i) + (-1) = nI (3 - (i + 1)) := by
      rw [show 3 - i = 3 - (i + 1) + 1 by omega]; exact pk_m1 _
    refine br_f (nI_nlt (by omega) (by omega)) ?_
    rw [ei, nI_clamp (by omega), lc_rc_p (by omega)]
    refine ⟨vp_in_nI (by omega) (by omega), nm_e ?_⟩
    have h16 := lc_G_r hG hr (3 - i) (by omega)
    refine lc_if (lc_cd_e h16) (fun z => ?_) (fun z => ?_)
    · refine nm_r ed (ih (i + 1) wy (by omega) ?_)
      intro k a b
      rw [lc_w_n z]; exact h k a b
    · rw [lc_cd_n z]
      refine lx_put ht (by omega) hs he (v := fun k => lc_w q w t r i k e) (fun k => lc_w_le _ _ _) h (fun wy' hw' => ?_)
      refine nm_r ed (ih (i + 1) wy' (by omega) ?_)
      intro k a b
      rw [lc_w_s z]; exact hw' k a b
theorem lx_tt3 {post : Int32 → St2 → Prop} {r j s e : Nat} (hG : lc_G nt tm R q) (h24 : R ≤ 24) (ht : ∀ j, t j ≤ 1000000) (hr : r < R) (hj : j ≤ 3) (hs : s ≤ e) (he : e ≤ 12) (hp : ∀ wy', post (nI (lc_w q w t r j s e)) ((nI nt), (nI tm), (nI R), (nI n), xP, xC, xK, xM, xL, (lc_rc q), w, ul, (lc_tr t), wy', oR, oS, oE, oD, gR, gP, gS, gE, gK, gD)) :
    ∀ d k wy, k + d = e → s ≤ k → (∀ i, s ≤ i → i < k → wy i = nI 0) → wX_tailTrees_3 post (nI r) (nI (4 - j)) (nI s) (nI e) (nI nt) (nI tm) (nI R) (nI n) xP xC xK xM xL (d + 1) (nI k) (lc_rc q) w ul (lc_tr t) wy oR oS oE oD gR gP gS gE gK gD := by
  intro d
  induction d with
  | zero =>
    intro k wy hk hsk h
    obtain rfl : k = e := by omega
    refine br_t (nI_le (Nat.le_refl _) (by omega)) ⟨vp_in_nI (by omega) (by omega), nm_e ⟨j + 1, ?_⟩⟩
    rw [nI_clamp (by omega)]
    refine lx_tt35 hG h24 ht hr hj hs he hp j 0 _ (by omega) ?_
    intro i a b
    rw [lc_w_0]
    by_cases z : i = k
    · subst z; rw [if_pos rfl]; exact pk_us
    · rw [pk_un z, if_neg z]; exact h i a (by omega)
  | succ d ih =>
    intro k wy hk hsk h
    rw [wX_tailTrees_3]
    refine br_f (nI_ge (by omega) (by omega)) ⟨vp_in_nI (by omega) (by omega), nm_e (nm_r (nI_1 k) ?_)⟩
    rw [nI_clamp (by omega)]
    refine ih (k + 1) _ (by omega) (by omega) ?_
    intro i a b
    by_cases z : i = k
    · subst z; exact pk_us
    · rw [pk_un z]; exact h i a (by omega)
theorem lx_tail {post : Int32 → St2 → Prop} {r j s e : Nat} (hG : lc_G nt tm R q) (h24 : R ≤ 24) (ht : ∀ j, t j ≤ 1000000) (hr : r < R) (hj : j ≤ 3) (hs : s ≤ e) (he : e ≤ 12) (hp : ∀ wy', post (nI (lc_w q w t r j s e)) ((nI nt), (nI tm), (nI R), (nI n), xP, xC, xK, xM, xL, (lc_rc q), w, ul, (lc_tr t), wy', oR, oS, oE, oD, gR, gP, gS, gE, gK, gD)) : wpX_tailTrees post ((nI nt), (nI tm), (nI R), (nI n), xP, xC, xK, xM, xL, (lc_rc q), w, ul, (lc_tr t), wy, oR, oS, oE, oD, gR, gP, gS, gE, gK, gD) (nI r) (nI (4 - j)) (nI s) (nI e) := by
  unfold wpX_tailTrees
  exact ⟨e - s + 1, lx_tt3 hG h24 ht hr hj hs he hp (e - s) s wy (by omega) (Nat.le_refl _) (fun i a b => by omega)⟩
theorem lx_cc6 {post : St2 → Prop} {x s e : Nat} (hG : lc_G nt tm R q) (h24 : R ≤ 24) (ht : ∀ j, t j ≤ 1000000) (hx : x < 8) (hs : s < e) (he : e ≤ 12) (hp : ∀ wy', post ((nI nt), (nI tm), (nI R), (nI n), xP, xC, xK, xM, xL, (lc_rc q), w, ul, (lc_tr (lc_up t (lc_ix x s e) (lc_n q w t R x s e))), wy', oR, oS, oE, oD, gR, gP, gS, gE, gK, gD)) :
    ∀ d i wy, i + d = R → wX_countCell_6 post (nI x) (nI s) (nI e) (d + 1) (nI (lc_cp (lc_S (lc_g q w t x s e) 0 i))) (nI i) (nI nt) (nI tm) (nI R) (nI n) xP xC xK xM xL (lc_rc q) w ul (lc_tr t) wy oR oS oE oD gR gP gS gE gK gD := by
  intro d
  induction d with
  | zero =>
    intro i wy hi
    obtain rfl : i = R := by omega
    have hl := lc_ix_lt (x := x) (s := s) (e := e) hx (by omega) (by omega)
    refine br_t (nI_le (Nat.le_refl _) (by omega)) ?_
    rw [lc_ixN, nI_clamp (by omega), lc_tr_up]
    exact ⟨vp_in_nI hl (by omega), nm_e (hp wy)⟩
  | succ d ih =>
    intro i wy hi
    have hr : i < R := by omega
    have h0 := (hG.2.2 i hr).1
    have h8 := hG.1
    rw [wX_countCell_6]
    refine br_f (nI_ge hr (by omega)) ?_
    rw [lc_x4, nI_clamp (by omega), lc_rc_0, lc_cd_n (by omega)]
    refine ⟨vp_in_nI (by omega) (by omega), ?_⟩
    refine pk_eq (q i 0) x (fun z => ?_) (fun z => ?_)
    · refine lx_tail (j := 3) hG h24 ht hr (by omega) (by omega) he (fun wy' => ?_)
      refine lx_cap (c := 1) (lc_cp_le _) (lc_w_le _ _ _) (by omega) (nm_r (nI_1 i) ?_)
      have H := ih (i + 1) wy' (by omega)
      rw [lc_S_s (Nat.zero_le i)] at H
      have eg : lc_g q w t x s e i = lc_w q w t i 3 s e := if_pos z
      rw [eg] at H
      rw [lc_cp_a, Nat.mul_one]
      exact H
    · have H := ih (i + 1) wy (by omega)
      rw [lc_S_s (Nat.zero_le i)] at H
      have eg : lc_g q w t x s e i = 0 := if_neg z
      rw [eg, Nat.add_zero] at H
      exact nm_r (nI_1 i) H
theorem lx_cell {post : St2 → Prop} {x s e : Nat} (hG : lc_G nt tm R q) (h24 : R ≤ 24) (ht : ∀ j, t j ≤ 1000000) (hx : x < 8) (hs : s < e) (he : e ≤ 12) (hp : ∀ wy', post ((nI nt), (nI tm), (nI R), (nI n), xP, xC, xK, xM, xL, (lc_rc q), w, ul, (lc_tr (lc_up t (lc_ix x s e) (lc_n q w t R x s e))), wy', oR, oS, oE, oD, gR, gP, gS, gE, gK, gD)) : wpX_countCell post ((nI nt), (nI tm), (nI R), (nI n), xP, xC, xK, xM, xL, (lc_rc q), w, ul, (lc_tr t), wy, oR, oS, oE, oD, gR, gP, gS, gE, gK, gD) (nI x) (nI s) (nI e) := by
  unfold wpX_countCell
  exact ⟨R + 1, lx_cc6 hG h24 ht hx hs he hp R 0 wy (by omega)⟩
end LXB
end
section
section LXC
variable {q : Nat → Nat → Nat} {w : Nat → Int32} {t : Nat → Nat} {nt tm R n : Nat} {rk : Nat → Nat}
/-- the cells that are right: shorter spans, spans of this length that begin earlier, and in this span those of lower rank or, at rank L, below x -/
def lc_D (q : Nat → Nat → Nat) (w : Nat → Int32) (R nt n : Nat) (rk : Nat → Nat) (s e L x : Nat) (t : Nat → Nat) : Prop := ∀ x' s' e', x' < nt → s' < e' → e' ≤ n → (e' - s' < e - s ∨ (e' - s' = e - s ∧ s' < s) ∨ (s' = s ∧ e' = e ∧ (rk x' < L ∨ (rk x' = L ∧ x' < x)))) → lc_ok q w R t x' s' e'
theorem lc_D_w (hG : lc_G nt tm R q) (hA : lc_A R q rk) (hn : n ≤ 12) {s e L x : Nat} (hx : x < nt) (hs : s < e) (he : e ≤ n) (h : lc_D q w R nt n rk s e L x t) (hL : L ≤ rk x ∨ lc_ok q w R t x s e) : lc_D q w R nt n rk s e L (x + 1) (lc_up t (lc_ix x s e) (lc_n q w t R x s e)) := by
  by_cases hr : lc_ok q w R t x s e
  · rw [lc_ok_s hr]
    intro x' s' e' h1 h2 h3 h4
    by_cases z : x' = x ∧ s' = s ∧ e' = e
    · obtain ⟨rfl, rfl, rfl⟩ := z; exact hr
    · exact h x' s' e' h1 h2 h3 (by omega)
  · have hL' : L ≤ rk x := by
      rcases hL with z | z
      · exact z
      · exact absurd z hr
    intro x' s' e' h1 h2 h3 h4
    by_cases z : x' = x ∧ s' = s ∧ e' = e
    · obtain ⟨rfl, rfl, rfl⟩ := z
      exact lc_ok_w hG hA (by omega) hs
    · refine lc_ok_k hG hA (by omega) hs (by omega) h2 (by omega) ?_ (h x' s' e' h1 h2 h3 (by omega))
      intro z1 z2
      have z3 : x' ≠ x := fun y => z ⟨y, z1, z2⟩
      refine ⟨?_, z3⟩
      omega
theorem lc_D_s {s e L x : Nat} (h : lc_D q w R nt n rk s e L x t) (hx : rk x ≠ L) : lc_D q w R nt n rk s e L (x + 1) t := by
  intro x' s' e' h1 h2 h3 h4
  refine h x' s' e' h1 h2 h3 ?_
  rcases h4 with z | z | ⟨z1, z2, z3 | ⟨z3, z4⟩⟩
  · exact Or.inl z
  · exact Or.inr (Or.inl z)
  · exact Or.inr (Or.inr ⟨z1, z2, Or.inl z3⟩)
  · refine Or.inr (Or.inr ⟨z1, z2, Or.inr ⟨z3, ?_⟩⟩)
    refine Nat.lt_of_le_of_ne (Nat.le_of_lt_succ z4) ?_
    intro y; subst y; exact hx z3
theorem lc_D_L {s e L : Nat} (h : lc_D q w R nt n rk s e L nt t) : lc_D q w R nt n rk s e (L + 1) 0 t := by
  intro x' s' e' h1 h2 h3 h4
  exact h x' s' e' h1 h2 h3 (by omega)
theorem lc_D_e {s e : Nat} (hk : ∀ x, x < nt → rk x < nt) {L : Nat} (hL : nt ≤ L) (h : lc_D q w R nt n rk s e L 0 t) (hs : s ≤ e) : lc_D q w R nt n rk (s + 1) (e + 1) 0 0 t := by
  intro x' s' e' h1 h2 h3 h4
  have := hk x' h1
  exact h x' s' e' h1 h2 h3 (by omega)
theorem lc_D_r {s l : Nat} (hs : s + l = n + 1) (h : lc_D q w R nt n rk s (s + l) 0 0 t) : lc_D q w R nt n rk 0 (l + 1) 0 0 t := by
  intro x' s' e' h1 h2 h3 h4
  exact h x' s' e' h1 h2 h3 (by omega)
theorem lc_D_0 : lc_D q w R nt n rk 0 1 0 0 t := by
  intro x' s' e' h1 h2 h3 h4
  omega
theorem lc_D_sat (h : lc_D q w R nt n rk 0 (n + 1) 0 0 t) : lc_sat q w R nt n t := by
  intro x s e h1 h2 h3
  exact h x s e h1 h2 h3 (by omega)
theorem lc_up_le {k v : Nat} (ht : ∀ j, t j ≤ 1000000) (hv : v ≤ 1000000) : ∀ j, lc_up t k v j ≤ 1000000 := by
  intro j
  unfold lc_up
  split
  · exact hv
  · exact ht j
def lc_rt (t : Nat → Nat) (n : Nat) : Nat := if n = 0 then 0 else t (lc_ix 0 0 n)
theorem lc_rt_le (ht : ∀ j, t j ≤ 1000000) : lc_rt t n ≤ 1000000 := by
  unfold lc_rt
  split
  · omega
  · exact ht _
variable {xP xC xK xM xL : Int32} {ul wy oR oS oE oD gR gP gS gE gK gD : Nat → Int32}
theorem lx_sl35 {post : St2 → Prop} {J25 : Int32 → (Nat → Int32) → (Nat → Int32) → (Nat → Int32) → (Nat → Int32) → (Nat → Int32) → (Nat → Int32) → (Nat → Int32) → (Nat → Int32) → (Nat → Int32) → (Nat → Int32) → (Nat → Int32) → (Nat → Int32) → (Nat → Int32) → (Nat → Int32) → (Nat → Int32) → Prop} {k m : Nat} (hG : lc_G nt tm R q) (h24 : R ≤ 24) (hA : lc_A R q rk) (hk : ∀ x, x < nt → rk x < nt)
    (hJ : ∀ (ul' : Nat → Int32) (lv' : Nat → Nat), (∀ x, x < nt → ul' x = nI (lv' x)) → lc_lv R nt q k R lv' → J25 (nI (m + 1)) (lc_rc q) w ul' (lc_tr t) wy oR oS oE oD gR gP gS gE gK gD) :
    ∀ d i (ul : Nat → Int32) (lv : Nat → Nat), i + d = R → (∀ x, x < nt → ul x = nI (lv x)) → lc_lv R nt q k i lv → wX_setUnitLevels_35 post J25 (nI m) (nI nt) (nI tm) (nI R) (nI n) xP xC xK xM xL (d + 1) (nI i) (lc_rc q) w ul (lc_tr t) wy oR oS oE oD gR gP gS gE gK gD := by
  intro d
  induction d with
  | zero =>
    intro i ul lv hi hu hl
    obtain rfl : i = R := by omega
    exact br_t (nI_le (Nat.le_refl _) (by omega)) (nm_r (nI_1 m) (hJ ul lv hu hl))
  | succ d ih =>
    intro i ul lv hi hu hl
    have hr : i < R := by omega
    have h0 := (hG.2.2 i hr).1
    have h8 := hG.1
    rw [wX_setUnitLevels_35]
    refine br_f (nI_ge hr (by omega)) ?_
    refine lx_unit hG h24 hr (fun z1 z2 => ?_) (fun z => ?_)
    · have hq1 := lc_G_8 hG hr 1 (by omega) z1
      refine br_f (by decide) (nm_r (lc_x4 i) ?_)
      have e1 : nI (i * 4) + 1 = nI (i * 4 + 1) := nI_1 _
      have hb0 := lc_P_rk hA _ _ (hl.1 _ h0)
      have hb1 := lc_P_rk hA _ _ (hl.1 _ hq1)
      have hc0 := hk _ h0
      have hc1 := hk _ hq1
      rw [e1, nI_clamp (by omega), nI_clamp (by omega), lc_rc_p (by omega), lc_rc_0, lc_cd_n (c := q i 0) (by omega), lc_cd_n (c := q i 1) (by omega), nI_clamp (by omega), nI_clamp (by omega), hu _ h0, hu _ hq1]
      have H := lc_lv_up hl hr h0 hq1 z1 z2
      refine ⟨vp_in_nI (by omega) (by omega), vp_in_nI (by omega) (by omega), nm_r (nI_1 _) ⟨vp_in_nI (by omega) (by omega), vp_in_nI (by omega) (by omega), ?_⟩⟩
      refine pk_le (lv (q i 1) + 1) (lv (q i 0)) (fun y => ?_) (fun y => ?_)
      · rw [if_neg (by omega)] at H
        exact nm_r (nI_1 i) (ih (i + 1) ul lv (by omega) hu H)
      · rw [if_pos y] at H
        refine ⟨vp_in_nI (by omega) (by omega), vp_in_nI (by omega) (by omega), nm_e (nm_r (nI_1 i) (ih (i + 1) _ _ (by omega) ?_ H))⟩
        intro x hx
        unfold upd lc_up
        split
        · rfl
        · exact hu x hx
    · exact br_t rfl (nm_r (nI_1 i) (ih (i + 1) ul lv (by omega) hu (lc_lv_no hl z)))
theorem lx_sl25 {post : St2 → Prop} (hG : lc_G nt tm R q) (h24 : R ≤ 24) (hA : lc_A R q rk) (hk : ∀ x, x < nt → rk x < nt)
    (hp : ∀ (ul' : Nat → Int32) (lv' : Nat → Nat), (∀ x, x < nt → ul' x = nI (lv' x)) → lc_lv R nt q (nt - 1) 0 lv' → post ((nI nt), (nI tm), (nI R), (nI n), xP, xC, xK, xM, xL, (lc_rc q), w, ul', (lc_tr t), wy, oR, oS, oE, oD, gR, gP, gS, gE, gK, gD)) :
    ∀ d k (ul : Nat → Int32) (lv : Nat → Nat), k + 1 + d = nt → (∀ x, x < nt → ul x = nI (lv x)) → lc_lv R nt q k 0 lv → wX_setUnitLevels_25 post (nI nt) (nI tm) (nI R) (nI n) xP xC xK xM xL (d + 1) (nI (k + 1)) (lc_rc q) w ul (lc_tr t) wy oR oS oE oD gR gP gS gE gK gD := by
  intro d
  induction d with
  | zero =>
    intro k ul lv hi hu hl
    have h8 := hG.1
    have e : k = nt - 1 := by omega
    rw [wX_setUnitLevels_25]
    refine br_t (nI_le (by omega) (by omega)) (hp ul lv hu ?_)
    rw [← e]; exact hl
  | succ d ih =>
    intro k ul lv hi hu hl
    have h8 := hG.1
    rw [wX_setUnitLevels_25]
    refine br_f (nI_ge (by omega) (by omega)) ⟨R + 1, ?_⟩
    exact lx_sl35 hG h24 hA hk (fun ul' lv' hu' hl' => ih (k + 1) ul' lv' (by omega) hu' (lc_lv_n hl')) R 0 ul lv (by omega) hu hl
theorem lx_sl2 {post : St2 → Prop} (hG : lc_G nt tm R q) (h24 : R ≤ 24) (h1 : 1 ≤ nt) (hA : lc_A R q rk) (hk : ∀ x, x < nt → rk x < nt)
    (hp : ∀ (ul' : Nat → Int32) (lv' : Nat → Nat), (∀ x, x < nt → ul' x = nI (lv' x)) → lc_lv R nt q (nt - 1) 0 lv' → post ((nI nt), (nI tm), (nI R), (nI n), xP, xC, xK, xM, xL, (lc_rc q), w, ul', (lc_tr t), wy, oR, oS, oE, oD, gR, gP, gS, gE, gK, gD)) :
    ∀ d k (ul : Nat → Int32), k + d = nt → (∀ x, x < k → ul x = nI 0) → wX_setUnitLevels_2 post (nI nt) (nI tm) (nI R) (nI n) xP xC xK xM xL (d + 1) (nI k) (lc_rc q) w ul (lc_tr t) wy oR oS oE oD gR gP gS gE gK gD := by
  intro d
  induction d with
  | zero =>
    intro k ul hi hu
    have h8 := hG.1
    obtain rfl : k = nt := by omega
    rw [wX_setUnitLevels_2]
    refine br_t (nI_le (by omega) (by omega)) ⟨k - 1 + 1, ?_⟩
    exact lx_sl25 hG h24 hA hk hp (k - 1) 0 ul (fun _ => 0) (by omega) hu (lc_lv_0 (fun _ _ => rfl))
  | succ d ih =>
    intro k ul hi hu
    have h8 := hG.1
    rw [wX_setUnitLevels_2]
    refine br_f (nI_ge (by omega) (by omega)) ⟨vp_in_nI (by omega) (by omega), nm_e (nm_r (nI_1 k) ?_)⟩
    rw [nI_clamp (by omega)]
    refine ih (k + 1) _ (by omega) ?_
    intro x hx
    by_cases z : x = k
    · subst z; exact pk_us
    · rw [pk_un z]; exact hu x (by omega)
theorem lx_sl {post : St2 → Prop} (hG : lc_G nt tm R q) (h24 : R ≤ 24) (h1 : 1 ≤ nt) (hA : lc_A R q rk) (hk : ∀ x, x < nt → rk x < nt)
    (hp : ∀ (ul' : Nat → Int32) (lv' : Nat → Nat), (∀ x, x < nt → ul' x = nI (lv' x)) → lc_A R q lv' → (∀ x, x < nt → lv' x < nt) → post ((nI nt), (nI tm), (nI R), (nI n), xP, xC, xK, xM, xL, (lc_rc q), w, ul', (lc_tr t), wy, oR, oS, oE, oD, gR, gP, gS, gE, gK, gD)) : wpX_setUnitLevels post ((nI nt), (nI tm), (nI R), (nI n), xP, xC, xK, xM, xL, (lc_rc q), w, ul, (lc_tr t), wy, oR, oS, oE, oD, gR, gP, gS, gE, gK, gD) := by
  unfold wpX_setUnitLevels
  refine ⟨nt + 1, lx_sl2 hG h24 h1 hA hk (fun ul' lv' hu hl => ?_) nt 0 ul (by omega) (fun x hx => by omega)⟩
  have H := lc_lv_end hA hk (fun r hr => (hG.2.2 r hr).1) (fun r hr => lc_G_8 hG hr 1 (by omega)) hl
  exact hp ul' lv' hu H.1 H.2
theorem lx_cs13 {post : St2 → Prop} {J2 : Int32 → Int32 → Int32 → Int32 → Int32 → Int32 → Int32 → Int32 → Int32 → Int32 → (Nat → Int32) → (Nat → Int32) → (Nat → Int32) → (Nat → Int32) → (Nat → Int32) → (Nat → Int32) → (Nat → Int32) → (Nat → Int32) → (Nat → Int32) → (Nat → Int32) → (Nat → Int32) → (Nat → Int32) → (Nat → Int32) → (Nat → Int32) → (Nat → Int32) → Prop} {s e L : Nat} (hG : lc_G nt tm R q) (h24 : R ≤ 24) (hn : n ≤ 12) (hA : lc_A R q rk) (hk : ∀ x, x < nt → rk x < nt) (hu : ∀ x, x < nt → ul x = nI (rk x)) (hs : s < e) (he : e ≤ n) (hL : L ≤ 8)
    (hJ : ∀ (wy' : Nat → Int32) (t' : Nat → Nat), (∀ j, t' j ≤ 1000000) → lc_D q w R nt n rk s e L nt t' → J2 (nI (L + 1)) (nI nt) (nI tm) (nI R) (nI n) xP xC xK xM xL (lc_rc q) w ul (lc_tr t') wy' oR oS oE oD gR gP gS gE gK gD) :
    ∀ d x (wy : Nat → Int32) (t : Nat → Nat), x + d = nt → (∀ j, t j ≤ 1000000) → lc_D q w R nt n rk s e L x t → wX_countSpan_13 post J2 (nI s) (nI e) (nI L) (d + 1) (nI x) (nI nt) (nI tm) (nI R) (nI n) xP xC xK xM xL (lc_rc q) w ul (lc_tr t) wy oR oS oE oD gR gP gS gE gK gD := by
  intro d
  induction d with
  | zero =>
    intro x wy t hx ht hD
    have h8 := hG.1
    obtain rfl : x = nt := by omega
    rw [wX_countSpan_13]
    exact br_t (nI_le (Nat.le_refl _) (by omega)) (nm_r (nI_1 L) (hJ wy t ht hD))
  | succ d ih =>
    intro x wy t hx ht hD
    have h8 := hG.1
    have hkx := hk x (by omega)
    rw [wX_countSpan_13]
    refine br_f (nI_ge (by omega) (by omega)) ⟨vp_in_nI (by omega) (by omega), ?_⟩
    rw [nI_clamp (by omega), hu x (by omega)]
    refine pk_eq (rk x) L (fun z => ?_) (fun z => ?_)
    · refine lx_cell hG h24 ht (by omega) hs (by omega) (fun wy' => nm_r (nI_1 x) ?_)
      refine ih (x + 1) wy' _ (by omega) (lc_up_le ht (lc_n_le _ _ _)) ?_
      exact lc_D_w hG hA hn (by omega) hs he hD (Or.inl (by omega))
    · exact nm_r (nI_1 x) (ih (x + 1) wy t (by omega) ht (lc_D_s hD z))
theorem lx_cs2 {post : St2 → Prop} {s e : Nat} (hG : lc_G nt tm R q) (h24 : R ≤ 24) (hn : n ≤ 12) (hA : lc_A R q rk) (hk : ∀ x, x < nt → rk x < nt) (hu : ∀ x, x < nt → ul x = nI (rk x)) (hs : s < e) (he : e ≤ n)
    (hp : ∀ (wy' : Nat → Int32) (t' : Nat → Nat), (∀ j, t' j ≤ 1000000) → lc_D q w R nt n rk s e nt 0 t' → post ((nI nt), (nI tm), (nI R), (nI n), xP, xC, xK, xM, xL, (lc_rc q), w, ul, (lc_tr t'), wy', oR, oS, oE, oD, gR, gP, gS, gE, gK, gD)) :
    ∀ d L (wy : Nat → Int32) (t : Nat → Nat), L + d = nt → (∀ j, t j ≤ 1000000) → lc_D q w R nt n rk s e L 0 t → wX_countSpan_2 post (nI s) (nI e) (d + 1) (nI L) (nI nt) (nI tm) (nI R) (nI n) xP xC xK xM xL (lc_rc q) w ul (lc_tr t) wy oR oS oE oD gR gP gS gE gK gD := by
  intro d
  induction d with
  | zero =>
    intro L wy t hx ht hD
    have h8 := hG.1
    obtain rfl : L = nt := by omega
    rw [wX_countSpan_2]
    exact br_t (nI_le (Nat.le_refl _) (by omega)) (hp wy t ht hD)
  | succ d ih =>
    intro L wy t hx ht hD
    have h8 := hG.1
    rw [wX_countSpan_2]
    refine br_f (nI_ge (by omega) (by omega)) ⟨nt + 1, ?_⟩
    exact lx_cs13 hG h24 hn hA hk hu hs he (by omega) (fun wy' t' ht' hD' => ih (L + 1) wy' t' (by omega) ht' (lc_D_L hD')) nt 0 wy t (by omega) ht hD
theorem lx_cs {post : St2 → Prop} {s e : Nat} (hG : lc_G nt tm R q) (h24 : R ≤ 24) (hn : n ≤ 12) (hA : lc_A R q rk) (hk : ∀ x, x < nt → rk x < nt) (hu : ∀ x, x < nt → ul x = nI (rk x)) (hs : s < e) (he : e ≤ n) (ht : ∀ j, t j ≤ 1000000) (hD : lc_D q w R nt n rk s e 0 0 t)
    (hp : ∀ (wy' : Nat → Int32) (t' : Nat → Nat), (∀ j, t' j ≤ 1000000) → lc_D q w R nt n rk s e nt 0 t' → post ((nI nt), (nI tm), (nI R), (nI n), xP, xC, xK, xM, xL, (lc_rc q), w, ul, (lc_tr t'), wy', oR, oS, oE, oD, gR, gP, gS, gE, gK, gD)) : wpX_countSpan post ((nI nt), (nI tm), (nI R), (nI n), xP, xC, xK, xM, xL, (lc_rc q), w, ul, (lc_tr t), wy, oR, oS, oE, oD, gR, gP, gS, gE, gK, gD) (nI s) (nI e) := by
  unfold wpX_countSpan
  exact ⟨nt + 1, lx_cs2 hG h24 hn hA hk hu hs he hp nt 0 wy t (by omega) ht hD⟩
theorem lx_pa20 {post : Int32 → St2 → Prop} {J10 : Int32 → Int32 → Int32 → Int32 → Int32 → Int32 → Int32 → Int32 → Int32 → Int32 → (Nat → Int32) → (Nat → Int32) → (Nat → Int32) → (Nat → Int32) → (Nat → Int32) → (Nat → Int32) → (Nat → Int32) → (Nat → Int32) → (Nat → Int32) → (Nat → Int32) → (Nat → Int32) → (Nat → Int32) → (Nat → Int32) → (Nat → Int32) → (Nat → Int32) → Prop} {l : Nat} (hG : lc_G nt tm R q) (h24 : R ≤ 24) (hn : n ≤ 12) (hA : lc_A R q rk) (hk : ∀ x, x < nt → rk x < nt) (hu : ∀ x, x < nt → ul x = nI (rk x)) (hl : 1 ≤ l)
    (hJ : ∀ (wy' : Nat → Int32) (t' : Nat → Nat), (∀ j, t' j ≤ 1000000) → lc_D q w R nt n rk 0 (l + 1) 0 0 t' → J10 (nI (l + 1)) (nI nt) (nI tm) (nI R) (nI n) xP xC xK xM xL (lc_rc q) w ul (lc_tr t') wy' oR oS oE oD gR gP gS gE gK gD) :
    ∀ d s (wy : Nat → Int32) (t : Nat → Nat), s + l + d = n + 1 → (∀ j, t j ≤ 1000000) → lc_D q w R nt n rk s (s + l) 0 0 t → wX_parse_20 post J10 (nI l) (d + 1) (nI s) (nI nt) (nI tm) (nI R) (nI n) xP xC xK xM xL (lc_rc q) w ul (lc_tr t) wy oR oS oE oD gR gP gS gE gK gD := by
  intro d
  induction d with
  | zero =>
    intro s wy t hs ht hD
    rw [wX_parse_20]
    exact br_t (by rw [nI_add]; exact nI_lt (by omega) (by omega)) (nm_r (nI_1 l) (hJ wy t ht (lc_D_r (by omega) hD)))
  | succ d ih =>
    intro s wy t hs ht hD
    rw [wX_parse_20]
    refine br_f (by rw [nI_add]; exact nI_nlt (by omega) (by omega)) ?_
    rw [nI_add]
    refine lx_cs hG h24 hn hA hk hu (by omega) (by omega) ht hD (fun wy' t' ht' hD' => nm_r (nI_1 s) ?_)
    refine ih (s + 1) wy' t' (by omega) ht' ?_
    have := lc_D_e hk (Nat.le_refl nt) hD' (by omega)
    rw [show s + 1 + l = s + l + 1 by omega]
    exact this
theorem lx_pa10 {post : Int32 → St2 → Prop} (hG : lc_G nt tm R q) (h24 : R ≤ 24) (hn : n ≤ 12) (hA : lc_A R q rk) (hk : ∀ x, x < nt → rk x < nt) (hu : ∀ x, x < nt → ul x = nI (rk x))
    (hp : ∀ (wy' : Nat → Int32) (t' : Nat → Nat), (∀ j, t' j ≤ 1000000) → lc_sat q w R nt n t' → post (nI (lc_rt t' n)) ((nI nt), (nI tm), (nI R), (nI n), 1, (nI (lc_rt t' n)), xK, xM, xL, (lc_rc q), w, ul, (lc_tr t'), wy', oR, oS, oE, oD, gR, gP, gS, gE, gK, gD)) :
    ∀ d l (wy : Nat → Int32) (t : Nat → Nat), l + d = n + 1 → 1 ≤ l → (∀ j, t j ≤ 1000000) → lc_D q w R nt n rk 0 l 0 0 t → wX_parse_10 post (d + 1) (nI l) (nI nt) (nI tm) (nI R) (nI n) xP xC xK xM xL (lc_rc q) w ul (lc_tr t) wy oR oS oE oD gR gP gS gE gK gD := by
  intro d
  induction d with
  | zero =>
    intro l wy t hl h1 ht hD
    obtain rfl : l = n + 1 := by omega
    have H := hp wy t ht (lc_D_sat hD)
    rw [wX_parse_10]
    refine br_t (nI_lt (by omega) (by omega)) ?_
    unfold lc_rt at H
    refine lc_if (lc_eq0 (by omega)) (fun z => ?_) (fun z => ?_)
    · rw [if_pos z] at H; exact H
    · rw [if_neg z] at H
      exact lx_sym (c := 0) (s := 0) (by omega) (by omega) hn H
  | succ d ih =>
    intro l wy t hl h1 ht hD
    rw [wX_parse_10]
    refine br_f (nI_nlt (by omega) (by omega)) ⟨n + 1 - l + 1, ?_⟩
    refine lx_pa20 hG h24 hn hA hk hu h1 (fun wy' t' ht' hD' => ih (l + 1) wy' t' (by omega) (by omega) ht' hD') (n + 1 - l) 0 wy t (by omega) ht ?_
    rw [Nat.zero_add]; exact hD
theorem lx_parse {post : Int32 → St2 → Prop} (hG : lc_G nt tm R q) (h24 : R ≤ 24) (h1 : 1 ≤ nt) (hn : n ≤ 12) (hA : lc_A R q rk) (hk : ∀ x, x < nt → rk x < nt) (ht : ∀ j, t j ≤ 1000000)
    (hp : ∀ (ul' wy' : Nat → Int32) (t' : Nat → Nat), (∀ j, t' j ≤ 1000000) → lc_sat q w R nt n t' → post (nI (lc_rt t' n)) ((nI nt), (nI tm), (nI R), (nI n), 1, (nI (lc_rt t' n)), (-1), 0, xL, (lc_rc q), w, ul', (lc_tr t'), wy', oR, oS, oE, oD, gR, gP, gS, gE, gK, gD)) : wpX_parse post ((nI nt), (nI tm), (nI R), (nI n), xP, xC, xK, xM, xL, (lc_rc q), w, ul, (lc_tr t), wy, oR, oS, oE, oD, gR, gP, gS, gE, gK, gD) := by
  unfold wpX_parse
  unfold wpX_forgetParse
  refine lx_sl hG h24 h1 hA hk (fun ul' lv' hu hA' hk' => ?_)
  exact ⟨n + 1, lx_pa10 hG h24 hn hA' hk' hu (fun wy' t' => hp ul' wy' t') n 1 wy t (by omega) (by omega) ht lc_D_0⟩
end LXC
end
section
section LXD
variable {q : Nat → Nat → Nat} {w : Nat → Int32} {t : Nat → Nat} {nt tm R n : Nat} {rk : Nat → Nat}
/-! nodes and tails in arrays -/
def lc_nd (oR oS oE oD : Nat → Int32) (l : List lc_N) : Prop := ∀ i v, l[i]? = some v → oR i = nI v.1 ∧ oS i = nI v.2.1 ∧ oE i = nI v.2.2.1 ∧ oD i = nI v.2.2.2
theorem lc_nd_0 {oR oS oE oD : Nat → Int32} : lc_nd oR oS oE oD [] := by
  intro i v h
  simp at h
theorem lc_nd_a {oR oS oE oD : Nat → Int32} {l : List lc_N} {a b c d : Nat} (h : lc_nd oR oS oE oD l) : lc_nd (upd oR l.length (nI a)) (upd oS l.length (nI b)) (upd oE l.length (nI c)) (upd oD l.length (nI d)) (l ++ [(a, b, c, d)]) := by
  intro i v hv
  by_cases hi : i < l.length
  · rw [List.getElem?_append_left hi] at hv
    have hne : i ≠ l.length := by omega
    rw [pk_un hne, pk_un hne, pk_un hne, pk_un hne]
    exact h i v hv
  · rw [List.getElem?_append_right (by omega)] at hv
    by_cases e : i = l.length
    · subst e
      rw [Nat.sub_self] at hv
      have : v = (a, b, c, d) := by simpa using hv.symm
      subst this
      exact ⟨pk_us, pk_us, pk_us, pk_us⟩
    · exfalso
      obtain ⟨k, hk⟩ : ∃ k, i - l.length = k + 1 := ⟨i - l.length - 1, by omega⟩
      rw [hk] at hv
      simp at hv
def lc_sk (gR gP gS gE gK gD : Nat → Int32) : List lc_L → Prop
  | [] => True
  | (r, j, s, e, k, d) :: l => (gR l.length = nI r ∧ gP l.length = nI (3 - j) ∧ gS l.length = nI s ∧ gE l.length = nI e ∧ gK l.length = nI k ∧ gD l.length = nI d) ∧ lc_sk gR gP gS gE gK gD l
theorem lc_sk_u {gR gP gS gE gK gD : Nat → Int32} {a b c d e f : Int32} : ∀ {l : List lc_L} {i : Nat}, lc_sk gR gP gS gE gK gD l → l.length ≤ i → lc_sk (upd gR i a) (upd gP i b) (upd gS i c) (upd gE i d) (upd gK i e) (upd gD i f) l := by
  intro l
  induction l with
  | nil => intro i _ _; exact True.intro
  | cons x l ih =>
    intro i h hi
    obtain ⟨r, j, s, e, k, d⟩ := x
    have hl : l.length + 1 ≤ i := hi
    have hne : l.length ≠ i := by omega
    obtain ⟨⟨h1, h2, h3, h4, h5, h6⟩, h7⟩ := h
    refine ⟨⟨?_, ?_, ?_, ?_, ?_, ?_⟩, ih h7 (by omega)⟩
    · rw [pk_un hne]; exact h1
    · rw [pk_un hne]; exact h2
    · rw [pk_un hne]; exact h3
    · rw [pk_un hne]; exact h4
    · rw [pk_un hne]; exact h5
    · rw [pk_un hne]; exact h6
theorem lc_sk_p {gR gP gS gE gK gD : Nat → Int32} {l : List lc_L} {r j s e k d : Nat} (h : lc_sk gR gP gS gE gK gD l) : lc_sk (upd gR l.length (nI r)) (upd gP l.length (nI (3 - j))) (upd gS l.length (nI s)) (upd gE l.length (nI e)) (upd gK l.length (nI k)) (upd gD l.length (nI d)) ((r, j, s, e, k, d) :: l) :=
  ⟨⟨pk_us, pk_us, pk_us, pk_us, pk_us, pk_us⟩, lc_sk_u h (Nat.le_refl _)⟩
/-! one symbol taken -/
def lc_t1 (q : Nat → Nat → Nat) (w : Nat → Int32) (t : Nat → Nat) (r j s e k d : Nat) (tl : List lc_L) : List lc_L :=
  if (lc_m q w t r j s e k).1 < e then (r, j - 1, (lc_m q w t r j s e k).1, e, (lc_m q w t r j s e k).2 % lc_w q w t r j (lc_m q w t r j s e k).1 e, d) :: tl else tl
/-- the child of the first symbol: its rule and rank -/
def lc_c1 (q : Nat → Nat → Nat) (w : Nat → Int32) (t : Nat → Nat) (R r j s e k : Nat) : Nat × Nat := lc_pk q w t R (q r (3 - j)) s (lc_m q w t r j s e k).1 ((lc_m q w t r j s e k).2 / lc_w q w t r j (lc_m q w t r j s e k).1 e)
def lc_o2 (q : Nat → Nat → Nat) (w : Nat → Int32) (t : Nat → Nat) (R r j s e k d : Nat) (out : List lc_N) : List lc_N :=
  if q r (3 - j) < 8 then out ++ [((lc_c1 q w t R r j s e k).1, s, (lc_m q w t r j s e k).1, d)] else out
def lc_t2 (q : Nat → Nat → Nat) (w : Nat → Int32) (t : Nat → Nat) (R r j s e k d : Nat) (tl : List lc_L) : List lc_L :=
  if q r (3 - j) < 8 then ((lc_c1 q w t R r j s e k).1, 2, s, (lc_m q w t r j s e k).1, (lc_c1 q w t R r j s e k).2, d + 1) :: lc_t1 q w t r j s e k d tl else lc_t1 q w t r j s e k d tl
theorem lc_mt_c {r j s e k d : Nat} {tl : List lc_L} : lc_mt rk q ((r, j, s, e, k, d) :: tl) = lc_B rk q r j s e + lc_mt rk q tl := rfl
theorem lc_t2_ok (hG : lc_G nt tm R q) (hA : lc_A R q rk) (hk : ∀ x, x < nt → rk x < nt) (hS : lc_sat q w R nt n t) {r j s e k d : Nat} {tl : List lc_L} (h : lc_tv q w t R n ((r, j, s, e, k, d) :: tl)) : lc_tv q w t R n (lc_t2 q w t R r j s e k d tl) ∧ lc_mt rk q (lc_t2 q w t R r j s e k d tl) + 1 ≤ lc_mt rk q ((r, j, s, e, k, d) :: tl) := by
  obtain ⟨hv, htl⟩ := h
  obtain ⟨m1, m2, m3, m4⟩ := lc_m_ok hG hv
  have hp := lc_mp (Nat.lt_of_le_of_lt (Nat.zero_le _) m3)
  have hse := hv.2.2.1
  rw [lc_mt_c]
  unfold lc_t2 lc_t1
  by_cases hme : (lc_m q w t r j s e k).1 < e
  · rw [if_pos hme]
    obtain ⟨j', rfl, hv'⟩ := lc_m_nx hG hv m1 hme m3 m4
    rw [Nat.add_sub_cancel]
    by_cases h8 : q r (3 - (j' + 1)) < 8
    · rw [if_pos h8]
      have hc := lc_m_ch hG hv m1 m2 m3 m4 h8
      obtain ⟨p1, p2⟩ := lc_pk_ok hG hS hc
      refine ⟨⟨p2, hv', htl⟩, ?_⟩
      have hB := lc_B_mid hG hk hv.1 hv.2.1 m1 hme h8
      rw [lc_mt_c, lc_mt_c, lc_B_2]
      unfold lc_c1
      rw [p1]
      omega
    · rw [if_neg h8]
      refine ⟨⟨hv', htl⟩, ?_⟩
      have e3 := lc_m_te h8 hp.1
      have hB := lc_B_ter (rk := rk) (q := q) (r := r) (j := j') (s := s) (e := e) hv.2.1 (by omega)
      rw [lc_mt_c, e3]
      omega
  · rw [if_neg hme]
    have em : (lc_m q w t r j s e k).1 = e := by omega
    by_cases h8 : q r (3 - j) < 8
    · rw [if_pos h8]
      have hc := lc_m_ch hG hv m1 m2 m3 m4 h8
      obtain ⟨p1, p2⟩ := lc_pk_ok hG hS hc
      refine ⟨⟨p2, htl⟩, ?_⟩
      have hw := hp.2
      rw [em] at hw
      have hB := lc_B_end hG hA hk hv.1 hv.2.1 hse hw h8
      rw [lc_mt_c, lc_B_2]
      unfold lc_c1
      rw [p1, em]
      omega
    · rw [if_neg h8]
      refine ⟨htl, ?_⟩
      have := lc_B_pos (rk := rk) (q := q) (r := r) (j := j) hse
      omega
theorem lc_t1_ex (hG : lc_G nt tm R q) {r j s e k d : Nat} {tl : List lc_L} (hv : lc_vt q w t R n r j s e k) : lc_ex q w t ((r, j, s, e, k, d) :: tl) = lc_k1 (q r (3 - j)) s (lc_m q w t r j s e k).1 ((lc_m q w t r j s e k).2 / lc_w q w t r j (lc_m q w t r j s e k).1 e) d ++ lc_ex q w t (lc_t1 q w t r j s e k d tl) := by
  obtain ⟨m1, m2, m3, m4⟩ := lc_m_ok hG hv
  show lc_kd q w t r (j + 1) s e k d ++ lc_ex q w t tl = _
  rw [lc_kd_s, List.append_assoc]
  unfold lc_t1
  by_cases hme : (lc_m q w t r j s e k).1 < e
  · rw [if_pos hme, if_pos hme]
    obtain ⟨j', rfl, hv'⟩ := lc_m_nx hG hv m1 hme m3 m4
    rfl
  · rw [if_neg hme, if_neg hme, List.nil_append]
theorem lc_t2_run (hG : lc_G nt tm R q) {r j s e k d f : Nat} {tl : List lc_L} {out : List lc_N} (hv : lc_vt q w t R n r j s e k) (hf : 1 ≤ f) : ∃ f', f ≤ f' + 1 ∧ out ++ lc_run q w t R f (lc_ex q w t ((r, j, s, e, k, d) :: tl)) = lc_o2 q w t R r j s e k d out ++ lc_run q w t R f' (lc_ex q w t (lc_t2 q w t R r j s e k d tl)) := by
  rw [lc_t1_ex hG hv]
  unfold lc_o2 lc_t2 lc_k1
  by_cases h8 : q r (3 - j) < 8
  · rw [if_pos h8, if_pos h8, if_pos h8]
    obtain ⟨g, rfl⟩ : ∃ g, f = g + 1 := ⟨f - 1, by omega⟩
    refine ⟨g, Nat.le_refl _, ?_⟩
    rw [List.cons_append, List.nil_append, lc_run_s, List.append_assoc]
    rfl
  · rw [if_neg h8, if_neg h8, if_neg h8, List.nil_append]
    exact ⟨f, by omega, rfl⟩
theorem lc_ve_S (hS : lc_sat q w R nt n t) {x s e k : Nat} (h : lc_ve t nt n x s e k) : k < lc_S (lc_g q w t x s e) 0 R ∧ k < 1000000 := by
  obtain ⟨hx, hs, he, hk, hc⟩ := h
  rw [hS x s e hx hs he] at hk hc
  unfold lc_n at hk hc
  rw [lc_cp_lt hc] at hk hc
  exact ⟨hk, by omega⟩
end LXD
end
section
section LXE
variable {q : Nat → Nat → Nat} {w : Nat → Int32} {t : Nat → Nat} {nt tm R n : Nat} {rk : Nat → Nat}
variable {xP xC xK xM xL : Int32} {ul wy oR oS oE oD gR gP gS gE gK gD : Nat → Int32}
theorem lx_push {post : St2 → Prop} {l : Nat} {a b c d e f : Int32} (hl : l < 196) (h : post ((nI nt), (nI tm), (nI R), (nI n), xP, xC, xK, xM, (nI (l + 1)), (lc_rc q), w, ul, (lc_tr t), wy, oR, oS, oE, oD, (upd gR l a), (upd gP l b), (upd gS l c), (upd gE l d), (upd gK l e), (upd gD l f))) : wpX_pushTail post ((nI nt), (nI tm), (nI R), (nI n), xP, xC, xK, xM, (nI l), (lc_rc q), w, ul, (lc_tr t), wy, oR, oS, oE, oD, gR, gP, gS, gE, gK, gD) a b c d e f := by
  unfold wpX_pushTail
  have hi : vp_in (nI l) 196 := vp_in_nI hl (by omega)
  have hc : (nI l).toNatClampNeg = l := nI_clamp (by omega)
  refine ⟨hi, nm_r (by rw [hc]) ⟨hi, nm_r (by rw [hc]) ⟨hi, nm_r (by rw [hc]) ⟨hi, nm_r (by rw [hc]) ⟨hi, nm_r (by rw [hc]) ⟨hi, nm_r (by rw [hc]) (nm_r (nI_1 l) h)⟩⟩⟩⟩⟩⟩
theorem lx_on7 {post : St2 → Prop} {x s e d m l k : Nat} (hG : lc_G nt tm R q) (h24 : R ≤ 24) (ht : ∀ j, t j ≤ 1000000) (hx : x < 8) (hs : s < e) (he : e ≤ 12) (hm : m < 196) (hl : l < 196)
    (hp : ∀ wy', post ((nI nt), (nI tm), (nI R), (nI n), xP, xC, xK, (nI (m + 1)), (nI (l + 1)), (lc_rc q), w, ul, (lc_tr t), wy', (upd oR m (nI (lc_pk q w t R x s e k).1)), (upd oS m (nI s)), (upd oE m (nI e)), (upd oD m (nI d)), (upd gR l (nI (lc_pk q w t R x s e k).1)), (upd gP l (nI 1)), (upd gS l (nI s)), (upd gE l (nI e)), (upd gK l (nI (lc_pk q w t R x s e k).2)), (upd gD l (nI (d + 1))))) :
    ∀ D i b wy, i + D = R → lc_f (lc_g q w t x s e) D i b = lc_pk q w t R x s e k → b < lc_S (lc_g q w t x s e) i R → b < 1000000 → wX_openNode_7 post (nI x) (nI s) (nI e) (nI d) (D + 1) (nI b) (nI i) (nI nt) (nI tm) (nI R) (nI n) xP xC xK (nI m) (nI l) (lc_rc q) w ul (lc_tr t) wy oR oS oE oD gR gP gS gE gK gD := by
  intro D
  induction D with
  | zero =>
    intro i b wy hi hf hb hb2
    rw [lc_S_0 (by omega)] at hb
    omega
  | succ D ih =>
    intro i b wy hi hf hb hb2
    have hr : i < R := by omega
    have h0 := (hG.2.2 i hr).1
    have h8 := hG.1
    rw [wX_openNode_7]
    refine br_f (nI_ge hr (by omega)) ?_
    rw [lc_x4, nI_clamp (by omega), lc_rc_0, lc_cd_n (by omega)]
    refine ⟨vp_in_nI (by omega) (by omega), ?_⟩
    refine pk_eq (q i 0) x (fun z => ?_) (fun z => ?_)
    · refine lx_tail (j := 3) hG h24 ht hr (by omega) (by omega) he (fun wy' => ?_)
      have eg : lc_g q w t x s e i = lc_w q w t i 3 s e := if_pos z
      have hw := lc_w_le (q := q) (w := w) (t := t) (r := i) 3 s e
      refine pk_le (lc_w q w t i 3 s e) b (fun y => ?_) (fun y => ?_)
      · have hn : ¬ b < lc_g q w t x s e i := by omega
        rw [lc_f_n hn] at hf
        have hb' := lc_S_sub hn hr hb
        rw [eg] at hf hb'
        exact nm_r (pk_sub y) (nm_r (nI_1 i) (ih (i + 1) _ wy' (by omega) hf hb' (by omega)))
      · have hn : b < lc_g q w t x s e i := by omega
        rw [lc_f_t hn] at hf
        rw [← hf] at hp
        have hi : vp_in (nI m) 196 := vp_in_nI hm (by omega)
        have hc : (nI m).toNatClampNeg = m := nI_clamp (by omega)
        refine ⟨hi, nm_r (by rw [hc]) ⟨hi, nm_r (by rw [hc]) ⟨hi, nm_r (by rw [hc]) ⟨hi, nm_r (by rw [hc]) (nm_r (nI_1 m) ?_)⟩⟩⟩⟩
        rw [nI_1 d]
        exact lx_push hl (hp wy')
    · have eg : lc_g q w t x s e i = 0 := if_neg z
      have hn : ¬ b < lc_g q w t x s e i := by omega
      rw [lc_f_n hn] at hf
      have hb' := lc_S_sub hn hr hb
      rw [eg, Nat.sub_zero] at hf hb'
      exact nm_r (nI_1 i) (ih (i + 1) b wy (by omega) hf hb' hb2)
theorem lx_open {post : St2 → Prop} {x s e d m l k : Nat} (hG : lc_G nt tm R q) (h24 : R ≤ 24) (hn : n ≤ 12) (ht : ∀ j, t j ≤ 1000000) (hS : lc_sat q w R nt n t) (hv : lc_ve t nt n x s e k) (hm : m < 196) (hl : l < 196)
    (hp : ∀ wy', post ((nI nt), (nI tm), (nI R), (nI n), xP, xC, xK, (nI (m + 1)), (nI (l + 1)), (lc_rc q), w, ul, (lc_tr t), wy', (upd oR m (nI (lc_pk q w t R x s e k).1)), (upd oS m (nI s)), (upd oE m (nI e)), (upd oD m (nI d)), (upd gR l (nI (lc_pk q w t R x s e k).1)), (upd gP l (nI 1)), (upd gS l (nI s)), (upd gE l (nI e)), (upd gK l (nI (lc_pk q w t R x s e k).2)), (upd gD l (nI (d + 1))))) : wpX_openNode post ((nI nt), (nI tm), (nI R), (nI n), xP, xC, xK, (nI m), (nI l), (lc_rc q), w, ul, (lc_tr t), wy, oR, oS, oE, oD, gR, gP, gS, gE, gK, gD) (nI x) (nI s) (nI e) (nI k) (nI d) := by
  unfold wpX_openNode
  have h8 := hG.1
  obtain ⟨h1, h2⟩ := lc_ve_S hS hv
  obtain ⟨v1, v2, v3, -, -⟩ := hv
  exact ⟨R + 1, lx_on7 hG h24 ht (by omega) v2 (by omega) hm hl hp R 0 k wy (by omega) rfl h1 h2⟩
theorem lx_ts90 {post : St2 → Prop} {r j s e d k m l c : Nat} (hG : lc_G nt tm R q) (h24 : R ≤ 24) (ht : ∀ j, t j ≤ 1000000) (hr : r < R) (hj : j ≤ 2) (he : e ≤ 12) (hl : l < 196) (hc : c = q r (3 - j)) (hc16 : c < 16)
    (hA : (lc_m q w t r j s e k).1 = e → ∀ wy', wX_takeSymbol_172 post (nI s) (nI d) (nI (lc_m q w t r j s e k).2) (nI c) (nI (lc_m q w t r j s e k).1) (nI (lc_w q w t r j (lc_m q w t r j s e k).1 e)) (nI nt) (nI tm) (nI R) (nI n) xP xC xK (nI m) (nI l) (lc_rc q) w ul (lc_tr t) wy' oR oS oE oD gR gP gS gE gK gD)
    (hB : (lc_m q w t r j s e k).1 < e → ∀ wy', wX_takeSymbol_172 post (nI s) (nI d) (nI (lc_m q w t r j s e k).2) (nI c) (nI (lc_m q w t r j s e k).1) (nI (lc_w q w t r j (lc_m q w t r j s e k).1 e)) (nI nt) (nI tm) (nI R) (nI n) xP xC xK (nI m) (nI (l + 1)) (lc_rc q) w ul (lc_tr t) wy' oR oS oE oD (upd gR l (nI r)) (upd gP l (nI (4 - j))) (upd gS l (nI (lc_m q w t r j s e k).1)) (upd gE l (nI e)) (upd gK l (nI ((lc_m q w t r j s e k).2 % lc_w q w t r j (lc_m q w t r j s e k).1 e))) (upd gD l (nI d))) :
    ∀ D i b wy, i + D = e + 1 → s + 1 ≤ i → lc_f (lc_mf q w t r j s e) D i b = lc_m q w t r j s e k → b < lc_S (lc_mf q w t r j s e) i (e + 1) → b < 1000000 → wX_takeSymbol_90 post (nI r) (nI (3 - j)) (nI s) (nI e) (nI d) (nI c) (D + 1) (nI b) (nI i) (nI nt) (nI tm) (nI R) (nI n) xP xC xK (nI m) (nI l) (lc_rc q) w ul (lc_tr t) wy oR oS oE oD gR gP gS gE gK gD := by
  intro D
  induction D with
  | zero =>
    intro i b wy hi hsi hf hb hb2
    rw [lc_S_0 (by omega)] at hb
    omega
  | succ D ih =>
    intro i b wy hi hsi hf hb hb2
    rw [wX_takeSymbol_90]
    refine br_f (nI_nlt (by omega) (by omega)) ?_
    refine lx_sym hc16 (by omega) (by omega) ?_
    have hy := lc_y_le (w := w) ht c s i
    have hw := lc_w_le (q := q) (w := w) (t := t) (r := r) j i e
    have hmf : lc_mf q w t r j s e i = lc_y w t c s i * lc_w q w t r j i e := by rw [hc]; rfl
    have hN : ∀ wy', ¬ b < lc_mf q w t r j s e i → wX_takeSymbol_90 post (nI r) (nI (3 - j)) (nI s) (nI e) (nI d) (nI c) (D + 1) (nI (b - lc_mf q w t r j s e i)) (nI (i + 1)) (nI nt) (nI tm) (nI R) (nI n) xP xC xK (nI m) (nI l) (lc_rc q) w ul (lc_tr t) wy' oR oS oE oD gR gP gS gE gK gD := by
      intro wy' hn
      rw [lc_f_n hn] at hf
      exact ih (i + 1) _ wy' (by omega) (by omega) hf (lc_S_sub hn (by omega) hb) (by omega)
    refine lc_if (lc_eq0 (by omega)) (fun z => ?_) (fun z => ?_)
    · rw [z, Nat.zero_mul] at hmf
      have H := hN wy (by omega)
      rw [hmf, Nat.sub_zero] at H
      rw [z]
      unfold wX_takeSymbol_129
      refine br_t (by decide) ?_
      unfold wX_takeSymbol_196
      refine nm_r (e' := nI b) ?_ (nm_r (nI_1 i) H)
      rw [show nI 0 * 0 = nI 0 from rfl]
      exact pk_sub (Nat.zero_le b)
    · have e1 : nI (3 - j) + 1 = nI (4 - j) := by rw [nI_1]; congr 1; omega
      rw [e1]
      refine lx_tail hG h24 ht hr (by omega) (by omega) he (fun wy' => ?_)
      unfold wX_takeSymbol_129
      refine lc_if (lc_0le (by omega)) (fun z2 => ?_) (fun z2 => ?_)
      · rw [z2, Nat.mul_zero] at hmf
        have H := hN wy' (by omega)
        rw [hmf, Nat.sub_zero] at H
        rw [z2]
        unfold wX_takeSymbol_196
        refine nm_r (e' := nI b) ?_ (nm_r (nI_1 i) H)
        rw [pk_mul, Nat.mul_zero]
        exact pk_sub (Nat.zero_le b)
      · have hw0 : 0 < lc_w q w t r j i e := by omega
        have hne : ¬ nI (lc_w q w t r j i e) = 0 := nI_ne0 hw0 (by omega)
        have hdl : b / lc_w q w t r j i e ≤ b := Nat.div_le_self _ _
        refine ⟨hne, ?_⟩
        rw [pk_div (by omega) hw0 (by omega)]
        refine pk_le (lc_y w t c s i) (b / lc_w q w t r j i e) (fun y => ?_) (fun y => ?_)
        · have y' : lc_y w t c s i * lc_w q w t r j i e ≤ b := (Nat.le_div_iff_mul_le hw0).mp y
          have H := hN wy' (by omega)
          rw [hmf] at H
          unfold wX_takeSymbol_196
          refine nm_r (e' := nI (b - lc_y w t c s i * lc_w q w t r j i e)) ?_ (nm_r (nI_1 i) H)
          rw [pk_mul, pk_sub y']
        · have y' : b < lc_y w t c s i * lc_w q w t r j i e := (Nat.div_lt_iff_lt_mul hw0).mp y
          have hb3 : b < lc_mf q w t r j s e i := by omega
          rw [lc_f_t hb3] at hf
          rw [← hf] at hA hB
          refine pk_le e i (fun z3 => ?_) (fun z3 => ⟨hne, ?_⟩)
          · exact hA (show i = e by omega) wy'
          · have e2 : nI b - nI (b / lc_w q w t r j i e) * nI (lc_w q w t r j i e) = nI (b % lc_w q w t r j i e) := by
              rw [← pk_div (by omega) hw0 (by omega)]
              exact pk_rem (by omega) hw0 (by omega)
            rw [e1, e2]
            exact lx_push hl (hB z3 wy')
theorem lx_ts172 {post : St2 → Prop} {s d b c i rest m l : Nat} (hG : lc_G nt tm R q) (h24 : R ≤ 24) (hn : n ≤ 12) (ht : ∀ j, t j ≤ 1000000) (hS : lc_sat q w R nt n t) (hc16 : c < 16) (hb : b < 1000000) (hr0 : 0 < rest) (hr : rest < 1000001) (hv : c < 8 → lc_ve t nt n c s i (b / rest)) (hm : m < 196) (hl : l < 196)
    (h1 : ¬ c < 8 → post ((nI nt), (nI tm), (nI R), (nI n), xP, xC, xK, (nI m), (nI l), (lc_rc q), w, ul, (lc_tr t), wy, oR, oS, oE, oD, gR, gP, gS, gE, gK, gD))
    (h2 : c < 8 → ∀ wy', post ((nI nt), (nI tm), (nI R), (nI n), xP, xC, xK, (nI (m + 1)), (nI (l + 1)), (lc_rc q), w, ul, (lc_tr t), wy', (upd oR m (nI (lc_pk q w t R c s i (b / rest)).1)), (upd oS m (nI s)), (upd oE m (nI i)), (upd oD m (nI d)), (upd gR l (nI (lc_pk q w t R c s i (b / rest)).1)), (upd gP l (nI 1)), (upd gS l (nI s)), (upd gE l (nI i)), (upd gK l (nI (lc_pk q w t R c s i (b / rest)).2)), (upd gD l (nI (d + 1))))) :
    wX_takeSymbol_172 post (nI s) (nI d) (nI b) (nI c) (nI i) (nI rest) (nI nt) (nI tm) (nI R) (nI n) xP xC xK (nI m) (nI l) (lc_rc q) w ul (lc_tr t) wy oR oS oE oD gR gP gS gE gK gD := by
  unfold wX_takeSymbol_172
  refine pk_le 8 c (fun z => h1 (by omega)) (fun z => ⟨nI_ne0 hr0 (by omega), ?_⟩)
  rw [pk_div (by omega) hr0 (by omega)]
  exact lx_open hG h24 hn ht hS (hv z) hm hl (h2 z)
/-- one symbol taken, over the lists -/
theorem lx_take {post : St2 → Prop} {r j s e k d : Nat} {tl : List lc_L} {out : List lc_N} (hG : lc_G nt tm R q) (h24 : R ≤ 24) (hn : n ≤ 12) (ht : ∀ j, t j ≤ 1000000) (hS : lc_sat q w R nt n t) (hv : lc_vt q w t R n r j s e k) (hm : out.length < 196) (hl : tl.length + 1 < 196) (hsk : lc_sk gR gP gS gE gK gD ((r, j, s, e, k, d) :: tl)) (hnd : lc_nd oR oS oE oD out)
    (hp : ∀ wy' oR' oS' oE' oD' gR' gP' gS' gE' gK' gD', lc_nd oR' oS' oE' oD' (lc_o2 q w t R r j s e k d out) → lc_sk gR' gP' gS' gE' gK' gD' (lc_t2 q w t R r j s e k d tl) → post ((nI nt), (nI tm), (nI R), (nI n), xP, xC, xK, (nI (lc_o2 q w t R r j s e k d out).length), (nI (lc_t2 q w t R r j s e k d tl).length), (lc_rc q), w, ul, (lc_tr t), wy', oR', oS', oE', oD', gR', gP', gS', gE', gK', gD')) :
    wpX_takeSymbol post ((nI nt), (nI tm), (nI R), (nI n), xP, xC, xK, (nI out.length), (nI (tl.length + 1)), (lc_rc q), w, ul, (lc_tr t), wy, oR, oS, oE, oD, gR, gP, gS, gE, gK, gD) := by
  obtain ⟨m1, m2, m3, m4⟩ := lc_m_ok hG hv
  have hp0 := lc_mp (Nat.lt_of_le_of_lt (Nat.zero_le _) m3)
  obtain ⟨kS, kC⟩ := lc_vt_S hv
  have hv' := hv
  obtain ⟨hr, hj, hse, hen, h16, -, -⟩ := hv'
  obtain ⟨⟨g1, g2, g3, g4, g5, g6⟩, hsk'⟩ := hsk
  have hq16 := lc_G_r hG hr (3 - j) (by omega)
  have hi : vp_in (nI tl.length) 196 := vp_in_nI (by omega) (by omega)
  have hc : (nI tl.length).toNatClampNeg = tl.length := nI_clamp (by omega)
  have hw := lc_w_le (q := q) (w := w) (t := t) (r := r) j (lc_m q w t r j s e k).1 e
  have ei : nI r * 4 + nI (3 - j) = nI (r * 4 + (3 - j)) := by rw [lc_x4, nI_add]
  have hvi : vp_in (nI r * 4 + nI (3 - j)) 96 := by rw [ei]; exact vp_in_nI (by omega) (by omega)
  unfold wpX_takeSymbol
  rw [← hc] at g1 g2 g3 g4 g5 g6
  refine nm_r (nI_pred tl.length) ⟨hi, nm_r g1 ⟨hi, nm_r g2 ⟨hi, nm_r g3 ⟨hi, nm_r g4 ⟨hi, nm_r g6 ⟨hi, nm_r g5 ⟨hvi, nm_r (e' := nI (q r (3 - j))) (by rw [ei, nI_clamp (by omega), lc_rc_p (by omega), lc_cd_n h16]) (nm_r (nI_1 s) ⟨e - s + 1, ?_⟩)⟩⟩⟩⟩⟩⟩⟩
  refine lx_ts90 (c := q r (3 - j)) hG h24 ht hr hj (by omega) (by omega) rfl (by omega) (fun em wy' => ?_) (fun em wy' => ?_) (e - s) (s + 1) k wy (by omega) (Nat.le_refl _) rfl kS (by omega)
  · refine lx_ts172 hG h24 hn ht hS (by omega) (by omega) hp0.2 (by omega) (fun h8 => lc_m_ch hG hv m1 m2 m3 m4 h8) hm (by omega) (fun h8 => ?_) (fun h8 wy2 => ?_)
    · have e1 : lc_o2 q w t R r j s e k d out = out := if_neg h8
      have e2 : lc_t2 q w t R r j s e k d tl = tl := by unfold lc_t2 lc_t1; rw [if_neg h8, if_neg (by omega)]
      rw [e1, e2] at hp
      exact hp _ _ _ _ _ _ _ _ _ _ _ hnd hsk'
    · have e1 : lc_o2 q w t R r j s e k d out = out ++ [((lc_c1 q w t R r j s e k).1, s, (lc_m q w t r j s e k).1, d)] := if_pos h8
      have e2 : lc_t2 q w t R r j s e k d tl = ((lc_c1 q w t R r j s e k).1, 2, s, (lc_m q w t r j s e k).1, (lc_c1 q w t R r j s e k).2, d + 1) :: tl := by unfold lc_t2 lc_t1; rw [if_pos h8, if_neg (by omega)]
      rw [e1, e2] at hp
      have H := hp wy2 _ _ _ _ _ _ _ _ _ _ (lc_nd_a hnd) (lc_sk_p hsk')
      rw [List.length_append] at H
      exact H
  · refine lx_ts172 hG h24 hn ht hS (by omega) (by omega) hp0.2 (by omega) (fun h8 => lc_m_ch hG hv m1 m2 m3 m4 h8) hm (by omega) (fun h8 => ?_) (fun h8 wy2 => ?_)
    · obtain ⟨j', rfl, hv2⟩ := lc_m_nx hG hv m1 em m3 m4
      have e1 : lc_o2 q w t R r (j' + 1) s e k d out = out := if_neg h8
      have e2 : lc_t2 q w t R r (j' + 1) s e k d tl = (r, j', (lc_m q w t r (j' + 1) s e k).1, e, (lc_m q w t r (j' + 1) s e k).2 % lc_w q w t r (j' + 1) (lc_m q w t r (j' + 1) s e k).1 e, d) :: tl := by unfold lc_t2 lc_t1; rw [if_neg h8, if_pos em]; rfl
      rw [e1, e2] at hp
      have e3 : 4 - (j' + 1) = 3 - j' := by omega
      rw [e3]
      exact hp _ _ _ _ _ _ _ _ _ _ _ hnd (lc_sk_p hsk')
    · obtain ⟨j', rfl, hv2⟩ := lc_m_nx hG hv m1 em m3 m4
      have e1 : lc_o2 q w t R r (j' + 1) s e k d out = out ++ [((lc_c1 q w t R r (j' + 1) s e k).1, s, (lc_m q w t r (j' + 1) s e k).1, d)] := if_pos h8
      have e2 : lc_t2 q w t R r (j' + 1) s e k d tl = ((lc_c1 q w t R r (j' + 1) s e k).1, 2, s, (lc_m q w t r (j' + 1) s e k).1, (lc_c1 q w t R r (j' + 1) s e k).2, d + 1) :: (r, j', (lc_m q w t r (j' + 1) s e k).1, e, (lc_m q w t r (j' + 1) s e k).2 % lc_w q w t r (j' + 1) (lc_m q w t r (j' + 1) s e k).1 e, d) :: tl := by unfold lc_t2 lc_t1; rw [if_pos h8, if_pos em]; rfl
      rw [e1, e2] at hp
      have e3 : 4 - (j' + 1) = 3 - j' := by omega
      rw [e3]
      have H := hp wy2 _ _ _ _ _ _ _ _ _ _ (lc_nd_a hnd) (lc_sk_p (lc_sk_p hsk'))
      rw [List.length_append] at H
      exact H
theorem lx_se58 {post : Int32 → St2 → Prop} {rank : Int32} {Lf : List lc_N} (hG : lc_G nt tm R q) (h24 : R ≤ 24) (hn : n ≤ 12) (ht : ∀ j, t j ≤ 1000000) (hS : lc_sat q w R nt n t) (hA : lc_A R q rk) (hk : ∀ x, x < nt → rk x < nt)
    (hp : ∀ xL' wy' oR' oS' oE' oD' gR' gP' gS' gE' gK' gD', lc_nd oR' oS' oE' oD' Lf → Lf.length ≤ 196 → post (nI Lf.length) ((nI nt), (nI tm), (nI R), (nI n), xP, xC, rank, (nI Lf.length), xL', (lc_rc q), w, ul, (lc_tr t), wy', oR', oS', oE', oD', gR', gP', gS', gE', gK', gD')) :
    ∀ N part f (out : List lc_N) (tl : List lc_L) wy oR oS oE oD gR gP gS gE gK gD, lc_tv q w t R n tl → lc_nd oR oS oE oD out → lc_sk gR gP gS gE gK gD tl → part + lc_mt rk q tl ≤ 196 → 1 ≤ part → out.length ≤ part → lc_mt rk q tl ≤ f → lc_mt rk q tl < N → out ++ lc_run q w t R f (lc_ex q w t tl) = Lf → wX_selectTree_58 post rank N (nI part) (nI nt) (nI tm) (nI R) (nI n) xP xC xK (nI out.length) (nI tl.length) (lc_rc q) w ul (lc_tr t) wy oR oS oE oD gR gP gS gE gK gD := by
  intro N
  induction N with
  | zero => intro part f out tl wy oR oS oE oD gR gP gS gE gK gD _ _ _ _ _ _ _ h; omega
  | succ N ih =>
    intro part f out tl wy oR oS oE oD gR gP gS gE gK gD htv hnd hsk hpart hp1 hout hf hN hL
    cases tl with
    | nil =>
      have e1 : lc_run q w t R f (lc_ex q w t []) = [] := lc_run_n
      rw [e1, List.append_nil] at hL
      subst hL
      have hpt : part ≤ 196 := Nat.le_trans (Nat.le_add_right _ _) hpart
      have H := hp (nI 0) wy oR oS oE oD gR gP gS gE gK gD hnd (by omega)
      rw [wX_selectTree_58]
      refine br_c (fun _ => H) (fun _ => br_t ?_ H)
      show nI 0 ≤ 0
      decide
    | cons a tl =>
      obtain ⟨r, j, s, e, k, d⟩ := a
      obtain ⟨o1, o2⟩ := lc_t2_ok (d := d) (tl := tl) hG hA hk hS htv
      have hlen := lc_mt_len (rk := rk) ((r, j, s, e, k, d) :: tl) htv
      have hlen' : tl.length + 1 ≤ lc_mt rk q ((r, j, s, e, k, d) :: tl) := hlen
      rw [wX_selectTree_58]
      refine br_f (nI_ge (b := 196) (by omega) (by decide)) (br_f ?_ ?_)
      · show ¬ nI (tl.length + 1) ≤ 0
        exact nI_nle (by omega) (by omega)
      · obtain ⟨f', hf', hrun⟩ := lc_t2_run (f := f) (d := d) (tl := tl) (out := out) hG htv.1 (by omega)
        rw [hrun] at hL
        refine lx_take hG h24 hn ht hS htv.1 (by omega) (by omega) hsk hnd (fun wy' oR' oS' oE' oD' gR' gP' gS' gE' gK' gD' hnd' hsk' => nm_r (nI_1 part) ?_)
        refine ih (part + 1) f' _ _ wy' oR' oS' oE' oD' gR' gP' gS' gE' gK' gD' o1 hnd' hsk' (by omega) (by omega) ?_ (by omega) (by omega) hL
        unfold lc_o2
        split
        · rw [List.length_append]
          exact Nat.add_le_add_right hout 1
        · omega
/-- the nodes of the tree of rank k -/
def lc_tree (q : Nat → Nat → Nat) (w : Nat → Int32) (t : Nat → Nat) (R n k : Nat) : List lc_N := lc_run q w t R 256 [(0, 0, n, k, 0)]
theorem lc_root {c k : Nat} (h1 : 1 ≤ nt) (hc : c = lc_rt t n) (hC : c < 1000000) (hk : k < c) : lc_ve t nt n 0 0 n k := by
  unfold lc_rt at hc
  by_cases z : n = 0
  · rw [if_pos z] at hc; omega
  · rw [if_neg z] at hc
    exact ⟨by omega, by omega, Nat.le_refl n, by omega, by omega⟩
theorem lx_select {post : Int32 → St2 → Prop} {c k : Nat} (hG : lc_G nt tm R q) (h24 : R ≤ 24) (h1 : 1 ≤ nt) (hn : n ≤ 12) (ht : ∀ j, t j ≤ 1000000) (hS : lc_sat q w R nt n t) (hA : lc_A R q rk) (hk : ∀ x, x < nt → rk x < nt) (hc : c = lc_rt t n) (hC : c < 1000000) (hkc : k < c)
    (hp : ∀ xL' wy' oR' oS' oE' oD' gR' gP' gS' gE' gK' gD', lc_nd oR' oS' oE' oD' (lc_tree q w t R n k) → (lc_tree q w t R n k).length ≤ 196 → post (nI (lc_tree q w t R n k).length) ((nI nt), (nI tm), (nI R), (nI n), 1, (nI c), (nI k), (nI (lc_tree q w t R n k).length), xL', (lc_rc q), w, ul, (lc_tr t), wy', oR', oS', oE', oD', gR', gP', gS', gE', gK', gD')) :
    wpX_selectTree post ((nI nt), (nI tm), (nI R), (nI n), 1, (nI c), xK, xM, xL, (lc_rc q), w, ul, (lc_tr t), wy, oR, oS, oE, oD, gR, gP, gS, gE, gK, gD) (nI k) := by
  have hv := lc_root h1 hc hC hkc
  have hv' := hv
  obtain ⟨v1, v2, v3, -, -⟩ := hv'
  obtain ⟨p1, p2⟩ := lc_pk_ok hG hS hv
  have hk0 := hk 0 h1
  have h8 := hG.1
  unfold wpX_selectTree
  refine br_f (by decide) (br_f (nI_ge (b := 1000000) hC (by decide)) (br_f (nI_pos (by omega)) (br_t (nI_lt hkc (by omega)) ?_)))
  refine lx_open (x := 0) (s := 0) (m := 0) (l := 0) (d := 0) hG h24 hn ht hS hv (by omega) (by omega) (fun wy' => ⟨196, ?_⟩)
  have hB : lc_mt rk q [((lc_pk q w t R 0 0 n k).1, 2, 0, n, (lc_pk q w t R 0 0 n k).2, 1)] = 17 * (n - 0) - 16 + rk 0 := by
    rw [lc_mt_c, lc_B_2, p1]; rfl
  refine lx_se58 (Lf := lc_tree q w t R n k) (rk := rk) hG h24 hn ht hS hA hk hp 196 1 255 [((lc_pk q w t R 0 0 n k).1, 0, n, 0)] [((lc_pk q w t R 0 0 n k).1, 2, 0, n, (lc_pk q w t R 0 0 n k).2, 1)] wy' _ _ _ _ _ _ _ _ _ _ ⟨p2, True.intro⟩ (lc_nd_a lc_nd_0) (lc_sk_p (gR := gR) (gP := gP) (gS := gS) (gE := gE) (gK := gK) (gD := gD) (l := []) (r := (lc_pk q w t R 0 0 n k).1) (j := 2) (s := 0) (e := n) (k := (lc_pk q w t R 0 0 n k).2) (d := 1) True.intro) ?_ (Nat.le_refl 1) (Nat.le_refl 1) ?_ ?_ rfl
  · rw [hB]; omega
  · rw [hB]; omega
  · rw [hB]; omega
end LXE
end
section
section LPA
variable {q : Nat → Nat → Nat} {w : Nat → Int32} {t t' : Nat → Nat} {nt tm R n : Nat} {rk : Nat → Nat}
/-! A: two tables that agree give the same trees -/
def lc_ag (nt n : Nat) (t t' : Nat → Nat) : Prop := ∀ x s e, x < nt → s < e → e ≤ n → t (lc_ix x s e) = t' (lc_ix x s e)
theorem lc_f_c {f g : Nat → Nat} : ∀ m a k, (∀ i, a ≤ i → i < a + m → f i = g i) → lc_f f m a k = lc_f g m a k := by
  intro m
  induction m with
  | zero => intro a k _; rfl
  | succ m ih =>
    intro a k h
    have e := h a (Nat.le_refl a) (by omega)
    by_cases c : k < f a
    · rw [lc_f_t c, lc_f_t (by rw [← e]; exact c)]
    · rw [lc_f_n c, lc_f_n (by rw [← e]; exact c), e]
      exact ih (a + 1) _ (fun i h1 h2 => h i (by omega) (by omega))
theorem lc_w_ag (hG : lc_G nt tm R q) (hag : lc_ag nt n t t') {r e : Nat} (hr : r < R) (he : e ≤ n) (j s : Nat) : lc_w q w t r j s e = lc_w q w t' r j s e :=
  lc_w_c (lc_G_8 hG hr) j s e (fun x a b hx _ hab hb => hag x a b hx hab (by omega))
theorem lc_m_ag (hG : lc_G nt tm R q) (hag : lc_ag nt n t t') {r e : Nat} (hr : r < R) (he : e ≤ n) (j s k : Nat) : lc_m q w t r j s e k = lc_m q w t' r j s e k := by
  unfold lc_m
  refine lc_f_c _ _ _ ?_
  intro i h1 h2
  show lc_y w t (q r (3 - j)) s i * lc_w q w t r j i e = lc_y w t' (q r (3 - j)) s i * lc_w q w t' r j i e
  rw [lc_w_ag hG hag hr he j i, lc_y_c (fun h8 => hag _ s i (lc_G_8 hG hr (3 - j) (by omega) h8) (by omega) (by omega))]
theorem lc_pk_ag (hG : lc_G nt tm R q) (hag : lc_ag nt n t t') {x s e k : Nat} (he : e ≤ n) : lc_pk q w t R x s e k = lc_pk q w t' R x s e k := by
  unfold lc_pk
  refine lc_f_c _ _ _ ?_
  intro r h1 h2
  unfold lc_g
  rw [lc_w_ag hG hag (by omega) he 3 s]
theorem lc_kd_ag (hG : lc_G nt tm R q) (hag : lc_ag nt n t t') {r e d : Nat} (hr : r < R) (he : e ≤ n) : ∀ j s k, lc_kd q w t r j s e k d = lc_kd q w t' r j s e k d := by
  intro j
  induction j with
  | zero => intro s k; rfl
  | succ j ih =>
    intro s k
    rw [lc_kd_s, lc_kd_s, lc_m_ag hG hag hr he j s k, lc_w_ag hG hag hr he j, ih]
theorem lc_run_ag (hG : lc_G nt tm R q) (hA : lc_A R q rk) (hk : ∀ x, x < nt → rk x < nt) (hS : lc_sat q w R nt n t) (hag : lc_ag nt n t t') : ∀ f st, lc_ev t nt n st → lc_run q w t R f st = lc_run q w t' R f st := by
  intro f
  induction f with
  | zero => intro st _; rfl
  | succ f ih =>
    intro st h
    cases st with
    | nil => rfl
    | cons a l =>
      obtain ⟨x, s, e, k, d⟩ := a
      obtain ⟨o1, -⟩ := lc_en_ok hG hA hk hS h
      have he := h.1.2.2.1
      obtain ⟨-, p2⟩ := lc_pk_ok hG hS h.1
      have e1 := ih _ o1
      rw [lc_run_s, lc_run_s, e1, lc_pk_ag hG hag he, lc_kd_ag hG hag (by rw [← lc_pk_ag hG hag he]; exact p2.1) he]
/-! B: fuel, and stacks one upon the other -/
theorem lc_mu_2 {x s e k d : Nat} {l : List lc_E} (h : lc_ev t nt n ((x, s, e, k, d) :: l)) : 2 ≤ lc_mu rk ((x, s, e, k, d) :: l) := by
  have := h.1.2.1
  rw [lc_mu_c]; omega
theorem lc_run_fu (hG : lc_G nt tm R q) (hA : lc_A R q rk) (hk : ∀ x, x < nt → rk x < nt) (hS : lc_sat q w R nt n t) : ∀ f g st, lc_ev t nt n st → lc_mu rk st ≤ f → lc_mu rk st ≤ g → lc_run q w t R f st = lc_run q w t R g st := by
  intro f
  induction f with
  | zero =>
    intro g st h h1 h2
    cases st with
    | nil => rw [lc_run_n, lc_run_n]
    | cons a l =>
      obtain ⟨x, s, e, k, d⟩ := a
      have := lc_mu_2 (rk := rk) h
      omega
  | succ f ih =>
    intro g st h h1 h2
    cases st with
    | nil => rw [lc_run_n, lc_run_n]
    | cons a l =>
      obtain ⟨x, s, e, k, d⟩ := a
      have := lc_mu_2 (rk := rk) h
      obtain ⟨o1, o2⟩ := lc_en_ok hG hA hk hS h
      obtain ⟨g', rfl⟩ : ∃ g', g = g' + 1 := ⟨g - 1, by omega⟩
      rw [lc_run_s, lc_run_s, ih g' _ o1 (by omega) (by omega)]
theorem lc_run_ap (hG : lc_G nt tm R q) (hA : lc_A R q rk) (hk : ∀ x, x < nt → rk x < nt) (hS : lc_sat q w R nt n t) : ∀ f st st', lc_ev t nt n st → lc_ev t nt n st' → lc_mu rk st + lc_mu rk st' ≤ f → lc_run q w t R f (st ++ st') = lc_run q w t R f st ++ lc_run q w t R f st' := by
  intro f
  induction f with
  | zero =>
    intro st st' h h' hm
    rfl
  | succ f ih =>
    intro st st' h h' hm
    cases st with
    | nil => rw [lc_run_n]; rfl
    | cons a l =>
      obtain ⟨x, s, e, k, d⟩ := a
      obtain ⟨o1, o2⟩ := lc_en_ok hG hA hk hS h
      rw [List.cons_append, lc_run_s, lc_run_s, ← List.append_assoc, ih _ st' o1 h' (by omega), List.cons_append, lc_run_fu hG hA hk hS (f + 1) f st' h' (by omega) (by omega)]
/-! C: depths -/
theorem lc_kd_d {r e d : Nat} : ∀ j s k, ∀ y ∈ lc_kd q w t r j s e k d, y.2.2.2.2 = d := by
  intro j
  induction j with
  | zero => intro s k y hy; cases hy
  | succ j ih =>
    intro s k y hy
    rw [lc_kd_s] at hy
    rcases List.mem_append.mp hy with h | h
    · unfold lc_k1 at h
      split at h
      · rw [List.mem_singleton] at h
        rw [h]
      · cases h
    · split at h
      · exact ih _ _ y h
      · cases h
theorem lc_run_d : ∀ f st δ, (∀ y ∈ st, δ ≤ y.2.2.2.2) → ∀ v ∈ lc_run q w t R f st, δ ≤ v.2.2.2 := by
  intro f
  induction f with
  | zero => intro st δ _ v hv; cases hv
  | succ f ih =>
    intro st δ h v hv
    cases st with
    | nil => cases hv
    | cons a l =>
      obtain ⟨x, s, e, k, d⟩ := a
      have hd : δ ≤ d := h _ List.mem_cons_self
      rw [lc_run_s] at hv
      rcases List.mem_cons.mp hv with rfl | hv
      · exact hd
      · refine ih _ δ ?_ v hv
        intro y hy
        rcases List.mem_append.mp hy with h1 | h1
        · rw [lc_kd_d _ _ _ y h1]; omega
        · exact h y (List.mem_cons_of_mem _ h1)
/-- depths do not rise down the stack -/
def lc_so : List lc_E → Prop
  | [] => True
  | (_, _, _, _, d) :: l => (∀ y ∈ l, y.2.2.2.2 ≤ d) ∧ lc_so l
theorem lc_so_k {d : Nat} : ∀ {K l : List lc_E}, (∀ y ∈ K, y.2.2.2.2 = d + 1) → (∀ y ∈ l, y.2.2.2.2 ≤ d) → lc_so l → lc_so (K ++ l) := by
  intro K
  induction K with
  | nil => intro l _ _ h; exact h
  | cons a K ih =>
    intro l h1 h2 h3
    obtain ⟨x, s, e, k, d'⟩ := a
    have hd : d' = d + 1 := h1 _ List.mem_cons_self
    refine ⟨?_, ih (fun y hy => h1 y (List.mem_cons_of_mem _ hy)) h2 h3⟩
    intro y hy
    rcases List.mem_append.mp hy with h | h
    · have := h1 y (List.mem_cons_of_mem _ h); omega
    · have := h2 y h; omega
/-- the machine as it makes node u -/
theorem lc_pos (hG : lc_G nt tm R q) (hA : lc_A R q rk) (hk : ∀ x, x < nt → rk x < nt) (hS : lc_sat q w R nt n t) {st0 : List lc_E} {f0 : Nat} (h0 : lc_ev t nt n st0) (hs0 : lc_so st0) (hf0 : lc_mu rk st0 ≤ f0) : ∀ u, u < (lc_run q w t R f0 st0).length → ∃ x s e k d rest f, lc_ev t nt n ((x, s, e, k, d) :: rest) ∧ lc_so ((x, s, e, k, d) :: rest) ∧ lc_mu rk ((x, s, e, k, d) :: rest) ≤ f + 1 ∧ (lc_run q w t R f0 st0).drop u = lc_run q w t R (f + 1) ((x, s, e, k, d) :: rest) := by
  intro u
  induction u with
  | zero =>
    intro hu
    cases st0 with
    | nil => rw [lc_run_n] at hu; exact absurd hu (Nat.lt_irrefl 0)
    | cons a l =>
      obtain ⟨x, s, e, k, d⟩ := a
      have := lc_mu_2 (rk := rk) h0
      obtain ⟨f, rfl⟩ : ∃ f, f0 = f + 1 := ⟨f0 - 1, by omega⟩
      exact ⟨x, s, e, k, d, l, f, h0, hs0, hf0, rfl⟩
  | succ u ih =>
    intro hu
    obtain ⟨x, s, e, k, d, rest, f, h1, h2, h3, h4⟩ := ih (by omega)
    obtain ⟨o1, o2⟩ := lc_en_ok hG hA hk hS h1
    have h5 : (lc_run q w t R f0 st0).drop (u + 1) = lc_run q w t R f (lc_kd q w t (lc_pk q w t R x s e k).1 3 s e (lc_pk q w t R x s e k).2 (d + 1) ++ rest) := by
      rw [← List.drop_drop, h4, lc_run_s]; rfl
    have h6 : lc_so (lc_kd q w t (lc_pk q w t R x s e k).1 3 s e (lc_pk q w t R x s e k).2 (d + 1) ++ rest) := lc_so_k (lc_kd_d _ _ _) h2.1 h2.2
    have h7 : 0 < ((lc_run q w t R f0 st0).drop (u + 1)).length := by rw [List.length_drop]; omega
    rw [h5] at h7
    generalize hK : lc_kd q w t (lc_pk q w t R x s e k).1 3 s e (lc_pk q w t R x s e k).2 (d + 1) ++ rest = K at *
    cases K with
    | nil => rw [lc_run_n] at h7; exact absurd h7 (Nat.lt_irrefl 0)
    | cons a l =>
      obtain ⟨x', s', e', k', d'⟩ := a
      have := lc_mu_2 (rk := rk) o1
      obtain ⟨f', rfl⟩ : ∃ f', f = f' + 1 := ⟨f - 1, by omega⟩
      exact ⟨x', s', e', k', d', l, f', o1, h6, by omega, h5⟩
/-! D: the order of trees -/
def lc_lx : List lc_N → List lc_N → Prop
  | v :: l, v' :: l' => (v.2.2.1 - v.2.1 < v'.2.2.1 - v'.2.1 ∨ (v.2.2.1 - v.2.1 = v'.2.2.1 - v'.2.1 ∧ v.1 < v'.1)) ∨ (v.2.2.1 - v.2.1 = v'.2.2.1 - v'.2.1 ∧ v.1 = v'.1 ∧ lc_lx l l')
  | _, _ => False
theorem lc_lx_p : ∀ (P : List lc_N) {a b : List lc_N}, lc_lx a b → lc_lx (P ++ a) (P ++ b) := by
  intro P
  induction P with
  | nil => intro a b h; exact h
  | cons v P ih => intro a b h; exact Or.inr ⟨rfl, rfl, ih h⟩
theorem lc_f_mono {f : Nat → Nat} : ∀ m a k k', k < k' → k' < lc_S f a (a + m) → (lc_f f m a k).1 < (lc_f f m a k').1 ∨ ((lc_f f m a k).1 = (lc_f f m a k').1 ∧ (lc_f f m a k).2 < (lc_f f m a k').2) := by
  intro m
  induction m with
  | zero => intro a k k' h h'; rw [lc_S_0 (by omega)] at h'; omega
  | succ m ih =>
    intro a k k' h h'
    by_cases c' : k' < f a
    · rw [lc_f_t c', lc_f_t (by omega)]
      exact Or.inr ⟨rfl, h⟩
    · have hs := lc_S_sub c' (by omega) h'
      rw [show a + (m + 1) = a + 1 + m by omega] at hs
      rw [lc_f_n c']
      by_cases c : k < f a
      · rw [lc_f_t c]
        left
        have := (lc_f_ok m (a + 1) (k' - f a) hs).1
        show a < _
        omega
      · rw [lc_f_n c]
        exact ih (a + 1) (k - f a) (k' - f a) (by omega) hs
theorem lc_w_ee {r e : Nat} : ∀ j, lc_w q w t r j e e ≤ 1 := by
  intro j
  induction j with
  | zero => rw [lc_w_0]; split <;> omega
  | succ j ih =>
    by_cases z : q r (3 - j) = 16
    · rw [lc_w_n z]; exact ih
    · rw [lc_w_z z]; omega
/-- entries of the same place: the lower rank first -/
theorem lc_lx_e (hG : lc_G nt tm R q) (hA : lc_A R q rk) (hk : ∀ x, x < nt → rk x < nt) (hS : lc_sat q w R nt n t) : ∀ N x s e k k' d rest rest' f f', 17 * (e - s) - 15 + rk x ≤ N → k < k' → lc_ev t nt n ((x, s, e, k, d) :: rest) → lc_ev t nt n ((x, s, e, k', d) :: rest') → lc_mu rk ((x, s, e, k, d) :: rest) ≤ f → lc_mu rk ((x, s, e, k', d) :: rest') ≤ f' → lc_lx (lc_run q w t R f ((x, s, e, k, d) :: rest)) (lc_run q w t R f' ((x, s, e, k', d) :: rest')) := by
  intro N
  induction N with
  | zero =>
    intro x s e k k' d rest rest' f f' hN hkk h h' hf hf'
    have := h.1.2.1
    omega
  | succ N ihN =>
    -- tails of the same rule and place
    have T : ∀ j r s e b b' d rest rest' f f', lc_B rk q r j s e ≤ N → b < b' → lc_vt q w t R n r j s e b → lc_vt q w t R n r j s e b' → lc_ev t nt n rest → lc_ev t nt n rest' → lc_mu rk (lc_kd q w t r (j + 1) s e b d ++ rest) ≤ f → lc_mu rk (lc_kd q w t r (j + 1) s e b' d ++ rest') ≤ f' → lc_lx (lc_run q w t R f (lc_kd q w t r (j + 1) s e b d ++ rest)) (lc_run q w t R f' (lc_kd q w t r (j + 1) s e b' d ++ rest')) := by
      intro j
      induction j using Nat.strongRecOn with
      | ind j ihj =>
        intro r s e b b' d rest rest' f f' hB hbb hv hv' hr hr' hf hf'
        obtain ⟨m1, m2, m3, m4⟩ := lc_m_ok hG hv
        obtain ⟨n1, n2, n3, n4⟩ := lc_m_ok hG hv'
        have hk1 := lc_kd_ok (d := d) hG hA hk j s e b hv
        have hk2 := lc_kd_ok (d := d) hG hA hk j s e b' hv'
        have e1 : s + 1 + (e - s) = e + 1 := by have := hv.2.2.1; omega
        have M : (lc_m q w t r j s e b).1 < (lc_m q w t r j s e b').1 ∨ ((lc_m q w t r j s e b).1 = (lc_m q w t r j s e b').1 ∧ (lc_m q w t r j s e b).2 < (lc_m q w t r j s e b').2) := lc_f_mono (f := lc_mf q w t r j s e) (e - s) (s + 1) b b' hbb (by rw [e1]; exact (lc_vt_S hv').1)
        have ev1 := lc_ev_a hk1.1 hr
        have ev2 := lc_ev_a hk2.1 hr'
        have hmid := fun (y : (lc_m q w t r j s e b).1 < e) => lc_m_nx hG hv m1 y m3 m4
        have hmid' := fun (y : (lc_m q w t r j s e b').1 < e) => lc_m_nx hG hv' n1 y n3 n4
        have hch := fun (h8 : q r (3 - j) < 8) => lc_m_ch hG hv m1 m2 m3 m4 h8
        rw [lc_kd_s] at ev1 hf ⊢
        rw [lc_kd_s] at ev2 hf' ⊢
        rw [List.append_assoc] at ev1 hf ⊢
        rw [List.append_assoc] at ev2 hf' ⊢
        generalize lc_m q w t r j s e b = p at *
        generalize lc_m q w t r j s e b' = p' at *
        obtain ⟨m, bm⟩ := p
        obtain ⟨m', bm'⟩ := p'
        dsimp only at *
        have hp := lc_mp (Nat.lt_of_le_of_lt (Nat.zero_le _) m3)
        have hp' := lc_mp (Nat.lt_of_le_of_lt (Nat.zero_le _) n3)
        by_cases h8 : q r (3 - j) < 8
        · have e2 : ∀ a c d', lc_k1 (q r (3 - j)) s a c d' = [(q r (3 - j), s, a, c, d')] := fun a c d' => if_pos h8
          rw [e2, List.cons_append, List.nil_append] at ev1 hf ev2 hf'
          rw [e2, e2, List.cons_append, List.nil_append, List.cons_append, List.nil_append]
          rcases M with M | ⟨rfl, M⟩
          · have a2 := lc_mu_2 (rk := rk) ev1
            have b2 := lc_mu_2 (rk := rk) ev2
            obtain ⟨g, rfl⟩ : ∃ g, f = g + 1 := ⟨f - 1, by omega⟩
            obtain ⟨g', rfl⟩ : ∃ g', f' = g' + 1 := ⟨f' - 1, by omega⟩
            rw [lc_run_s, lc_run_s]
            exact Or.inl (Or.inl (show m - s < m' - s by omega))
          · have hle : bm / lc_w q w t r j m e ≤ bm' / lc_w q w t r j m e := Nat.div_le_div_right (by omega)
            by_cases hlt : bm / lc_w q w t r j m e < bm' / lc_w q w t r j m e
            · refine ihN _ _ _ _ _ _ _ _ f f' ?_ hlt ev1 ev2 hf hf'
              by_cases y : m < e
              · obtain ⟨j', rfl, -⟩ := hmid y
                have := lc_B_mid hG hk hv.1 hv.2.1 m1 y h8
                omega
              · obtain rfl : m = e := by omega
                have := lc_B_end hG hA hk hv.1 hv.2.1 hv.2.2.1 hp.2 h8
                omega
            · have heq : bm / lc_w q w t r j m e = bm' / lc_w q w t r j m e := by omega
              have hmod : bm % lc_w q w t r j m e < bm' % lc_w q w t r j m e := by
                have d1 := Nat.div_add_mod bm (lc_w q w t r j m e)
                have d2 := Nat.div_add_mod bm' (lc_w q w t r j m e)
                rw [heq] at d1
                omega
              have y : m < e := by
                refine Nat.lt_of_le_of_ne m2 ?_
                intro z
                rw [z] at hmod hp
                have := lc_w_ee (q := q) (w := w) (t := t) (r := r) (e := e) j
                have e3 : lc_w q w t r j e e = 1 := by omega
                rw [e3, Nat.mod_one, Nat.mod_one] at hmod
                omega
              obtain ⟨j', rfl, hv1⟩ := hmid y
              obtain ⟨j2, e4, hv2⟩ := hmid' y
              obtain rfl : j2 = j' := by omega
              rw [if_pos y] at ev1 hf ev2 hf'
              rw [if_pos y, if_pos y]
              rw [← heq] at ev2 hf' ⊢
              have hBm := lc_B_mid hG hk hv.1 hv.2.1 m1 y h8
              rw [lc_mu_c] at hf hf'
              have hA1 : lc_ev t nt n [(q r (3 - (j2 + 1)), s, m, bm / lc_w q w t r (j2 + 1) m e, d)] := ⟨ev1.1, True.intro⟩
              have hmA : lc_mu rk [(q r (3 - (j2 + 1)), s, m, bm / lc_w q w t r (j2 + 1) m e, d)] = 17 * (m - s) - 15 + rk (q r (3 - (j2 + 1))) + 0 := rfl
              have s1 := lc_run_ap hG hA hk hS f [(q r (3 - (j2 + 1)), s, m, bm / lc_w q w t r (j2 + 1) m e, d)] _ hA1 ev1.2 (by rw [hmA]; omega)
              have s2 := lc_run_ap hG hA hk hS f' [(q r (3 - (j2 + 1)), s, m, bm / lc_w q w t r (j2 + 1) m e, d)] _ hA1 ev2.2 (by rw [hmA]; omega)
              rw [List.cons_append, List.nil_append] at s1 s2
              rw [s1, s2, lc_run_fu hG hA hk hS f' f _ hA1 (by rw [hmA]; omega) (by rw [hmA]; omega)]
              refine lc_lx_p _ ?_
              exact ihj j2 (by omega) r m e _ _ d rest rest' f f' (by omega) hmod hv1 hv2 hr hr' (by omega) (by omega)
        · have e2 : ∀ a c d', lc_k1 (q r (3 - j)) s a c d' = [] := fun a c d' => if_neg h8
          rw [e2, List.nil_append] at ev1 hf ev2 hf'
          rw [e2, e2, List.nil_append, List.nil_append]
          have z1 := lc_m_te h8 hp.1
          have z2 := lc_m_te h8 hp'.1
          have hm : m = m' := by omega
          subst hm
          have hb2 : bm < bm' := by
            rcases M with M | M
            · omega
            · exact M.2
          have y1 : lc_y w t (q r (3 - j)) s m = 1 := by
            have h0 := hp.1
            unfold lc_y at h0 ⊢
            rw [if_neg h8] at h0 ⊢
            split at h0
            · rw [if_pos (by assumption)]
            · omega
          rw [y1, Nat.one_mul] at m3 n3
          have hmod : bm % lc_w q w t r j m e < bm' % lc_w q w t r j m e := by
            rw [Nat.mod_eq_of_lt m3, Nat.mod_eq_of_lt n3]; exact hb2
          have y : m < e := by
            refine Nat.lt_of_le_of_ne m2 ?_
            intro z
            rw [z] at hmod
            have e3 : lc_w q w t r j e e = 1 := by
              have := lc_w_ee (q := q) (w := w) (t := t) (r := r) (e := e) j
              have h0 := hp.2
              rw [z] at h0
              omega
            rw [e3, Nat.mod_one, Nat.mod_one] at hmod
            omega
          obtain ⟨j', rfl, hv1⟩ := hmid y
          obtain ⟨j2, e4, hv2⟩ := hmid' y
          obtain rfl : j2 = j' := by omega
          rw [if_pos y] at ev1 hf ev2 hf'
          rw [if_pos y, if_pos y]
          have hBt := lc_B_ter (rk := rk) (q := q) (r := r) (j := j2) (s := s) (e := e) hv.2.1 (by omega)
          rw [← z1] at hBt
          exact ihj j2 (by omega) r m e _ _ d rest rest' f f' (by omega) hmod hv1 hv2 hr hr' hf hf'
    intro x s e k k' d rest rest' f f' hN hkk h h' hf hf'
    have a2 := lc_mu_2 (rk := rk) h
    have b2 := lc_mu_2 (rk := rk) h'
    have hse := h.1.2.1
    obtain ⟨g, rfl⟩ : ∃ g, f = g + 1 := ⟨f - 1, by omega⟩
    obtain ⟨g', rfl⟩ : ∃ g', f' = g' + 1 := ⟨f' - 1, by omega⟩
    obtain ⟨-, o2⟩ := lc_en_ok hG hA hk hS h
    obtain ⟨-, o2'⟩ := lc_en_ok hG hA hk hS h'
    obtain ⟨p1, p2⟩ := lc_pk_ok hG hS h.1
    obtain ⟨p1', p2'⟩ := lc_pk_ok hG hS h'.1
    have M : (lc_pk q w t R x s e k).1 < (lc_pk q w t R x s e k').1 ∨ ((lc_pk q w t R x s e k).1 = (lc_pk q w t R x s e k').1 ∧ (lc_pk q w t R x s e k).2 < (lc_pk q w t R x s e k').2) := lc_f_mono (f := lc_g q w t x s e) R 0 k k' hkk (by rw [Nat.zero_add]; exact (lc_ve_S hS h'.1).1)
    rw [lc_run_s, lc_run_s]
    generalize lc_pk q w t R x s e k = p at *
    generalize lc_pk q w t R x s e k' = p' at *
    obtain ⟨r, b⟩ := p
    obtain ⟨r', b'⟩ := p'
    dsimp only at *
    rcases M with M | ⟨rfl, M⟩
    · exact Or.inl (Or.inr ⟨rfl, M⟩)
    · refine Or.inr ⟨rfl, rfl, ?_⟩
      refine T 2 r s e b b' (d + 1) rest rest' g g' ?_ M p2 p2' h.2 h'.2 ?_ ?_
      · rw [lc_B_2, p1]; omega
      · show lc_mu rk (lc_kd q w t r 3 s e b (d + 1) ++ rest) ≤ g
        omega
      · show lc_mu rk (lc_kd q w t r 3 s e b' (d + 1) ++ rest') ≤ g'
        omega
end LPA
end
section
section LPB
variable {q : Nat → Nat → Nat} {w : Nat → Int32} {t tb : Nat → Nat} {nt tm R n : Nat} {rk : Nat → Nat}
/-! nodes are sound -/
def lc_nv (R n : Nat) (v : lc_N) : Prop := v.1 < R ∧ v.2.1 < v.2.2.1 ∧ v.2.2.1 ≤ n ∧ v.2.2.2 < 256
theorem lc_mu_m {y : lc_E} : ∀ {l : List lc_E}, y ∈ l → lc_mu rk [y] ≤ lc_mu rk l := by
  intro l
  induction l with
  | nil => intro h; cases h
  | cons a l ih =>
    intro h
    obtain ⟨x, s, e, k, d⟩ := a
    rcases List.mem_cons.mp h with rfl | h
    · rw [lc_mu_c, lc_mu_c]
      show _ + 0 ≤ _
      omega
    · have := ih h
      show lc_mu rk [y] ≤ 17 * (e - s) - 15 + rk x + lc_mu rk l
      omega
theorem lc_run_v (hG : lc_G nt tm R q) (hA : lc_A R q rk) (hk : ∀ x, x < nt → rk x < nt) (hS : lc_sat q w R nt n t) : ∀ f st, lc_ev t nt n st → (∀ y ∈ st, y.2.2.2.2 + lc_mu rk [y] ≤ 256) → ∀ v ∈ lc_run q w t R f st, lc_nv R n v := by
  intro f
  induction f with
  | zero => intro st _ _ v hv; cases hv
  | succ f ih =>
    intro st h hd v hv
    cases st with
    | nil => cases hv
    | cons a l =>
      obtain ⟨x, s, e, k, d⟩ := a
      obtain ⟨o1, -⟩ := lc_en_ok hG hA hk hS h
      obtain ⟨o1', o2'⟩ := lc_en_ok (l := []) hG hA hk hS ⟨h.1, True.intro⟩ (d := d)
      obtain ⟨p1, p2⟩ := lc_pk_ok hG hS h.1
      have hda := hd _ List.mem_cons_self
      have hda' : d + lc_mu rk [(x, s, e, k, d)] ≤ 256 := hda
      have h2 := lc_mu_2 (rk := rk) (l := []) (d := d) ⟨h.1, True.intro⟩
      rw [lc_run_s] at hv
      rcases List.mem_cons.mp hv with rfl | hv
      · exact ⟨p2.1, h.1.2.1, h.1.2.2.1, show d < 256 by omega⟩
      · refine ih _ o1 ?_ v hv
        intro y hy
        rcases List.mem_append.mp hy with h1 | h1
        · rw [lc_kd_d _ _ _ y h1]
          rw [List.append_nil] at o2'
          have := lc_mu_m (rk := rk) h1
          omega
        · exact hd y (List.mem_cons_of_mem _ h1)
/-- the first node made is no deeper than the stack -/
theorem lc_run_h {f δ : Nat} : ∀ {st : List lc_E}, (∀ y ∈ st, y.2.2.2.2 ≤ δ) → lc_run q w t R f st = [] ∨ ∃ v l, lc_run q w t R f st = v :: l ∧ v.2.2.2 ≤ δ := by
  intro st h
  cases f with
  | zero => exact Or.inl rfl
  | succ f =>
    cases st with
    | nil => exact Or.inl rfl
    | cons a l =>
      obtain ⟨x, s, e, k, d⟩ := a
      exact Or.inr ⟨_, _, lc_run_s, h _ List.mem_cons_self⟩
theorem lc_dr0 {L : List lc_N} {i : Nat} {v : lc_N} {l : List lc_N} (h : L.drop i = v :: l) : L[i]? = some v ∧ i < L.length ∧ L.drop (i + 1) = l := by
  have e : L[i]? = some v := by
    have := List.getElem?_drop (xs := L) (i := i) (j := 0)
    rw [h, Nat.add_zero] at this
    rw [← this]; rfl
  refine ⟨e, ?_, ?_⟩
  · exact (List.getElem?_eq_some_iff.mp e).1
  · rw [← List.drop_drop, h]; rfl
theorem lc_drn {L : List lc_N} {i : Nat} (h : L.drop i = []) : L.length ≤ i := List.drop_eq_nil_iff.mp h
theorem lc_mem {L : List lc_N} {i : Nat} {v : lc_N} (h : L[i]? = some v) : v ∈ L := List.mem_of_getElem? h
variable {xP xC xK xM xL : Int32} {ul wy oR oS oE oD gR gP gS gE gK gD : Nat → Int32}
theorem lx_isNode {M : Nat} {post : Int32 → Prop} {x : Int32} (hM : M ≤ 196) (hf : (¬ x < 0 → ¬ x < nI M) → post 0) (ht : ∀ j, j < M → x = nI j → post 1) : wpX_isNode post ((nI nt), (nI tm), (nI R), (nI n), xP, xC, xK, (nI M), xL, (lc_rc q), w, ul, (lc_tr t), wy, oR, oS, oE, oD, gR, gP, gS, gE, gK, gD) x := by
  unfold wpX_isNode
  refine br_c (fun h => hf (fun z => absurd h z)) (fun h => br_c (fun h' => hf (fun _ => Int32.not_lt.mpr h')) (fun h' => ?_))
  obtain ⟨j, hj, rfl⟩ := nI_of h
  exact ht j ((nI_ltI hj (by omega)).mp (Int32.not_le.mp h')) rfl
theorem lz_nR {L : List lc_N} {i : Nat} {v : lc_N} {post : Int32 → Prop} (hM : L.length ≤ 196) (hnd : lc_nd oR oS oE oD L) (hv : L[i]? = some v) (h : post (nI v.1)) : wpX_nodeRule post ((nI nt), (nI tm), (nI R), (nI n), xP, xC, xK, (nI L.length), xL, (lc_rc q), w, ul, (lc_tr t), wy, oR, oS, oE, oD, gR, gP, gS, gE, gK, gD) (nI i) := by
  unfold wpX_nodeRule
  have hi : i < L.length := (List.getElem?_eq_some_iff.mp hv).1
  refine lx_isNode hM (fun z => ?_) (fun j hj e => br_f (by decide) ⟨vp_in_nI (by omega) (by omega), ?_⟩)
  · exact absurd (nI_lt hi (by omega)) (z (nI_pos (by omega)))
  · rw [nI_clamp (by omega), (hnd i v hv).1]
    exact h
theorem lz_nS {L : List lc_N} {i : Nat} {v : lc_N} {post : Int32 → Prop} (hM : L.length ≤ 196) (hnd : lc_nd oR oS oE oD L) (hv : L[i]? = some v) (h : post (nI v.2.1)) : wpX_nodeStart post ((nI nt), (nI tm), (nI R), (nI n), xP, xC, xK, (nI L.length), xL, (lc_rc q), w, ul, (lc_tr t), wy, oR, oS, oE, oD, gR, gP, gS, gE, gK, gD) (nI i) := by
  unfold wpX_nodeStart
  have hi : i < L.length := (List.getElem?_eq_some_iff.mp hv).1
  refine lx_isNode hM (fun z => ?_) (fun j hj e => br_f (by decide) ⟨vp_in_nI (by omega) (by omega), ?_⟩)
  · exact absurd (nI_lt hi (by omega)) (z (nI_pos (by omega)))
  · rw [nI_clamp (by omega), (hnd i v hv).2.1]
    exact h
theorem lz_nE {L : List lc_N} {i : Nat} {v : lc_N} {post : Int32 → Prop} (hM : L.length ≤ 196) (hnd : lc_nd oR oS oE oD L) (hv : L[i]? = some v) (h : post (nI v.2.2.1)) : wpX_nodeEnd post ((nI nt), (nI tm), (nI R), (nI n), xP, xC, xK, (nI L.length), xL, (lc_rc q), w, ul, (lc_tr t), wy, oR, oS, oE, oD, gR, gP, gS, gE, gK, gD) (nI i) := by
  unfold wpX_nodeEnd
  have hi : i < L.length := (List.getElem?_eq_some_iff.mp hv).1
  refine lx_isNode hM (fun z => ?_) (fun j hj e => br_f (by decide) ⟨vp_in_nI (by omega) (by omega), ?_⟩)
  · exact absurd (nI_lt hi (by omega)) (z (nI_pos (by omega)))
  · rw [nI_clamp (by omega), (hnd i v hv).2.2.1]
    exact h
theorem lz_nD {L : List lc_N} {i : Nat} {v : lc_N} {post : Int32 → Prop} (hM : L.length ≤ 196) (hnd : lc_nd oR oS oE oD L) (hv : L[i]? = some v) (h : post (nI v.2.2.2)) : wpX_nodeDepth post ((nI nt), (nI tm), (nI R), (nI n), xP, xC, xK, (nI L.length), xL, (lc_rc q), w, ul, (lc_tr t), wy, oR, oS, oE, oD, gR, gP, gS, gE, gK, gD) (nI i) := by
  unfold wpX_nodeDepth
  have hi : i < L.length := (List.getElem?_eq_some_iff.mp hv).1
  refine lx_isNode hM (fun z => ?_) (fun j hj e => br_f (by decide) ⟨vp_in_nI (by omega) (by omega), ?_⟩)
  · exact absurd (nI_lt hi (by omega)) (z (nI_pos (by omega)))
  · rw [nI_clamp (by omega), (hnd i v hv).2.2.2]
    exact h
theorem lz_nR0 {M : Nat} {post : Int32 → Prop} (hM : M ≤ 196) (h : post (-1)) : wpX_nodeRule post ((nI nt), (nI tm), (nI R), (nI n), xP, xC, xK, (nI M), xL, (lc_rc q), w, ul, (lc_tr t), wy, oR, oS, oE, oD, gR, gP, gS, gE, gK, gD) (nI M) := by
  unfold wpX_nodeRule
  refine lx_isNode hM (fun _ => br_t rfl h) (fun j hj e => ?_)
  have := (nI_eq (by omega) (by omega)).mp e
  omega
theorem lz_sym {post : Int32 → Prop} {r p : Nat} (h24 : R ≤ 24) (hr : r < R) (hp : p ≤ 3) (h : post (lc_cd (q r p))) : wpX_ruleSymbol post ((nI nt), (nI tm), (nI R), (nI n), xP, xC, xK, xM, xL, (lc_rc q), w, ul, (lc_tr t), wy, oR, oS, oE, oD, gR, gP, gS, gE, gK, gD) (nI r) (nI p) := by
  unfold wpX_ruleSymbol
  have ei : nI r * 4 + nI p = nI (r * 4 + p) := by rw [lc_x4, nI_add]
  refine br_f (nI_pos (by omega)) (br_f (nI_ge hr (by omega)) (br_f (nI_pos (by omega)) (br_t (nI_le (b := 3) hp (by decide)) ?_)))
  rw [ei, nI_clamp (by omega), lc_rc_p (by omega)]
  exact ⟨vp_in_nI (by omega) (by omega), h⟩
theorem lz_tok {post : Int32 → Prop} {i : Nat} (hn : n ≤ 12) (hi : i < n) (h : post (w i)) : wpX_inputToken post ((nI nt), (nI tm), (nI R), (nI n), xP, xC, xK, xM, xL, (lc_rc q), w, ul, (lc_tr t), wy, oR, oS, oE, oD, gR, gP, gS, gE, gK, gD) (nI i) := by
  unfold wpX_inputToken
  refine br_f (nI_pos (by omega)) (br_t (nI_lt hi (by omega)) ⟨vp_in_nI (by omega) (by omega), ?_⟩)
  rw [nI_clamp (by omega)]
  exact h
/-! the law's own helpers -/
theorem lz_nn (x : Int32) {M : Nat} (h0 : 0 < M) (hM : M < 1000) : ∃ j, j < M ∧ ∀ post : Int32 → Prop, post (nI j) → wpL_nn post () x (nI M) := by
  have hm : (nI M).toInt = (M : Int) := nI_toInt (by omega)
  have hr : (x - x / nI M * nI M).toInt = x.toInt.tmod M := by rw [rem_toInt, hm]
  have hb := tmod_bounds (a := x.toInt) (M := (M : Int)) (by omega)
  have hne : ¬ nI M = 0 := nI_ne0 h0 (by omega)
  by_cases c : 0 ≤ x - x / nI M * nI M
  · have c' : ¬ x - x / nI M * nI M < 0 := Int32.not_lt.mpr c
    obtain ⟨j, hj, e⟩ := nI_of c'
    refine ⟨j, ?_, fun post hp => ⟨hne, nm_r e (br_t (by rw [← e]; exact c) hp)⟩⟩
    have := nI_toInt hj
    rw [← e, hr] at this
    omega
  · have c' : x - x / nI M * nI M < 0 := Int32.not_le.mp c
    have c2 := Int32.lt_iff_toInt_lt.mp c'
    rw [hr, show (0 : Int32).toInt = 0 from rfl] at c2
    have e : x - x / nI M * nI M + nI M = nI (x.toInt.tmod M + M).toNat := by
      apply Int32.toInt_inj.mp
      rw [Int32.toInt_add, hr, hm, nI_toInt (by omega), Int.bmod_eq_of_le (by omega) (by omega)]
      omega
    refine ⟨(x.toInt.tmod M + M).toNat, by omega, fun post hp => ⟨hne, nm_e (br_f c ?_)⟩⟩
    rw [e]
    exact hp
theorem lz_cell {L : Nat} {xs : Nat → Int32} {i : Nat} (hL : L ≤ 260) (hi : i < 1000) : ∃ v, ∀ post : Int32 → Prop, post v → wpL_cell post L xs () (nI i) := by
  by_cases c : L ≤ i
  · exact ⟨0, fun post hp => br_t (nI_le c (by omega)) hp⟩
  · refine ⟨xs i, fun post hp => br_f (nI_ge (by omega) (by omega)) ⟨vp_in_nI (by omega) (by omega), ?_⟩⟩
    rw [nI_clamp (by omega)]
    exact hp
theorem lz_code (x : Int32) {a b : Nat} (ha : 0 < a) (ha8 : a ≤ 8) (hb : 0 < b) (hb8 : b ≤ 8) : ∃ c, lc_va a b c ∧ ∀ post : Int32 → Prop, post (nI c) → wpL_code post () x (nI a) (nI b) := by
  obtain ⟨j, hj, hJ⟩ := lz_nn x (M := a + b) (by omega) (by omega)
  by_cases c : a ≤ j
  · refine ⟨8 + (j - a), Or.inr (by omega), fun post hp => ?_⟩
    unfold wpL_code
    rw [nI_add]
    refine hJ _ (br_t (nI_le c (by omega)) ?_)
    rw [pk_sub c]
    have e : 8 + nI (j - a) = nI (8 + (j - a)) := nI_add 8 (j - a)
    rw [e]
    exact hp
  · refine ⟨j, Or.inl (by omega), fun post hp => ?_⟩
    unfold wpL_code
    rw [nI_add]
    exact hJ _ (br_f (nI_ge (by omega) (by omega)) hp)
end LPB
end
section
section LPC
abbrev lc_JL : Type := Int32 → Int32 → Int32 → Int32 → Int32 → Int32 → Int32 → Int32 → Int32 → Int32 → (Nat → Int32) → (Nat → Int32) → (Nat → Int32) → (Nat → Int32) → (Nat → Int32) → (Nat → Int32) → (Nat → Int32) → (Nat → Int32) → (Nat → Int32) → (Nat → Int32) → (Nat → Int32) → (Nat → Int32) → (Nat → Int32) → (Nat → Int32) → (Nat → Int32) → Int32 → Int32 → Int32 → Int32 → Int32 → Int32 → Int32 → Int32 → Int32 → (Nat → Int32) → (Nat → Int32) → (Nat → Int32) → (Nat → Int32) → (Nat → Int32) → (Nat → Int32) → (Nat → Int32) → (Nat → Int32) → (Nat → Int32) → (Nat → Int32) → (Nat → Int32) → (Nat → Int32) → (Nat → Int32) → (Nat → Int32) → (Nat → Int32) → Prop
abbrev lc_JM : Type := Int32 → Int32 → Int32 → Int32 → Int32 → Int32 → Int32 → Int32 → Int32 → Int32 → Int32 → (Nat → Int32) → (Nat → Int32) → (Nat → Int32) → (Nat → Int32) → (Nat → Int32) → (Nat → Int32) → (Nat → Int32) → (Nat → Int32) → (Nat → Int32) → (Nat → Int32) → (Nat → Int32) → (Nat → Int32) → (Nat → Int32) → (Nat → Int32) → (Nat → Int32) → Int32 → Int32 → Int32 → Int32 → Int32 → Int32 → Int32 → Int32 → Int32 → (Nat → Int32) → (Nat → Int32) → (Nat → Int32) → (Nat → Int32) → (Nat → Int32) → (Nat → Int32) → (Nat → Int32) → (Nat → Int32) → (Nat → Int32) → (Nat → Int32) → (Nat → Int32) → (Nat → Int32) → (Nat → Int32) → (Nat → Int32) → (Nat → Int32) → Prop
variable {q : Nat → Nat → Nat} {w : Nat → Int32} {t tb : Nat → Nat} {nt tm R n : Nat} {rk : Nat → Nat}
variable {xP xC xK xM xL : Int32} {ul wy oR oS oE oD gR gP gS gE gK gD : Nat → Int32}
variable {xPb xCb xKb xMb xLb : Int32} {ulb wyb oRb oSb oEb oDb gRb gPb gSb gEb gKb gDb : Nat → Int32}
/-! two trees compared -/
theorem lz_1004 {post : Int32 → Prop} {L : Nat} {xs : Nat → Int32} {J : lc_JL} {x7 x8 : Int32} {j kc ks : Nat} (hJ : J (nI (j + 1)) (nI nt) (nI tm) (nI R) (nI n) xP xC xK xM xL (lc_rc q) w ul (lc_tr t) wy oR oS oE oD gR gP gS gE gK gD (nI nt) (nI tm) (nI R) (nI n) xPb xCb xKb xMb xLb (lc_rc q) w ulb (lc_tr tb) wyb oRb oSb oEb oDb gRb gPb gSb gEb gKb gDb) : wL_law_1004 post L xs J x7 x8 (nI j) 1 kc ks (nI nt) (nI tm) (nI R) (nI n) xP xC xK xM xL (lc_rc q) w ul (lc_tr t) wy oR oS oE oD gR gP gS gE gK gD (nI nt) (nI tm) (nI R) (nI n) xPb xCb xKb xMb xLb (lc_rc q) w ulb (lc_tr tb) wyb oRb oSb oEb oDb gRb gPb gSb gEb gKb gDb := by
  unfold wL_law_1004
  exact br_t rfl (nm_r (nI_1 j) hJ)
theorem lz_892s {post : Int32 → Prop} {L : Nat} {xs : Nat → Int32} {J : lc_JL} {x7 x8 x14 x15 : Int32} {j kc ks N : Nat} (hJ : J (nI (j + 1)) (nI nt) (nI tm) (nI R) (nI n) xP xC xK xM xL (lc_rc q) w ul (lc_tr t) wy oR oS oE oD gR gP gS gE gK gD (nI nt) (nI tm) (nI R) (nI n) xPb xCb xKb xMb xLb (lc_rc q) w ulb (lc_tr tb) wyb oRb oSb oEb oDb gRb gPb gSb gEb gKb gDb) : wL_law_892 post L xs J x7 x8 (nI j) x14 kc ks (nI nt) (nI tm) (nI R) (nI n) xP xC xK xM xL (lc_rc q) w ul (lc_tr t) wy oR oS oE oD gR gP gS gE gK gD (nI nt) (nI tm) (nI R) (nI n) xPb xCb xKb xMb xLb (lc_rc q) w ulb (lc_tr tb) wyb oRb oSb oEb oDb gRb gPb gSb gEb gKb gDb (N + 1) 1 x15 := by
  rw [wL_law_892]
  exact br_c (fun _ => lz_1004 hJ) (fun _ => br_f (by decide) (lz_1004 hJ))
theorem lz_892 {post : Int32 → Prop} {L : Nat} {xs : Nat → Int32} {J : lc_JL} {x7 x8 : Int32} {j kc ks lim : Nat} {La Lb : List lc_N} (h24 : R ≤ 24) (hn : n ≤ 12) (hMa : La.length ≤ 196) (hMb : Lb.length ≤ 196) (hna : lc_nd oR oS oE oD La) (hnb : lc_nd oRb oSb oEb oDb Lb) (hva : ∀ v ∈ La, lc_nv R n v) (hvb : ∀ v ∈ Lb, lc_nv R n v) (hlim : ∀ i, i < La.length → i < Lb.length → i < lim) (hl2 : lim ≤ 196) (hJ : J (nI (j + 1)) (nI nt) (nI tm) (nI R) (nI n) xP xC xK (nI La.length) xL (lc_rc q) w ul (lc_tr t) wy oR oS oE oD gR gP gS gE gK gD (nI nt) (nI tm) (nI R) (nI n) xPb xCb xKb (nI Lb.length) xLb (lc_rc q) w ulb (lc_tr tb) wyb oRb oSb oEb oDb gRb gPb gSb gEb gKb gDb) :
    ∀ (B A : List lc_N) i N, Lb.drop i = B → La.drop i = A → lc_lx B A → B.length + 2 ≤ N → wL_law_892 post L xs J x7 x8 (nI j) (nI lim) kc ks (nI nt) (nI tm) (nI R) (nI n) xP xC xK (nI La.length) xL (lc_rc q) w ul (lc_tr t) wy oR oS oE oD gR gP gS gE gK gD (nI nt) (nI tm) (nI R) (nI n) xPb xCb xKb (nI Lb.length) xLb (lc_rc q) w ulb (lc_tr tb) wyb oRb oSb oEb oDb gRb gPb gSb gEb gKb gDb N 0 (nI i) := by
  intro B
  induction B with
  | nil => intro A i N h1 h2 h3; cases A <;> exact absurd h3 id
  | cons vb B ih =>
    intro A i N h1 h2 h3 hN
    cases A with
    | nil => exact absurd h3 id
    | cons va A =>
      obtain ⟨b1, b2, b3⟩ := lc_dr0 h1
      obtain ⟨a1, a2, a3⟩ := lc_dr0 h2
      obtain ⟨va1, va2, va3, -⟩ := hva va (lc_mem a1)
      obtain ⟨vb1, vb2, vb3, -⟩ := hvb vb (lc_mem b1)
      have hi := hlim i a2 b2
      have hN' : B.length + 1 + 2 ≤ N := hN
      obtain ⟨N1, rfl⟩ : ∃ N1, N = N1 + 1 + 1 := ⟨N - 2, by omega⟩
      rw [wL_law_892]
      refine br_f (nI_ge hi (by omega)) (br_t rfl ?_)
      refine lz_nE hMb hnb b1 ?_
      refine lz_nS hMb hnb b1 (nm_r (pk_sub (by omega)) ?_)
      refine lz_nE hMa hna a1 ?_
      refine lz_nS hMa hna a1 (nm_r (pk_sub (by omega)) ?_)
      rcases h3 with (h3 | ⟨h3, h4⟩) | ⟨h3, h4, h5⟩
      · refine br_f (fun z => ?_) (br_f (nI_ge h3 (by omega)) (nm_r (nI_1 i) (lz_892s hJ)))
        have := (nI_eq (by omega) (by omega)).mp z
        omega
      · refine br_t (by rw [h3]) ?_
        refine lz_nR hMb hnb b1 ?_
        refine lz_nR hMa hna a1 ?_
        refine br_f (fun z => ?_) (br_f (nI_ge h4 (by omega)) (nm_r (nI_1 i) (lz_892s hJ)))
        have := (nI_eq (by omega) (by omega)).mp z
        omega
      · refine br_t (by rw [h3]) ?_
        refine lz_nR hMb hnb b1 ?_
        refine lz_nR hMa hna a1 ?_
        exact br_t (by rw [h4]) (nm_r (nI_1 i) (ih A (i + 1) (N1 + 1) b3 a3 h5 (by omega)))
end LPC
end
section
section LPD
variable {q : Nat → Nat → Nat} {w : Nat → Int32} {t tb : Nat → Nat} {nt tm R n : Nat} {rk : Nat → Nat}
variable {xP xC xK xM xL : Int32} {ul wy oR oS oE oD gR gP gS gE gK gD : Nat → Int32}
variable {xPb xCb xKb xMb xLb : Int32} {ulb wyb oRb oSb oEb oDb gRb gPb gSb gEb gKb gDb : Nat → Int32}
variable {post : Int32 → Prop} {L : Nat} {xs : Nat → Int32} {J : lc_JL} {J5 : Int32 → Prop} {x7 x8 x9 x10 : Int32} {kc ks u r d e : Nat} {La : List lc_N}
/-! the children of a node -/
theorem lz_767 {J6 : Int32 → Int32 → Int32 → Prop} {x12 x13 x15 x16 : Int32} {pos : Nat} {Bl : List lc_N} (hM : La.length ≤ 196) (hna : lc_nd oR oS oE oD La) (hva : ∀ v ∈ La, lc_nv R n v) (hd : d < 256) (hB : Bl = [] ∨ ∃ v l, Bl = v :: l ∧ v.2.2.2 ≤ d + 1) :
    ∀ (A : List lc_N) q0, La.drop q0 = A ++ Bl → q0 ≤ La.length → (∀ v ∈ A, d + 1 < v.2.2.2) → J6 x15 (nI (q0 + A.length)) (nI (pos + 1)) → wL_law_767 post L xs J J5 J6 x7 x8 x9 x10 (nI La.length) x12 x13 (nI d) x15 x16 (nI pos) kc ks (nI nt) (nI tm) (nI R) (nI n) xP xC xK (nI La.length) xL (lc_rc q) w ul (lc_tr t) wy oR oS oE oD gR gP gS gE gK gD (nI nt) (nI tm) (nI R) (nI n) xPb xCb xKb xMb xLb (lc_rc q) w ulb (lc_tr tb) wyb oRb oSb oEb oDb gRb gPb gSb gEb gKb gDb (A.length + 1) (nI q0) := by
  intro A
  induction A with
  | nil =>
    intro q0 h1 hq h2 hJ
    rw [List.nil_append] at h1
    have hJ' : J6 x15 (nI q0) (nI (pos + 1)) := hJ
    rcases hB with rfl | ⟨v, l, rfl, hv⟩
    · have := lc_drn h1
      exact br_t (nI_le this (by omega)) (nm_r (nI_1 pos) hJ')
    · obtain ⟨a1, a2, a3⟩ := lc_dr0 h1
      refine br_f (nI_ge a2 (by omega)) ?_
      refine lz_nD hM hna a1 ?_
      exact br_t (by rw [nI_1]; exact nI_le hv (by omega)) (nm_r (nI_1 pos) hJ')
  | cons v A ih =>
    intro q0 h1 hq h2 hJ
    rw [List.cons_append] at h1
    obtain ⟨a1, a2, a3⟩ := lc_dr0 h1
    have hvd := h2 v List.mem_cons_self
    have hv4 := (hva v (lc_mem a1)).2.2.2
    have hJ' : J6 x15 (nI (q0 + (A.length + 1))) (nI (pos + 1)) := hJ
    rw [show q0 + (A.length + 1) = q0 + 1 + A.length by omega] at hJ'
    show wL_law_767 post L xs J J5 J6 x7 x8 x9 x10 (nI La.length) x12 x13 (nI d) x15 x16 (nI pos) kc ks (nI nt) (nI tm) (nI R) (nI n) xP xC xK (nI La.length) xL (lc_rc q) w ul (lc_tr t) wy oR oS oE oD gR gP gS gE gK gD (nI nt) (nI tm) (nI R) (nI n) xPb xCb xKb xMb xLb (lc_rc q) w ulb (lc_tr tb) wyb oRb oSb oEb oDb gRb gPb gSb gEb gKb gDb (A.length + 1 + 1) (nI q0)
    rw [wL_law_767]
    refine br_f (nI_ge a2 (by omega)) ?_
    refine lz_nD hM hna a1 ?_
    exact br_f (by rw [nI_1]; exact nI_ge hvd (by omega)) (nm_r (nI_1 q0) (ih (q0 + 1) a3 (by omega) (fun y hy => h2 y (List.mem_cons_of_mem _ hy)) hJ'))
theorem lz_799 {rest : List lc_E} {f q0 : Nat} (hM : La.length ≤ 196) (hna : lc_nd oR oS oE oD La) (hd : d < 256) (h1 : La.drop q0 = lc_run q w t R f rest) (hq : q0 ≤ La.length) (hr : ∀ y ∈ rest, y.2.2.2.2 ≤ d) (hJ : J5 (nI (u + 1))) : wL_law_799 post L xs J J5 x7 x8 x9 x10 (nI La.length) (nI u) (nI d) (nI e) (nI e) (nI q0) kc ks (nI nt) (nI tm) (nI R) (nI n) xP xC xK (nI La.length) xL (lc_rc q) w ul (lc_tr t) wy oR oS oE oD gR gP gS gE gK gD (nI nt) (nI tm) (nI R) (nI n) xPb xCb xKb xMb xLb (lc_rc q) w ulb (lc_tr tb) wyb oRb oSb oEb oDb gRb gPb gSb gEb gKb gDb := by
  unfold wL_law_799
  refine br_t rfl (pk_le La.length q0 (fun _ => nm_r (nI_1 u) hJ) (fun z => ?_))
  rcases lc_run_h (f := f) (q := q) (w := w) (t := t) (R := R) hr with h | ⟨v, l, h, hv⟩
  · rw [h] at h1
    have := lc_drn h1
    omega
  · rw [h] at h1
    obtain ⟨a1, a2, a3⟩ := lc_dr0 h1
    refine lz_nD hM hna a1 ?_
    exact br_t (nI_le hv (by omega)) (nm_r (nI_1 u) hJ)
theorem lz_fin {pos N : Nat} {x15 x17 : Int32} (h24 : R ≤ 24) (hr : r < R) (hpos : pos = 4 ∨ (pos ≤ 3 ∧ q r pos = 16)) (h : wL_law_799 post L xs J J5 x7 x8 x9 x10 (nI La.length) (nI u) (nI d) x15 (nI e) x17 kc ks (nI nt) (nI tm) (nI R) (nI n) xP xC xK (nI La.length) xL (lc_rc q) w ul (lc_tr t) wy oR oS oE oD gR gP gS gE gK gD (nI nt) (nI tm) (nI R) (nI n) xPb xCb xKb xMb xLb (lc_rc q) w ulb (lc_tr tb) wyb oRb oSb oEb oDb gRb gPb gSb gEb gKb gDb) : wL_law_631 post L xs J J5 x7 x8 x9 x10 (nI La.length) (nI u) (nI r) (nI d) (nI e) kc ks (nI nt) (nI tm) (nI R) (nI n) xP xC xK (nI La.length) xL (lc_rc q) w ul (lc_tr t) wy oR oS oE oD gR gP gS gE gK gD (nI nt) (nI tm) (nI R) (nI n) xPb xCb xKb xMb xLb (lc_rc q) w ulb (lc_tr tb) wyb oRb oSb oEb oDb gRb gPb gSb gEb gKb gDb (N + 1) x15 x17 (nI pos) := by
  rw [wL_law_631]
  rcases hpos with rfl | ⟨h3, h16⟩
  · exact br_t (by decide) h
  · refine br_f (nI_nlt (a := 3) (by omega) (by omega)) ?_
    refine lz_sym h24 hr h3 ?_
    rw [h16]
    exact br_t lc_cd_16 h
theorem lz_631 {rest : List lc_E} {f : Nat} (hG : lc_G nt tm R q) (hA : lc_A R q rk) (hk : ∀ x, x < nt → rk x < nt) (hS : lc_sat q w R nt n t) (h24 : R ≤ 24) (hn : n ≤ 12) (hM : La.length ≤ 196) (hna : lc_nd oR oS oE oD La) (hva : ∀ v ∈ La, lc_nv R n v) (hd : d < 256) (hev : lc_ev t nt n rest) (hre : ∀ y ∈ rest, y.2.2.2.2 ≤ d) (hJ : J5 (nI (u + 1))) :
    ∀ j p k q0 N, lc_vt q w t R n r j p e k → La.drop q0 = lc_run q w t R f (lc_kd q w t r (j + 1) p e k (d + 1) ++ rest) → lc_mu rk (lc_kd q w t r (j + 1) p e k (d + 1) ++ rest) ≤ f → q0 ≤ La.length → j + 2 ≤ N → wL_law_631 post L xs J J5 x7 x8 x9 x10 (nI La.length) (nI u) (nI r) (nI d) (nI e) kc ks (nI nt) (nI tm) (nI R) (nI n) xP xC xK (nI La.length) xL (lc_rc q) w ul (lc_tr t) wy oR oS oE oD gR gP gS gE gK gD (nI nt) (nI tm) (nI R) (nI n) xPb xCb xKb xMb xLb (lc_rc q) w ulb (lc_tr tb) wyb oRb oSb oEb oDb gRb gPb gSb gEb gKb gDb N (nI p) (nI q0) (nI (3 - j)) := by
  intro j
  induction j using Nat.strongRecOn with
  | ind j ihj =>
    intro p k q0 N hv h1 hmu hq hN
    obtain ⟨m1, m2, m3, m4⟩ := lc_m_ok hG hv
    have hv' := hv
    obtain ⟨hr, hj, hpe, hen, h16, -, -⟩ := hv'
    have hq16 := lc_G_r hG hr (3 - j) (by omega)
    have hmid := fun (y : (lc_m q w t r j p e k).1 < e) => lc_m_nx hG hv m1 y m3 m4
    have hch := fun (h8 : q r (3 - j) < 8) => lc_m_ch hG hv m1 m2 m3 m4 h8
    have hk1 := (lc_kd_ok (d := d + 1) hG hA hk j p e k hv).1
    have hkd := lc_kd_d (q := q) (w := w) (t := t) (r := r) (e := e) (d := d + 1) (j + 1) p k
    rw [lc_kd_s] at h1 hmu hk1 hkd
    rw [List.append_assoc] at h1 hmu
    generalize lc_m q w t r j p e k = pm at *
    obtain ⟨m, bm⟩ := pm
    dsimp only at *
    have hp0 := lc_mp (Nat.lt_of_le_of_lt (Nat.zero_le _) m3)
    obtain ⟨N1, rfl⟩ : ∃ N1, N = N1 + 1 := ⟨N - 1, by omega⟩
    have ep : nI (3 - j) + 1 = nI (3 - j + 1) := nI_1 _
    -- what follows this symbol
    have hX : ∀ q1, La.drop q1 = lc_run q w t R f ((if m < e then lc_kd q w t r j m e (bm % lc_w q w t r j m e) (d + 1) else []) ++ rest) → lc_mu rk ((if m < e then lc_kd q w t r j m e (bm % lc_w q w t r j m e) (d + 1) else []) ++ rest) ≤ f → q1 ≤ La.length → wL_law_631 post L xs J J5 x7 x8 x9 x10 (nI La.length) (nI u) (nI r) (nI d) (nI e) kc ks (nI nt) (nI tm) (nI R) (nI n) xP xC xK (nI La.length) xL (lc_rc q) w ul (lc_tr t) wy oR oS oE oD gR gP gS gE gK gD (nI nt) (nI tm) (nI R) (nI n) xPb xCb xKb xMb xLb (lc_rc q) w ulb (lc_tr tb) wyb oRb oSb oEb oDb gRb gPb gSb gEb gKb gDb N1 (nI m) (nI q1) (nI (3 - j + 1)) := by
      intro q1 g1 g2 g3
      by_cases y : m < e
      · rw [if_pos y] at g1 g2
        obtain ⟨j', rfl, hv1⟩ := hmid y
        have := ihj j' (by omega) m _ q1 N1 hv1 g1 g2 g3 (by omega)
        rw [show 3 - (j' + 1) + 1 = 3 - j' by omega]
        exact this
      · rw [if_neg y, List.nil_append] at g1 g2
        obtain rfl : m = e := by omega
        obtain ⟨N2, rfl⟩ : ∃ N2, N1 = N2 + 1 := ⟨N1 - 1, by omega⟩
        refine lz_fin h24 hr ?_ (lz_799 hM hna hd g1 g3 hre hJ)
        cases j with
        | zero => exact Or.inl rfl
        | succ j' =>
          refine Or.inr ⟨by omega, ?_⟩
          rw [show 3 - (j' + 1) + 1 = 3 - j' by omega]
          refine Decidable.byContradiction fun z => ?_
          have h0 := hp0.2
          rw [lc_w_z z] at h0
          omega
    have hXd : ∀ y ∈ ((if m < e then lc_kd q w t r j m e (bm % lc_w q w t r j m e) (d + 1) else []) ++ rest), y.2.2.2.2 ≤ d + 1 := by
      intro y hy
      rcases List.mem_append.mp hy with h | h
      · have := hkd y (List.mem_append.mpr (Or.inr h)); omega
      · have := hre y h; omega
    have hXe : lc_ev t nt n ((if m < e then lc_kd q w t r j m e (bm % lc_w q w t r j m e) (d + 1) else []) ++ rest) := by
      refine lc_ev_a ?_ hev
      by_cases h8 : q r (3 - j) < 8
      · have e2 : ∀ a c d', lc_k1 (q r (3 - j)) p a c d' = [(q r (3 - j), p, a, c, d')] := fun a c d' => if_pos h8
        rw [e2] at hk1
        exact hk1.2
      · have e2 : ∀ a c d', lc_k1 (q r (3 - j)) p a c d' = [] := fun a c d' => if_neg h8
        rw [e2] at hk1
        exact hk1
    generalize hXn : (if m < e then lc_kd q w t r j m e (bm % lc_w q w t r j m e) (d + 1) else []) ++ rest = X at *
    have e3 : lc_cd (q r (3 - j)) = nI (q r (3 - j)) := lc_cd_n h16
    rw [wL_law_631]
    refine br_f (nI_nlt (a := 3) (by omega) (by omega)) ?_
    refine lz_sym h24 hr (by omega) ?_
    rw [e3]
    refine br_f (lc_m1 (by omega)) ?_
    by_cases h8 : q r (3 - j) < 8
    · have e2 : ∀ a c d', lc_k1 (q r (3 - j)) p a c d' = [(q r (3 - j), p, a, c, d')] := fun a c d' => if_pos h8
      rw [e2, List.cons_append, List.nil_append] at h1 hmu
      have hc := hch h8
      obtain ⟨p1, p2⟩ := lc_pk_ok hG hS hc
      have hA1 : lc_ev t nt n ((q r (3 - j), p, m, bm / lc_w q w t r j m e, d + 1) :: X) := ⟨hc, hXe⟩
      have h2 := lc_mu_2 (rk := rk) hA1
      obtain ⟨o1, o2⟩ := lc_en_ok hG hA hk hS hA1
      obtain ⟨ok1, ok2⟩ := lc_en_ok (l := []) (d := d + 1) hG hA hk hS ⟨hc, True.intro⟩
      rw [List.append_nil] at ok1 ok2
      obtain ⟨g, rfl⟩ : ∃ g, f = g + 1 := ⟨f - 1, by omega⟩
      rw [lc_run_s] at h1
      obtain ⟨a1, a2, a3⟩ := lc_dr0 h1
      have hmX : lc_mu rk X ≤ g := by rw [lc_mu_a] at o2; omega
      have hsp := lc_run_ap hG hA hk hS g _ X ok1 hXe (by rw [lc_mu_a] at o2; omega)
      rw [hsp] at a3
      have hfu := lc_run_fu hG hA hk hS g (g + 1) X hXe hmX (by omega)
      refine br_t (nI_lt (b := 8) h8 (by decide)) (br_f (nI_ge a2 (by omega)) ?_)
      refine lz_nD hM hna a1 (br_t (nI_1 d).symm ?_)
      refine lz_nR hM hna a1 ?_
      refine lz_sym (p := 0) h24 p2.1 (by omega) ?_
      refine br_t (by rw [p1, e3]) ?_
      refine lz_nS hM hna a1 (br_t rfl ?_)
      refine lz_nE hM hna a1 (br_t (nI_lt (a := p) (b := m) m1 (by omega)) ?_)
      refine lz_nE hM hna a1 (nm_r (nI_1 q0) ⟨_, lz_767 hM hna hva hd (lc_run_h hXd) _ (q0 + 1) a3 (by omega) ?_ ?_⟩)
      · intro v hv
        have := lc_run_d _ _ (d + 2) (fun y hy => by rw [lc_kd_d _ _ _ y hy]; omega) v hv
        omega
      · refine hX _ ?_ (by omega) ?_
        · rw [← List.drop_drop, a3, List.drop_left, hfu]
        · have hl := congrArg List.length a3
          rw [List.length_drop, List.length_append] at hl
          omega
    · have e2 : ∀ a c d', lc_k1 (q r (3 - j)) p a c d' = [] := fun a c d' => if_neg h8
      rw [e2, List.nil_append] at h1 hmu
      have z1 := lc_m_te h8 hp0.1
      have hw : w p = nI (q r (3 - j) - 8) := by
        have h0 := hp0.1
        unfold lc_y at h0
        rw [if_neg h8] at h0
        split at h0
        · exact (by assumption : _ ∧ _).2
        · omega
      have es : nI (q r (3 - j)) - 8 = nI (q r (3 - j) - 8) := pk_sub (b := 8) (by omega)
      refine br_f (nI_nlt (b := 8) (by omega) (by omega)) (br_f (nI_ge hpe (by omega)) ?_)
      refine lz_tok hn (by omega) (br_t (by rw [hw, es]) (nm_r (nI_1 p) (nm_r ep ?_)))
      rw [← z1]
      exact hX q0 h1 hmu hq
end LPD
end
section
section LPE
variable {q : Nat → Nat → Nat} {w : Nat → Int32} {t tb : Nat → Nat} {nt tm R n : Nat} {rk : Nat → Nat}
/-! a tree's nodes -/
theorem lc_tr_mu (hk : ∀ x, x < nt → rk x < nt) (h8 : nt ≤ 8) (h1 : 1 ≤ nt) (hn : n ≤ 12) {k : Nat} : lc_mu rk [(0, 0, n, k, 0)] ≤ 196 := by
  have := hk 0 h1
  show 17 * (n - 0) - 15 + rk 0 + 0 ≤ 196
  omega
theorem lc_tr_v (hG : lc_G nt tm R q) (hA : lc_A R q rk) (hk : ∀ x, x < nt → rk x < nt) (hS : lc_sat q w R nt n t) (h1 : 1 ≤ nt) (hn : n ≤ 12) {k : Nat} (hv : lc_ve t nt n 0 0 n k) : ∀ v ∈ lc_tree q w t R n k, lc_nv R n v := by
  refine lc_run_v hG hA hk hS 256 _ ⟨hv, True.intro⟩ ?_
  intro y hy
  rw [List.mem_singleton] at hy
  subst hy
  have := lc_tr_mu (k := k) hk hG.1 h1 hn
  show 0 + _ ≤ 256
  omega
theorem lc_tr_0 (hG : lc_G nt tm R q) (hS : lc_sat q w R nt n t) {k : Nat} (hv : lc_ve t nt n 0 0 n k) : ∃ r l, lc_tree q w t R n k = (r, 0, n, 0) :: l ∧ r < R ∧ q r 0 = 0 ∧ ∃ f K, l = lc_run q w t R f K ∧ ∀ y ∈ K, y.2.2.2.2 = 1 := by
  obtain ⟨p1, p2⟩ := lc_pk_ok hG hS hv
  refine ⟨_, _, lc_run_s, p2.1, p1, _, _, rfl, ?_⟩
  intro y hy
  rcases List.mem_append.mp hy with h | h
  · exact lc_kd_d _ _ _ y h
  · cases h
theorem lc_tr_p (hG : lc_G nt tm R q) (hA : lc_A R q rk) (hk : ∀ x, x < nt → rk x < nt) (hS : lc_sat q w R nt n t) (h1 : 1 ≤ nt) (hn : n ≤ 12) {k : Nat} (hv : lc_ve t nt n 0 0 n k) : ∀ u, u < (lc_tree q w t R n k).length → ∃ x s e k' d rest f, lc_ev t nt n ((x, s, e, k', d) :: rest) ∧ lc_so ((x, s, e, k', d) :: rest) ∧ lc_mu rk ((x, s, e, k', d) :: rest) ≤ f + 1 ∧ (lc_tree q w t R n k).drop u = lc_run q w t R (f + 1) ((x, s, e, k', d) :: rest) :=
  lc_pos hG hA hk hS ⟨hv, True.intro⟩ ⟨(fun y hy => by cases hy), True.intro⟩ (Nat.le_trans (lc_tr_mu hk hG.1 h1 hn) (by omega))
theorem lc_tr_d (hG : lc_G nt tm R q) (hA : lc_A R q rk) (hk : ∀ x, x < nt → rk x < nt) (hS : lc_sat q w R nt n t) (h1 : 1 ≤ nt) (hn : n ≤ 12) {k : Nat} (hv : lc_ve t nt n 0 0 n k) {u : Nat} (hu : u + 1 < (lc_tree q w t R n k).length) : ∃ v v', (lc_tree q w t R n k)[u + 1]? = some v ∧ (lc_tree q w t R n k)[u]? = some v' ∧ 1 ≤ v.2.2.2 ∧ v.2.2.2 ≤ v'.2.2.2 + 1 := by
  obtain ⟨x, s, e, k', d, rest, f, h2, h3, h4, h5⟩ := lc_tr_p hG hA hk hS h1 hn hv u (by omega)
  rw [lc_run_s] at h5
  obtain ⟨a1, a2, a3⟩ := lc_dr0 h5
  have hh := lc_run_h (f := f) (q := q) (w := w) (t := t) (R := R) (δ := d + 1) (st := lc_kd q w t (lc_pk q w t R x s e k').1 3 s e (lc_pk q w t R x s e k').2 (d + 1) ++ rest) (by
    intro y hy
    rcases List.mem_append.mp hy with h | h
    · rw [lc_kd_d _ _ _ y h]; omega
    · have := h3.1 y h; omega)
  rcases hh with h | ⟨v, l, h, hvd⟩
  · rw [h] at a3
    have := lc_drn a3
    omega
  · rw [h] at a3
    obtain ⟨b1, b2, b3⟩ := lc_dr0 a3
    refine ⟨v, _, b1, a1, ?_, hvd⟩
    obtain ⟨r0, l0, e0, -, -, f1, K, el, hK⟩ := lc_tr_0 hG hS hv
    rw [e0] at b1
    have b1' : l0[u]? = some v := b1
    have hm := List.mem_of_getElem? b1'
    rw [el] at hm
    exact lc_run_d f1 K 1 (fun y hy => by rw [hK y hy]; omega) v hm
variable {xP xC xK xM xL : Int32} {ul wy oR oS oE oD gR gP gS gE gK gD : Nat → Int32}
variable {xPb xCb xKb xMb xLb : Int32} {ulb wyb oRb oSb oEb oDb gRb gPb gSb gEb gKb gDb : Nat → Int32}
variable {post : Int32 → Prop} {L : Nat} {xs : Nat → Int32} {J : lc_JL} {x7 x8 x9 x10 : Int32} {kc ks : Nat}
theorem lz_560 {k : Nat} (hG : lc_G nt tm R q) (hA : lc_A R q rk) (hk : ∀ x, x < nt → rk x < nt) (hS : lc_sat q w R nt n t) (h24 : R ≤ 24) (h1 : 1 ≤ nt) (hn : n ≤ 12) (hv : lc_ve t nt n 0 0 n k) (hM : (lc_tree q w t R n k).length ≤ 196) (hna : lc_nd oR oS oE oD (lc_tree q w t R n k))
    (hE : ∀ N, wL_law_560 post L xs J x7 x8 x9 x10 (nI (lc_tree q w t R n k).length) kc ks (nI nt) (nI tm) (nI R) (nI n) xP xC xK (nI (lc_tree q w t R n k).length) xL (lc_rc q) w ul (lc_tr t) wy oR oS oE oD gR gP gS gE gK gD (nI nt) (nI tm) (nI R) (nI n) xPb xCb xKb xMb xLb (lc_rc q) w ulb (lc_tr tb) wyb oRb oSb oEb oDb gRb gPb gSb gEb gKb gDb (N + 1) (nI (lc_tree q w t R n k).length)) :
    ∀ D u N, u + D = (lc_tree q w t R n k).length → D + 1 ≤ N → wL_law_560 post L xs J x7 x8 x9 x10 (nI (lc_tree q w t R n k).length) kc ks (nI nt) (nI tm) (nI R) (nI n) xP xC xK (nI (lc_tree q w t R n k).length) xL (lc_rc q) w ul (lc_tr t) wy oR oS oE oD gR gP gS gE gK gD (nI nt) (nI tm) (nI R) (nI n) xPb xCb xKb xMb xLb (lc_rc q) w ulb (lc_tr tb) wyb oRb oSb oEb oDb gRb gPb gSb gEb gKb gDb N (nI u) := by
  intro D
  induction D with
  | zero =>
    intro u N hu hN
    obtain ⟨N1, rfl⟩ : ∃ N1, N = N1 + 1 := ⟨N - 1, by omega⟩
    rw [Nat.add_zero] at hu
    rw [hu]
    exact hE N1
  | succ D ih =>
    intro u N hu hN
    obtain ⟨N1, rfl⟩ : ∃ N1, N = N1 + 1 := ⟨N - 1, by omega⟩
    have hva := lc_tr_v hG hA hk hS h1 hn hv
    obtain ⟨x, s, e, k', d, rest, f, g1, g2, g3, g4⟩ := lc_tr_p hG hA hk hS h1 hn hv u (by omega)
    rw [lc_run_s] at g4
    obtain ⟨a1, a2, a3⟩ := lc_dr0 g4
    obtain ⟨n1, n2, n3, n4⟩ := hva _ (lc_mem a1)
    obtain ⟨-, o2⟩ := lc_en_ok hG hA hk hS g1
    obtain ⟨p1, p2⟩ := lc_pk_ok hG hS g1.1
    have hse := g1.1.2.1
    have hen := g1.1.2.2.1
    have hd : d < 256 := n4
    rw [wL_law_560]
    refine br_f (nI_ge a2 (by omega)) ?_
    refine lz_nR hM hna a1 ?_
    refine lz_nD hM hna a1 ?_
    refine lz_nS hM hna a1 ?_
    refine lz_nE hM hna a1 (br_f (nI_pos (by omega)) ?_)
    unfold wpX_ruleCount
    refine br_f (nI_ge n1 (by omega)) (br_t (nI_lt (a := s) (b := e) hse (by omega)) (nm_r (nI_1 u) ⟨4, ?_⟩))
    exact lz_631 (rest := rest) (f := f) hG hA hk hS h24 hn hM hna hva hd g1.2 g2.1 (ih (u + 1) N1 (by omega) (by omega)) 2 s _ (u + 1) 4 p2 a3 (Nat.le_of_succ_le_succ (Nat.le_trans o2 g3)) (by omega) (by omega)
theorem lz_513 {k : Nat} (hG : lc_G nt tm R q) (hA : lc_A R q rk) (hk : ∀ x, x < nt → rk x < nt) (hS : lc_sat q w R nt n t) (h1 : 1 ≤ nt) (hn : n ≤ 12) (hv : lc_ve t nt n 0 0 n k) (hM : (lc_tree q w t R n k).length ≤ 196) (hna : lc_nd oR oS oE oD (lc_tree q w t R n k))
    (hE : wL_law_560 post L xs J x7 x8 x9 x10 (nI (lc_tree q w t R n k).length) kc ks (nI nt) (nI tm) (nI R) (nI n) xP xC xK (nI (lc_tree q w t R n k).length) xL (lc_rc q) w ul (lc_tr t) wy oR oS oE oD gR gP gS gE gK gD (nI nt) (nI tm) (nI R) (nI n) xPb xCb xKb xMb xLb (lc_rc q) w ulb (lc_tr tb) wyb oRb oSb oEb oDb gRb gPb gSb gEb gKb gDb 197 (nI 0)) :
    ∀ D u N, u + 1 + D = (lc_tree q w t R n k).length → D + 1 ≤ N → wL_law_513 post L xs J x7 x8 x9 x10 (nI (lc_tree q w t R n k).length) kc ks (nI nt) (nI tm) (nI R) (nI n) xP xC xK (nI (lc_tree q w t R n k).length) xL (lc_rc q) w ul (lc_tr t) wy oR oS oE oD gR gP gS gE gK gD (nI nt) (nI tm) (nI R) (nI n) xPb xCb xKb xMb xLb (lc_rc q) w ulb (lc_tr tb) wyb oRb oSb oEb oDb gRb gPb gSb gEb gKb gDb N (nI (u + 1)) := by
  intro D
  induction D with
  | zero =>
    intro u N hu hN
    obtain ⟨N1, rfl⟩ : ∃ N1, N = N1 + 1 := ⟨N - 1, by omega⟩
    rw [wL_law_513]
    exact br_t (nI_le (by omega) (by omega)) ⟨197, hE⟩
  | succ D ih =>
    intro u N hu hN
    obtain ⟨N1, rfl⟩ : ∃ N1, N = N1 + 1 := ⟨N - 1, by omega⟩
    obtain ⟨v, v', e1, e2, d1, d2⟩ := lc_tr_d (u := u) hG hA hk hS h1 hn hv (by omega)
    have hva := lc_tr_v hG hA hk hS h1 hn hv
    have hv4 := (hva v (lc_mem e1)).2.2.2
    have hv4' := (hva v' (lc_mem e2)).2.2.2
    rw [wL_law_513]
    refine br_f (nI_ge (by omega) (by omega)) ?_
    refine lz_nD hM hna e1 (br_f (nI_nlt (b := 1) d1 (by omega)) ?_)
    rw [nI_pred]
    refine lz_nD hM hna e2 ?_
    exact br_t (by rw [nI_1]; exact nI_le d2 (by omega)) (nm_r (nI_1 (u + 1)) (ih (u + 1) N1 (by omega) (by omega)))
theorem lz_end {c k j N : Nat} (hG : lc_G nt tm R q) (hA : lc_A R q rk) (hk : ∀ x, x < nt → rk x < nt) (hS : lc_sat q w R nt n t) (hSb : lc_sat q w R nt n tb) (hag : lc_ag nt n t tb) (htb : ∀ j, tb j ≤ 1000000) (h24 : R ≤ 24) (h1 : 1 ≤ nt) (hn : n ≤ 12) (hc : c = lc_rt t n) (hcb : c = lc_rt tb n) (hC : c < 1000000) (hkc : k < c) (hM : (lc_tree q w t R n k).length ≤ 196) (hna : lc_nd oR oS oE oD (lc_tree q w t R n k))
    (hJ : ∀ (xKb xMb xLb : Int32) (wyb oRb oSb oEb oDb gRb gPb gSb gEb gKb gDb : Nat → Int32), J (nI (j + 1)) (nI nt) (nI tm) (nI R) (nI n) xP xC xK (nI (lc_tree q w t R n k).length) xL (lc_rc q) w ul (lc_tr t) wy oR oS oE oD gR gP gS gE gK gD (nI nt) (nI tm) (nI R) (nI n) 1 (nI c) xKb xMb xLb (lc_rc q) w ulb (lc_tr tb) wyb oRb oSb oEb oDb gRb gPb gSb gEb gKb gDb) :
    wL_law_560 post L xs J x7 x8 (nI j) (nI k) (nI (lc_tree q w t R n k).length) kc ks (nI nt) (nI tm) (nI R) (nI n) xP xC xK (nI (lc_tree q w t R n k).length) xL (lc_rc q) w ul (lc_tr t) wy oR oS oE oD gR gP gS gE gK gD (nI nt) (nI tm) (nI R) (nI n) 1 (nI c) xKb xMb xLb (lc_rc q) w ulb (lc_tr tb) wyb oRb oSb oEb oDb gRb gPb gSb gEb gKb gDb (N + 1) (nI (lc_tree q w t R n k).length) := by
  rw [wL_law_560]
  refine br_t (nI_le (Nat.le_refl _) (by omega)) ?_
  refine lc_if (lc_0le (by omega)) (fun z => nm_r (nI_1 j) (hJ _ _ _ _ _ _ _ _ _ _ _ _ _ _)) (fun z => ?_)
  obtain ⟨k1, rfl⟩ : ∃ k1, k = k1 + 1 := ⟨k - 1, by omega⟩
  rw [nI_pred]
  have hv := lc_root h1 hc hC hkc
  have hv1 := lc_root (k := k1) h1 hc hC (by omega)
  have hv1b := lc_root (k := k1) h1 hcb hC (by omega)
  have eT : lc_tree q w tb R n k1 = lc_tree q w t R n k1 := (lc_run_ag hG hA hk hS hag 256 [(0, 0, n, k1, 0)] ⟨hv1, True.intro⟩).symm
  refine lx_select hG h24 h1 hn htb hSb hA hk hcb hC (by omega) (fun xL' wy' oR' oS' oE' oD' gR' gP' gS' gE' gK' gD' hnd hlen => ?_)
  rw [eT] at hnd hlen ⊢
  have hva := lc_tr_v hG hA hk hS h1 hn hv
  have hvb := lc_tr_v hG hA hk hS h1 hn hv1
  have hmu := lc_tr_mu (rk := rk) (k := k1) hk hG.1 h1 hn
  have hmu2 := lc_tr_mu (rk := rk) (k := k1 + 1) hk hG.1 h1 hn
  have hlx : lc_lx (lc_tree q w t R n k1) (lc_tree q w t R n (k1 + 1)) := lc_lx_e hG hA hk hS _ 0 0 n k1 (k1 + 1) 0 [] [] 256 256 (Nat.le_refl _) (by omega) ⟨hv1, True.intro⟩ ⟨hv, True.intro⟩ (by omega) (by omega)
  obtain ⟨r0, l0, e0, -, -, -⟩ := lc_tr_0 hG hS hv1
  have hpos : 1 ≤ (lc_tree q w t R n k1).length := by rw [e0]; exact Nat.succ_pos _
  refine br_f (nI_nlt (b := 1) hpos (by omega)) ?_
  unfold wpX_selectedRank
  refine br_t rfl ?_
  have hJ' := hJ (nI k1) (nI (lc_tree q w t R n k1).length) xL' wy' oR' oS' oE' oD' gR' gP' gS' gE' gK' gD'
  refine pk_le (lc_tree q w t R n (k1 + 1)).length (lc_tree q w t R n k1).length (fun y => ⟨(lc_tree q w t R n k1).length + 2, ?_⟩) (fun y => ⟨(lc_tree q w t R n k1).length + 2, ?_⟩)
  · exact lz_892 h24 hn hM hlen hna hnd hva hvb (fun i a b => a) hM hJ' _ _ 0 _ rfl rfl hlx (Nat.le_refl _)
  · exact lz_892 h24 hn hM hlen hna hnd hva hvb (fun i a b => b) hlen hJ' _ _ 0 _ rfl rfl hlx (Nat.le_refl _)
theorem lz_411 {c j : Nat} {z0 : Int32} (hp1 : post 1) (hG : lc_G nt tm R q) (hA : lc_A R q rk) (hk : ∀ x, x < nt → rk x < nt) (hS : lc_sat q w R nt n t) (hSb : lc_sat q w R nt n tb) (hag : lc_ag nt n t tb) (ht : ∀ j, t j ≤ 1000000) (htb : ∀ j, tb j ≤ 1000000) (h24 : R ≤ 24) (h1 : 1 ≤ nt) (hn : n ≤ 12) (hc : c = lc_rt t n) (hcb : c = lc_rt tb n) (hC : c < 1000000)
    (hJ : ∀ (xK xM xL : Int32) (wy oR oS oE oD gR gP gS gE gK gD : Nat → Int32) (xKb xMb xLb : Int32) (wyb oRb oSb oEb oDb gRb gPb gSb gEb gKb gDb : Nat → Int32), J (nI (j + 1)) (nI nt) (nI tm) (nI R) (nI n) 1 (nI c) xK xM xL (lc_rc q) w ul (lc_tr t) wy oR oS oE oD gR gP gS gE gK gD (nI nt) (nI tm) (nI R) (nI n) 1 (nI c) xKb xMb xLb (lc_rc q) w ulb (lc_tr tb) wyb oRb oSb oEb oDb gRb gPb gSb gEb gKb gDb) :
    wL_law_411 post L xs J (nI n) (nI c) (nI j) z0 kc ks (nI nt) (nI tm) (nI R) (nI n) 1 (nI c) xK xM xL (lc_rc q) w ul (lc_tr t) wy oR oS oE oD gR gP gS gE gK gD (nI nt) (nI tm) (nI R) (nI n) 1 (nI c) xKb xMb xLb (lc_rc q) w ulb (lc_tr tb) wyb oRb oSb oEb oDb gRb gPb gSb gEb gKb gDb := by
  unfold wL_law_411
  refine br_c (fun _ => nm_r (nI_1 j) (hJ _ _ _ _ _ _ _ _ _ _ _ _ _ _ _ _ _ _ _ _ _ _ _ _ _ _ _ _)) (fun h0 => ?_)
  refine br_c (fun h2 => ?_) (fun _ => nm_r (nI_1 j) (hJ _ _ _ _ _ _ _ _ _ _ _ _ _ _ _ _ _ _ _ _ _ _ _ _ _ _ _ _))
  obtain ⟨k, hk31, rfl⟩ := nI_of h0
  have hkc : k < c := (nI_ltI hk31 (by omega)).mp h2
  have hv := lc_root h1 hc hC hkc
  refine lx_select hG h24 h1 hn ht hS hA hk hc hC hkc (fun xL' wy' oR' oS' oE' oD' gR' gP' gS' gE' gK' gD' hnd hlen => ?_)
  obtain ⟨r0, l0, e0, hr0, hq0, -⟩ := lc_tr_0 hG hS hv
  have hpos : 1 ≤ (lc_tree q w t R n k).length := by rw [e0]; exact Nat.succ_pos _
  have a0 : (lc_tree q w t R n k)[0]? = some (r0, 0, n, 0) := by rw [e0]; rfl
  refine br_t (nI_le (a := 1) hpos (by omega)) ?_
  unfold wpX_selectedRank
  refine br_t rfl ?_
  refine lz_nD (i := 0) hlen hnd a0 (br_t rfl ?_)
  refine lz_nS (i := 0) hlen hnd a0 (br_t rfl ?_)
  refine lz_nE (i := 0) hlen hnd a0 (br_t rfl ?_)
  refine lz_nR (i := 0) hlen hnd a0 ?_
  refine lz_sym (p := 0) h24 hr0 (by omega) ?_
  rw [hq0]
  refine br_t (by decide) ?_
  refine lz_nR0 hlen (br_t rfl ⟨196, ?_⟩)
  refine lz_513 hG hA hk hS h1 hn hv hlen hnd ?_ ((lc_tree q w t R n k).length - 1) 0 196 (by omega) (by omega)
  refine lz_560 hG hA hk hS h24 h1 hn hv hlen hnd (fun N => ?_) (lc_tree q w t R n k).length 0 197 (by omega) (by omega)
  exact lz_end hG hA hk hS hSb hag htb h24 h1 hn hc hcb hC hkc hlen hnd (fun xKb xMb xLb wyb oRb oSb oEb oDb gRb gPb gSb gEb gKb gDb => hJ _ _ _ _ _ _ _ _ _ _ _ _ _ _ _ _ _ _ _ _ _ _ _ _ _ _ _ _)
theorem lz_384 {c : Nat} (hp1 : post 1) (hG : lc_G nt tm R q) (hA : lc_A R q rk) (hk : ∀ x, x < nt → rk x < nt) (hS : lc_sat q w R nt n t) (hSb : lc_sat q w R nt n tb) (hag : lc_ag nt n t tb) (ht : ∀ j, t j ≤ 1000000) (htb : ∀ j, tb j ≤ 1000000) (h24 : R ≤ 24) (h1 : 1 ≤ nt) (hn : n ≤ 12) (hc : c = lc_rt t n) (hcb : c = lc_rt tb n) (hC : c < 1000000) :
    ∀ D j (xK xM xL : Int32) (wy oR oS oE oD gR gP gS gE gK gD : Nat → Int32) (xKb xMb xLb : Int32) (wyb oRb oSb oEb oDb gRb gPb gSb gEb gKb gDb : Nat → Int32), j + D = 52 → wL_law_384 post L xs (nI n) (nI c) kc ks (D + 1) (nI j) (nI nt) (nI tm) (nI R) (nI n) 1 (nI c) xK xM xL (lc_rc q) w ul (lc_tr t) wy oR oS oE oD gR gP gS gE gK gD (nI nt) (nI tm) (nI R) (nI n) 1 (nI c) xKb xMb xLb (lc_rc q) w ulb (lc_tr tb) wyb oRb oSb oEb oDb gRb gPb gSb gEb gKb gDb := by
  intro D
  induction D with
  | zero =>
    intro j xK xM xL wy oR oS oE oD gR gP gS gE gK gD xKb xMb xLb wyb oRb oSb oEb oDb gRb gPb gSb gEb gKb gDb hj
    obtain rfl : j = 52 := by omega
    exact br_t (by decide) hp1
  | succ D ih =>
    intro j xK xM xL wy oR oS oE oD gR gP gS gE gK gD xKb xMb xLb wyb oRb oSb oEb oDb gRb gPb gSb gEb gKb gDb hj
    rw [wL_law_384]
    refine br_f (nI_ge (b := 52) (by omega) (by decide)) (br_c (fun _ => ?_) (fun _ => ?_))
    · exact lz_411 hp1 hG hA hk hS hSb hag ht htb h24 h1 hn hc hcb hC (fun xK xM xL wy oR oS oE oD gR gP gS gE gK gD xKb xMb xLb wyb oRb oSb oEb oDb gRb gPb gSb gEb gKb gDb => ih (j + 1) _ _ _ _ _ _ _ _ _ _ _ _ _ _ _ _ _ _ _ _ _ _ _ _ _ _ _ _ (by omega))
    · exact lz_411 hp1 hG hA hk hS hSb hag ht htb h24 h1 hn hc hcb hC (fun xK xM xL wy oR oS oE oD gR gP gS gE gK gD xKb xMb xLb wyb oRb oSb oEb oDb gRb gPb gSb gEb gKb gDb => ih (j + 1) _ _ _ _ _ _ _ _ _ _ _ _ _ _ _ _ _ _ _ _ _ _ _ _ _ _ _ _ (by omega))
end LPE
end
section
section LPF
variable {q : Nat → Nat → Nat} {w : Nat → Int32} {t tb : Nat → Nat} {nt tm R n : Nat} {rk : Nat → Nat}
theorem lc_fm_Fm {l a b c : Nat} {p0 p1 p2 p3 : Int32} (h : lc_fm nt tm l a b c) (e0 : p0 = nI l) (e1 : p1 = nI a) (e2 : p2 = lc_cd b) (e3 : p3 = lc_cd c) : lc_Fm nt tm p0 p1 p2 p3 := ⟨l, a, b, c, h, e0, e1, e2, e3⟩
theorem lc_cd_i {b c : Nat} (hb : b ≤ 16) (hc : c ≤ 16) (h : lc_cd b = lc_cd c) : b = c := by
  by_cases z : c = 16
  · subst z
    rw [lc_cd_16] at h
    exact (lc_cd_e hb).mp h
  · by_cases y : b = 16
    · subst y
      rw [lc_cd_16] at h
      exact ((lc_cd_e hc).mp h.symm).symm
    · rw [lc_cd_n z, lc_cd_n y] at h
      exact (nI_eq (by omega) (by omega)).mp h
theorem lc_fm_16 {l a b c : Nat} (h8 : nt ≤ 8) (t8 : tm ≤ 8) (h : lc_fm nt tm l a b c) : l < 8 ∧ a < 16 ∧ b ≤ 16 ∧ c ≤ 16 := by
  unfold lc_fm lc_va at h; omega
theorem lc_G_add {l a b c : Nat} (hG : lc_G nt tm R q) (h : lc_fm nt tm l a b c) : lc_G nt tm (R + 1) (lc_add q R l a b c) := by
  refine ⟨hG.1, hG.2.1, fun r hr => ?_⟩
  unfold lc_gr
  by_cases z : r = R
  · subst z
    rw [lc_add_0, lc_add_1, lc_add_2, lc_add_3]
    exact h
  · have hr' : r < R := by omega
    rw [lc_add_lo hr', lc_add_lo hr', lc_add_lo hr', lc_add_lo hr']
    exact hG.2.2 r hr'
variable {xP xC xK xM xL : Int32} {ul wy oR oS oE oD gR gP gS gE gK gD : Nat → Int32}
/-- one rule for two objects of one grammar: both take it, or both refuse it -/
theorem lz_add2 {post : Int32 → St2 → Prop} {p0 p1 p2 p3 : Int32} (hG : lc_G nt tm R q) (h24 : R ≤ 24) (hA : ∃ rk, lc_A R q rk)
    (h : ∀ (R' : Nat) (q' : Nat → Nat → Nat) (r' xP' xK' xM' : Int32), lc_G nt tm R' q' → R' ≤ 24 → (∃ rk, lc_A R' q' rk) → (∀ {postb : Int32 → St2 → Prop} {tb : Nat → Nat} {xPb xCb xKb xMb xLb : Int32} {ulb wyb oRb oSb oEb oDb gRb gPb gSb gEb gKb gDb : Nat → Int32}, (∀ (rb xP2 xK2 xM2 : Int32), postb rb ((nI nt), (nI tm), (nI R'), (nI n), xP2, xCb, xK2, xM2, xLb, (lc_rc q'), w, ulb, (lc_tr tb), wyb, oRb, oSb, oEb, oDb, gRb, gPb, gSb, gEb, gKb, gDb)) → wpX_addRule postb ((nI nt), (nI tm), (nI R), (nI n), xPb, xCb, xKb, xMb, xLb, (lc_rc q), w, ulb, (lc_tr tb), wyb, oRb, oSb, oEb, oDb, gRb, gPb, gSb, gEb, gKb, gDb) p0 p1 p2 p3) → post r' ((nI nt), (nI tm), (nI R'), (nI n), xP', xC, xK', xM', xL, (lc_rc q'), w, ul, (lc_tr t), wy, oR, oS, oE, oD, gR, gP, gS, gE, gK, gD)) :
    wpX_addRule post ((nI nt), (nI tm), (nI R), (nI n), xP, xC, xK, xM, xL, (lc_rc q), w, ul, (lc_tr t), wy, oR, oS, oE, oD, gR, gP, gS, gE, gK, gD) p0 p1 p2 p3 := by
  have h8 := hG.1
  have t8 := hG.2.1
  refine lx_addRule hG h24 (fun hF => ?_) (fun hF hR => ?_) (fun l a hf e0 e1 e2 e3 hR ha hc => ?_) (fun l a b c hf e0 e1 e2 e3 hR hc => ?_)
  · refine h R q _ _ _ _ hG h24 hA (fun hb => ?_)
    refine lx_addRule hG h24 (fun _ => hb _ _ _ _) (fun z => absurd z hF) (fun l a hf e0 e1 e2 e3 => ?_) (fun l a b c hf e0 e1 e2 e3 => absurd (lc_fm_Fm hf e0 e1 e2 e3) hF)
    exact absurd (lc_fm_Fm hf e0 e1 (e2.trans lc_cd_16.symm) (e3.trans lc_cd_16.symm)) hF
  · refine h R q _ _ _ _ hG h24 hA (fun hb => ?_)
    refine lx_addRule hG h24 (fun z => absurd hF z) (fun _ _ => hb _ _ _ _) (fun l a hf e0 e1 e2 e3 hR' => ?_) (fun l a b c hf e0 e1 e2 e3 hR' => ?_)
    · omega
    · omega
  · have hF := lc_fm_Fm hf e0 e1 (e2.trans lc_cd_16.symm) (e3.trans lc_cd_16.symm)
    refine h R q _ _ _ _ hG h24 hA (fun hb => ?_)
    refine lx_addRule hG h24 (fun z => absurd hF z) (fun _ hR' => ?_) (fun l' a' hf' e0' e1' e2' e3' hR' ha' hc' => hb _ _ _ _) (fun l' a' b' c' hf' e0' e1' e2' e3' hR' hc' => ?_)
    · omega
    · exfalso
      obtain ⟨q1, q2, q3, q4⟩ := lc_fm_16 h8 t8 hf
      obtain ⟨q1', q2', q3', q4'⟩ := lc_fm_16 h8 t8 hf'
      have hb : b' = 16 := (lc_cd_e q3').mp (e2'.symm.trans e2)
      have hl : l' = l := (nI_eq (by omega) (by omega)).mp (e0'.symm.trans e0)
      have ha2 : a' = a := (nI_eq (by omega) (by omega)).mp (e1'.symm.trans e1)
      subst hl ha2
      have := hc' hb ha
      rw [hc] at this
      exact absurd this (by decide)
  · have hF := lc_fm_Fm hf e0 e1 e2 e3
    obtain ⟨q1, q2, q3, q4⟩ := lc_fm_16 h8 t8 hf
    obtain ⟨rk, hA⟩ := hA
    refine h (R + 1) (lc_add q R l a b c) _ _ _ _ (lc_G_add hG hf) (by omega) (lc_A_add hA (fun ha hb => ?_)) (fun hb => ?_)
    · have han : a < nt := by
        rcases hf.2.1 with z | z
        · exact z
        · omega
      exact ⟨lc_co true q R nt a, lc_it_cl han (by simp) (fun r hr => (hG.2.2 r hr).1), lc_it_sub (by simp) nt, hc hb han⟩
    · refine lx_addRule hG h24 (fun z => absurd hF z) (fun _ hR' => ?_) (fun l' a' hf' e0' e1' e2' e3' hR' ha' hc' => ?_) (fun l' a' b' c' hf' e0' e1' e2' e3' hR' hc' => ?_)
      · omega
      · exfalso
        obtain ⟨q1', q2', q3', q4'⟩ := lc_fm_16 h8 t8 hf'
        have hb16 : b = 16 := (lc_cd_e q3).mp (e2.symm.trans e2')
        have hl : l' = l := (nI_eq (by omega) (by omega)).mp (e0'.symm.trans e0)
        have ha2 : a' = a := (nI_eq (by omega) (by omega)).mp (e1'.symm.trans e1)
        subst hl ha2
        have := hc hb16 ha'
        rw [hc'] at this
        exact absurd this (by decide)
      · obtain ⟨q1', q2', q3', q4'⟩ := lc_fm_16 h8 t8 hf'
        have hl : l' = l := (nI_eq (by omega) (by omega)).mp (e0'.symm.trans e0)
        have ha2 : a' = a := (nI_eq (by omega) (by omega)).mp (e1'.symm.trans e1)
        have hb2 : b' = b := lc_cd_i q3' q3 (e2'.symm.trans e2)
        have hc2 : c' = c := lc_cd_i q4' q4 (e3'.symm.trans e3)
        subst hl ha2 hb2 hc2
        exact hb _ _ _ _
theorem lz_tokA {post : Int32 → St2 → Prop} {j : Nat} (hj : j < tm) (t8 : tm ≤ 8) (hn : n < 12) (h : post (nI (n + 1)) ((nI nt), (nI tm), (nI R), (nI (n + 1)), 0, xC, (-1), 0, xL, (lc_rc q), (upd w n (nI j)), ul, (lc_tr t), wy, oR, oS, oE, oD, gR, gP, gS, gE, gK, gD)) : wpX_addToken post ((nI nt), (nI tm), (nI R), (nI n), xP, xC, xK, xM, xL, (lc_rc q), w, ul, (lc_tr t), wy, oR, oS, oE, oD, gR, gP, gS, gE, gK, gD) (nI j) := by
  unfold wpX_addToken
  refine br_f (nI_pos (by omega)) (br_t (nI_lt hj (by omega)) (br_t (nI_lt (b := 12) hn (by decide)) ⟨vp_in_nI hn (by omega), ?_⟩))
  rw [nI_clamp (by omega)]
  exact nm_e (nm_r (nI_1 n) h)
variable {post : Int32 → Prop} {L : Nat} {xs : Nat → Int32} {kc ks : Nat}
theorem lz_301 {nT : Nat} (hp1 : post 1) (hL : L ≤ 260) (hG : lc_G nt tm R q) (h24 : R ≤ 24) (h1 : 1 ≤ nt) (t1 : 1 ≤ tm) (hA : lc_A R q rk) (hk : ∀ x, x < nt → rk x < nt) (ht : ∀ j, t j ≤ 1000000) (htb : ∀ j, tb j ≤ 1000000) (hT : nT ≤ 12) :
    ∀ D n i (w : Nat → Int32) (xP xC xK xM xL : Int32) (ul wy oR oS oE oD gR gP gS gE gK gD : Nat → Int32) (xPb xCb xKb xMb xLb : Int32) (ulb wyb oRb oSb oEb oDb gRb gPb gSb gEb gKb gDb : Nat → Int32), n + D = nT → i + D < 900 → wL_law_301 post L xs (nI tm) (nI nT) kc ks (D + 1) (nI i) (nI n) (nI nt) (nI tm) (nI R) (nI n) xP xC xK xM xL (lc_rc q) w ul (lc_tr t) wy oR oS oE oD gR gP gS gE gK gD (nI nt) (nI tm) (nI R) (nI n) xPb xCb xKb xMb xLb (lc_rc q) w ulb (lc_tr tb) wyb oRb oSb oEb oDb gRb gPb gSb gEb gKb gDb := by
  intro D
  induction D with
  | zero =>
    intro n i w xP xC xK xM xL ul wy oR oS oE oD gR gP gS gE gK gD xPb xCb xKb xMb xLb ulb wyb oRb oSb oEb oDb gRb gPb gSb gEb gKb gDb hD hi
    obtain rfl : n = nT := by omega
    rw [wL_law_301]
    refine br_t (nI_le (Nat.le_refl _) (by omega)) ?_
    refine lx_parse hG h24 h1 hT hA hk ht (fun ul' wy' t' ht' hS' => ?_)
    refine lx_parse hG h24 h1 hT hA hk htb (fun ulb' wyb' tb' htb' hSb' => ?_)
    have hag : lc_ag nt n t' tb' := lc_uq hG hA hS' hSb'
    have er : lc_rt tb' n = lc_rt t' n := by
      unfold lc_rt
      by_cases z : n = 0
      · rw [if_pos z, if_pos z]
      · rw [if_neg z, if_neg z]
        exact (hag 0 0 n (by omega) (by omega) (Nat.le_refl _)).symm
    have hc := lc_rt_le (n := n) ht'
    refine lc_if (lc_0le (by omega)) (fun _ => hp1) (fun z => ?_)
    refine pk_lt (lc_rt t' n) 1000000 (fun hC => ?_) (fun _ => hp1)
    unfold wpX_count
    refine br_f (by decide) (br_t rfl ⟨53, ?_⟩)
    rw [er]
    exact lz_384 hp1 hG hA hk hS' hSb' hag ht' htb' h24 h1 hT rfl er.symm hC 52 0 _ _ _ _ _ _ _ _ _ _ _ _ _ _ _ _ _ _ _ _ _ _ _ _ _ _ _ _ (by omega)
  | succ D ih =>
    intro n i w xP xC xK xM xL ul wy oR oS oE oD gR gP gS gE gK gD xPb xCb xKb xMb xLb ulb wyb oRb oSb oEb oDb gRb gPb gSb gEb gKb gDb hD hi
    rw [wL_law_301]
    refine br_f (nI_ge (by omega) (by omega)) (nm_r (nI_1 i) ?_)
    obtain ⟨c1, hc1⟩ := lz_cell (xs := xs) (i := i) hL (by omega)
    refine hc1 _ ?_
    obtain ⟨j, hj, hjn⟩ := lz_nn c1 (M := tm) (by omega) (by have := hG.2.1; omega)
    refine hjn _ ?_
    refine lz_tokA hj hG.2.1 (by omega) ?_
    refine lz_tokA hj hG.2.1 (by omega) (nm_r (nI_1 n) ?_)
    exact ih (n + 1) (i + 1) _ _ _ _ _ _ _ _ _ _ _ _ _ _ _ _ _ _ _ _ _ _ _ _ _ _ _ _ _ _ _ _ _ _ _ (by omega) (by omega)
theorem lz_144 {rn : Nat} (hp1 : post 1) (hL : L ≤ 260) (h1 : 1 ≤ nt) (t1 : 1 ≤ tm) (ht : ∀ j, t j ≤ 1000000) (htb : ∀ j, tb j ≤ 1000000) (hrn : rn ≤ 100) :
    ∀ D j i R (q : Nat → Nat → Nat) (xP xC xK xM xL : Int32) (ul wy oR oS oE oD gR gP gS gE gK gD : Nat → Int32) (xPb xCb xKb xMb xLb : Int32) (ulb wyb oRb oSb oEb oDb gRb gPb gSb gEb gKb gDb : Nat → Int32), j + D = rn → i + 5 * D ≤ 800 → lc_G nt tm R q → R ≤ 24 → (∃ rk, lc_A R q rk) → wL_law_144 post L xs (nI nt) (nI tm) (nI rn) kc ks (D + 1) (nI i) (nI j) (nI nt) (nI tm) (nI R) (nI 0) xP xC xK xM xL (lc_rc q) w ul (lc_tr t) wy oR oS oE oD gR gP gS gE gK gD (nI nt) (nI tm) (nI R) (nI 0) xPb xCb xKb xMb xLb (lc_rc q) w ulb (lc_tr tb) wyb oRb oSb oEb oDb gRb gPb gSb gEb gKb gDb := by
  intro D
  induction D with
  | zero =>
    intro j i R q xP xC xK xM xL ul wy oR oS oE oD gR gP gS gE gK gD xPb xCb xKb xMb xLb ulb wyb oRb oSb oEb oDb gRb gPb gSb gEb gKb gDb hD hi hG h24 hA
    obtain rfl : j = rn := by omega
    obtain ⟨rk0, hA0⟩ := hA
    obtain ⟨rk, hA, hkr⟩ := lc_A_low hA0 (fun r hr => (hG.2.2 r hr).1) (fun r hr => lc_G_8 hG hr 1 (by omega))
    rw [wL_law_144]
    refine br_t (nI_le (Nat.le_refl _) (by omega)) (nm_r (nI_1 i) ?_)
    obtain ⟨c1, hc1⟩ := lz_cell (xs := xs) (i := i) hL (by omega)
    refine hc1 _ ?_
    obtain ⟨m, hm, hmn⟩ := lz_nn c1 (M := 6) (by omega) (by omega)
    refine hmn _ ?_
    have e1 : 1 + nI m = nI (1 + m) := nI_add 1 m
    refine nm_r e1 ⟨1 + m + 1, ?_⟩
    exact lz_301 hp1 hL hG h24 h1 t1 hA hkr ht htb (by omega) (1 + m) 0 (i + 1) w _ _ _ _ _ _ _ _ _ _ _ _ _ _ _ _ _ _ _ _ _ _ _ _ _ _ _ _ _ _ _ _ _ _ (by omega) (by omega)
  | succ D ih =>
    intro j i R q xP xC xK xM xL ul wy oR oS oE oD gR gP gS gE gK gD xPb xCb xKb xMb xLb ulb wyb oRb oSb oEb oDb gRb gPb gSb gEb gKb gDb hD hi hG h24 hA
    rw [wL_law_144]
    refine br_f (nI_ge (by omega) (by omega)) ?_
    have h8 := hG.1
    have t8 := hG.2.1
    have a2 : nI i + 2 = nI (i + 2) := nI_add i 2
    have a3 : nI i + 3 = nI (i + 3) := nI_add i 3
    have a4 : nI i + 4 = nI (i + 4) := nI_add i 4
    have a5 : nI i + 5 = nI (i + 5) := nI_add i 5
    obtain ⟨c0, hc0⟩ := lz_cell (xs := xs) (i := i) hL (by omega)
    obtain ⟨c1, hc1⟩ := lz_cell (xs := xs) (i := i + 1) hL (by omega)
    obtain ⟨c2, hc2⟩ := lz_cell (xs := xs) (i := i + 2) hL (by omega)
    obtain ⟨c3, hc3⟩ := lz_cell (xs := xs) (i := i + 3) hL (by omega)
    obtain ⟨c4, hc4⟩ := lz_cell (xs := xs) (i := i + 4) hL (by omega)
    obtain ⟨l0, hl0, hl0n⟩ := lz_nn c0 (M := nt) (by omega) (by omega)
    obtain ⟨l1, hl1, hl1n⟩ := lz_nn c1 (M := 3) (by omega) (by omega)
    obtain ⟨d2, -, hd2⟩ := lz_code c2 (a := nt) (b := tm) (by omega) h8 (by omega) t8
    obtain ⟨d3, -, hd3⟩ := lz_code c3 (a := nt) (b := tm) (by omega) h8 (by omega) t8
    obtain ⟨d4, -, hd4⟩ := lz_code c4 (a := nt) (b := tm) (by omega) h8 (by omega) t8
    have e1 : 1 + nI l1 = nI (1 + l1) := nI_add 1 l1
    have H : ∀ p2 p3 : Int32, wL_law_242 post L xs (wL_law_144 post L xs (nI nt) (nI tm) (nI rn) kc ks (D + 1)) (nI nt) (nI tm) (nI i) (nI rn) (nI j) (nI l0) (nI d2) p2 p3 kc ks (nI nt) (nI tm) (nI R) (nI 0) xP xC xK xM xL (lc_rc q) w ul (lc_tr t) wy oR oS oE oD gR gP gS gE gK gD (nI nt) (nI tm) (nI R) (nI 0) xPb xCb xKb xMb xLb (lc_rc q) w ulb (lc_tr tb) wyb oRb oSb oEb oDb gRb gPb gSb gEb gKb gDb := by
      intro p2 p3
      unfold wL_law_242
      refine nm_r a5 ?_
      refine lz_add2 (n := 0) hG h24 hA (fun R' q' r' xP' xK' xM' hG' h24' hA' hb => ?_)
      refine hb (fun rb xP2 xK2 xM2 => nm_r (nI_1 j) ?_)
      exact ih (j + 1) (i + 5) R' q' _ _ _ _ _ _ _ _ _ _ _ _ _ _ _ _ _ _ _ _ _ _ _ _ _ _ _ _ _ _ _ _ _ _ (by omega) (by omega) hG' h24' hA'
    have H2 : ∀ p2 : Int32, wL_law_217 post L xs (wL_law_144 post L xs (nI nt) (nI tm) (nI rn) kc ks (D + 1)) (nI nt) (nI tm) (nI i) (nI rn) (nI j) (nI l0) (nI (1 + l1)) (nI d2) p2 kc ks (nI nt) (nI tm) (nI R) (nI 0) xP xC xK xM xL (lc_rc q) w ul (lc_tr t) wy oR oS oE oD gR gP gS gE gK gD (nI nt) (nI tm) (nI R) (nI 0) xPb xCb xKb xMb xLb (lc_rc q) w ulb (lc_tr tb) wyb oRb oSb oEb oDb gRb gPb gSb gEb gKb gDb := by
      intro p2
      unfold wL_law_217
      refine br_c (fun _ => ?_) (fun _ => H _ _)
      rw [a4]
      exact hc4 _ (hd4 _ (H _ _))
    refine hc0 _ (hl0n _ ?_)
    rw [nI_1]
    refine hc1 _ (hl1n _ (nm_r e1 ?_))
    rw [a2]
    refine hc2 _ (hd2 _ ?_)
    refine br_c (fun _ => H2 _) (fun _ => ?_)
    rw [a3]
    exact hc3 _ (hd3 _ (H2 _))
variable {xPb xCb xKb xMb xLb : Int32} {ulb wyb oRb oSb oEb oDb gRb gPb gSb gEb gKb gDb : Nat → Int32}
theorem lz_125 {i : Nat} (hp1 : post 1) (hL : L ≤ 260) (h1 : 1 ≤ nt) (t1 : 1 ≤ tm) (ht : ∀ j, t j ≤ 1000000) (htb : ∀ j, tb j ≤ 1000000) (hi : i ≤ 100) (hG : lc_G nt tm R q) (h24 : R ≤ 24) (hA : ∃ rk, lc_A R q rk) : wL_law_125 post L xs (nI nt) (nI tm) (nI i) kc ks (nI nt) (nI tm) (nI R) (nI 0) xP xC xK xM xL (lc_rc q) w ul (lc_tr t) wy oR oS oE oD gR gP gS gE gK gD (nI nt) (nI tm) (nI R) (nI 0) xPb xCb xKb xMb xLb (lc_rc q) w ulb (lc_tr tb) wyb oRb oSb oEb oDb gRb gPb gSb gEb gKb gDb := by
  unfold wL_law_125
  refine nm_r (nI_1 i) ?_
  obtain ⟨c1, hc1⟩ := lz_cell (xs := xs) (i := i) hL (by omega)
  refine hc1 _ ?_
  obtain ⟨m, hm, hmn⟩ := lz_nn c1 (M := 9) (by omega) (by omega)
  refine hmn _ ⟨m + 1, ?_⟩
  exact lz_144 hp1 hL h1 t1 ht htb (by omega) m 0 (i + 1) R q _ _ _ _ _ _ _ _ _ _ _ _ _ _ _ _ _ _ _ _ _ _ _ _ _ _ _ _ _ _ _ _ _ _ (by omega) (by omega) hG h24 hA
theorem lz_86 {i : Nat} (hp1 : post 1) (hL : L ≤ 260) (h1 : 1 ≤ nt) (t1 : 1 ≤ tm) (ht : ∀ j, t j ≤ 1000000) (htb : ∀ j, tb j ≤ 1000000) (hi : i ≤ 100) :
    ∀ D j R (q : Nat → Nat → Nat) (xP xC xK xM xL : Int32) (ul wy oR oS oE oD gR gP gS gE gK gD : Nat → Int32) (xPb xCb xKb xMb xLb : Int32) (ulb wyb oRb oSb oEb oDb gRb gPb gSb gEb gKb gDb : Nat → Int32), j + D = tm → lc_G nt tm R q → R ≤ 24 → (∃ rk, lc_A R q rk) → wL_law_86 post L xs (nI nt) (nI tm) (nI i) kc ks (D + 1) (nI j) (nI nt) (nI tm) (nI R) (nI 0) xP xC xK xM xL (lc_rc q) w ul (lc_tr t) wy oR oS oE oD gR gP gS gE gK gD (nI nt) (nI tm) (nI R) (nI 0) xPb xCb xKb xMb xLb (lc_rc q) w ulb (lc_tr tb) wyb oRb oSb oEb oDb gRb gPb gSb gEb gKb gDb := by
  intro D
  induction D with
  | zero =>
    intro j R q xP xC xK xM xL ul wy oR oS oE oD gR gP gS gE gK gD xPb xCb xKb xMb xLb ulb wyb oRb oSb oEb oDb gRb gPb gSb gEb gKb gDb hD hG h24 hA
    obtain rfl : j = tm := by omega
    have t8 := hG.2.1
    rw [wL_law_86]
    exact br_t (nI_le (Nat.le_refl _) (by omega)) (lz_125 hp1 hL h1 t1 ht htb hi hG h24 hA)
  | succ D ih =>
    intro j R q xP xC xK xM xL ul wy oR oS oE oD gR gP gS gE gK gD xPb xCb xKb xMb xLb ulb wyb oRb oSb oEb oDb gRb gPb gSb gEb gKb gDb hD hG h24 hA
    have t8 := hG.2.1
    rw [wL_law_86]
    refine br_f (nI_ge (by omega) (by omega)) ?_
    refine lz_add2 (n := 0) hG h24 hA (fun R' q' r' xP' xK' xM' hG' h24' hA' hb => ?_)
    refine hb (fun rb xP2 xK2 xM2 => nm_r (nI_1 j) ?_)
    exact ih (j + 1) R' q' _ _ _ _ _ _ _ _ _ _ _ _ _ _ _ _ _ _ _ _ _ _ _ _ _ _ _ _ _ _ _ _ _ _ (by omega) hG' h24' hA'
end LPF
end
section
section LPG
theorem lz_clamp {post : Int32 → Prop} {m : Nat} (h1 : 1 ≤ m) (h8 : m ≤ 8) (hp : post (nI m)) : wpX_clampKinds post () (nI m) := br_t (nI_le (a := 1) h1 (by omega)) (br_t (nI_le (b := 8) h8 (by decide)) hp)
theorem i_vc (xs : Nat → Int32) (L : Nat) (hL : L ≤ 260) : wpL_law (fun r => r = 1) L xs := by
  unfold wpL_law
  obtain ⟨c0, hc0⟩ := lz_cell (xs := xs) (i := 0) hL (by omega)
  obtain ⟨c1, hc1⟩ := lz_cell (xs := xs) (i := 1) hL (by omega)
  obtain ⟨c2, hc2⟩ := lz_cell (xs := xs) (i := 2) hL (by omega)
  obtain ⟨a, ha, han⟩ := lz_nn c0 (M := 3) (by omega) (by omega)
  obtain ⟨b, hb, hbn⟩ := lz_nn c1 (M := 2) (by omega) (by omega)
  obtain ⟨d, hd, hdn⟩ := lz_nn c2 (M := 4) (by omega) (by omega)
  have ea : 1 + nI a = nI (1 + a) := nI_add 1 a
  have eb : 1 + nI b = nI (1 + b) := nI_add 1 b
  have G0 : lc_G (1 + a) (1 + b) 0 (fun _ _ => 0) := ⟨by omega, by omega, fun r hr => by omega⟩
  have A0 : ∃ rk, lc_A 0 (fun _ _ => 0) rk := ⟨fun _ => 0, fun r hr => by omega⟩
  have T0 : ∀ j : Nat, (fun _ : Nat => (0 : Nat)) j ≤ 1000000 := fun _ => Nat.zero_le _
  refine hc0 _ (han _ (nm_r ea ?_))
  refine hc1 _ (hbn _ (nm_r eb ⟨15, 3441, by omega, by omega, ?_⟩))
  unfold wpX_init
  refine ⟨by omega, by omega, by omega, by omega, by omega, by omega, by omega, by omega, by omega, by omega, by omega, by omega, by omega, by omega, by omega, by omega, by omega, by omega, by omega, by omega, by omega, by omega, by omega, by omega, by omega, by omega, by omega, by omega, by omega, by omega, ?_⟩
  refine lz_clamp (by omega) (by omega) (lz_clamp (by omega) (by omega) ?_)
  refine ⟨by omega, by omega, 15, 3441, by omega, by omega, ?_⟩
  refine ⟨by omega, by omega, by omega, by omega, by omega, by omega, by omega, by omega, by omega, by omega, by omega, by omega, by omega, by omega, by omega, by omega, by omega, by omega, by omega, by omega, by omega, by omega, by omega, by omega, by omega, by omega, by omega, by omega, by omega, by omega, ?_⟩
  refine lz_clamp (by omega) (by omega) (lz_clamp (by omega) (by omega) ?_)
  have e3 : (2 : Int32) + 1 = nI 3 := rfl
  refine nm_r e3 (hc2 _ (hdn _ ?_))
  refine lc_if (lc_eq0 (by omega)) (fun z => ?_) (fun z => ?_)
  · exact lz_125 (post := fun r => r = 1) (nt := 1 + a) (tm := 1 + b) (R := 0) (q := fun _ _ => 0) (w := fun _ => 0) (t := fun _ => 0) (tb := fun _ => 0) (i := 3) rfl hL (by omega) (by omega) T0 T0 (by omega) G0 (by omega) A0
  · refine lz_add2 (nt := 1 + a) (tm := 1 + b) (R := 0) (n := 0) (q := fun _ _ => 0) (w := fun _ => 0) (t := fun _ => 0) G0 (by omega) A0 (fun R' q' r' xP' xK' xM' hG' h24' hA' hb => ?_)
    refine hb (tb := fun _ => 0) (fun rb xP2 xK2 xM2 => ⟨1 + b + 1, ?_⟩)
    exact lz_86 (post := fun r => r = 1) (nt := 1 + a) (tm := 1 + b) (w := fun _ => 0) (t := fun _ => 0) (tb := fun _ => 0) (i := 3) rfl hL (by omega) (by omega) T0 T0 (by omega) (1 + b) 0 R' q' _ _ _ _ _ _ _ _ _ _ _ _ _ _ _ _ _ _ _ _ _ _ _ _ _ _ _ _ _ _ _ _ _ _ (by omega) hG' h24' hA'
end LPG
end
