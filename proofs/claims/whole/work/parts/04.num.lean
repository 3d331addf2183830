section LCN
/-! rows of the kit, pasted -/
theorem pk_us {f : Nat → Int32} {k : Nat} {x : Int32} : upd f k x k = x := if_pos rfl
theorem pk_un {f : Nat → Int32} {k j : Nat} {x : Int32} (h : j ≠ k) : upd f k x j = f j := if_neg h
theorem pk_uLs {f : Nat → Int64} {k : Nat} {x : Int64} : vp_updL f k x k = x := if_pos rfl
theorem pk_uLn {f : Nat → Int64} {k j : Nat} {x : Int64} (h : j ≠ k) : vp_updL f k x j = f j := if_neg h
theorem pk_sub {a b : Nat} (h : b ≤ a) : nI a - nI b = nI (a - b) := by
  obtain ⟨c, rfl⟩ : ∃ c, a = c + b := ⟨a - b, by omega⟩
  rw [← nI_add, Int32.add_sub_cancel, Nat.add_sub_cancel]
theorem pk_m1 (n : Nat) : nI (n + 1) + (-1) = nI n := by
  rw [← nI_1, Int32.add_assoc, show (1 : Int32) + (-1) = 0 from rfl, Int32.add_zero]
theorem pk_mul (a b : Nat) : nI a * nI b = nI (a * b) := (Int32.ofNat_mul a b).symm
theorem pk_div {a d : Nat} (ha : a < 2 ^ 31) (h0 : 0 < d) (hd : d < 2 ^ 31) : nI a / nI d = nI (a / d) := by
  apply Int32.toInt_inj.mp
  rw [lg_idiv_nonneg (by rw [nI_toInt ha]; omega) (by rw [nI_toInt hd]; omega), nI_toInt ha, nI_toInt hd, nI_toInt (Nat.lt_of_le_of_lt (Nat.div_le_self a d) ha)]
  first | rfl | exact (Int.natCast_ediv _ _).symm
theorem pk_rem {a d : Nat} (ha : a < 2 ^ 31) (h0 : 0 < d) (hd : d < 2 ^ 31) : nI a - nI a / nI d * nI d = nI (a % d) := by
  rw [pk_div ha h0 hd, pk_mul, pk_sub (Nat.div_mul_le_self a d)]
  exact congrArg nI (by have := Nat.div_add_mod' a d; omega)
theorem pk_ix (x : Int32) {n : Nat} (hn : n < 2 ^ 31) : x < 0 ∨ nI n ≤ x ∨ ∃ j : Nat, j < n ∧ x = nI j := by
  by_cases h : x < 0
  · exact Or.inl h
  · obtain ⟨j, hj, rfl⟩ := nI_of h
    by_cases h2 : j < n
    · exact Or.inr (Or.inr ⟨j, h2, rfl⟩)
    · exact Or.inr (Or.inl (nI_le (by omega) hj))
theorem pk_le {x y : Int32} {A B : Prop} (a b : Nat) (f : a ≤ b → A) (g : b < a → B) (hx : x = nI a := by rfl) (hy : y = nI b := by rfl) (ha : a < 2 ^ 31 := by omega) (hb : b < 2 ^ 31 := by omega) : (x ≤ y → A) ∧ (¬ x ≤ y → B) := by
  subst hx hy
  rw [nI_leI ha hb]
  exact ⟨f, fun z => g (by omega)⟩
theorem pk_lt {x y : Int32} {A B : Prop} (a b : Nat) (f : a < b → A) (g : b ≤ a → B) (hx : x = nI a := by rfl) (hy : y = nI b := by rfl) (ha : a < 2 ^ 31 := by omega) (hb : b < 2 ^ 31 := by omega) : (x < y → A) ∧ (¬ x < y → B) := by
  subst hx hy
  rw [nI_ltI ha hb]
  exact ⟨f, fun z => g (by omega)⟩
theorem pk_eq {x y : Int32} {A B : Prop} (a b : Nat) (f : a = b → A) (g : a ≠ b → B) (hx : x = nI a := by rfl) (hy : y = nI b := by rfl) (ha : a < 2 ^ 31 := by omega) (hb : b < 2 ^ 31 := by omega) : (x = y → A) ∧ (¬ x = y → B) := by
  subst hx hy
  rw [nI_eq ha hb]
  exact ⟨f, g⟩
theorem pk_in {x : Int32} (n N : Nat) (h : n < N) (hx : x = nI n := by rfl) (hN : N < 2 ^ 31 := by omega) : vp_in x N := by
  subst hx
  exact vp_in_nI h hN
theorem pk_cl {x : Int32} (n : Nat) (hx : x = nI n := by rfl) (h : n < 2 ^ 31 := by omega) : x.toNatClampNeg = n := by
  subst hx
  exact nI_clamp h
theorem pk_lT {n : Nat} (h : n < 2 ^ 63) : (lN n).toInt = (n : Int) := lg_ofNat_toInt h
theorem pk_lLT {a b : Nat} (ha : a < 2 ^ 63) (hb : b < 2 ^ 63) : lN a < lN b ↔ a < b := by
  rw [Int64.lt_iff_toInt_lt, pk_lT ha, pk_lT hb]; omega
theorem pk_lLE {a b : Nat} (ha : a < 2 ^ 63) (hb : b < 2 ^ 63) : lN a ≤ lN b ↔ a ≤ b := by
  rw [Int64.le_iff_toInt_le, pk_lT ha, pk_lT hb]; omega
theorem pk_lEQ {a b : Nat} (ha : a < 2 ^ 63) (hb : b < 2 ^ 63) : lN a = lN b ↔ a = b := by
  rw [← Int64.toInt_inj, pk_lT ha, pk_lT hb]; omega
theorem pk_lDiv {a b : Nat} (ha : a < 2 ^ 63) (h0 : 0 < b) (hb : b < 2 ^ 63) : lN a / lN b = lN (a / b) := by
  apply Int64.toInt_inj.mp
  rw [lg_ldiv_nonneg (by rw [pk_lT ha]; omega) (by rw [pk_lT hb]; omega), pk_lT ha, pk_lT hb, pk_lT (Nat.lt_of_le_of_lt (Nat.div_le_self a b) ha)]
  rfl
theorem pk_lRem {a b : Nat} (ha : a < 2 ^ 63) (h0 : 0 < b) (hb : b < 2 ^ 63) : lN a - lN a / lN b * lN b = lN (a % b) := by
  rw [pk_lDiv ha h0 hb, lN_mul, lN_sub (Nat.div_mul_le_self a b)]
  exact congrArg lN (by have := Nat.div_add_mod' a b; omega)
def bt (x : Int32) (i : Nat) : Bool := x.toBitVec.getLsbD i
theorem b_ext {x y : Int32} (h : ∀ i, i < 32 → bt x i = bt y i) : x = y := Int32.toBitVec_inj.mp (BitVec.eq_of_getLsbD_eq (fun i hi => h i hi))
theorem b_or (x y : Int32) (i : Nat) : bt (x ||| y) i = (bt x i || bt y i) := by unfold bt; rw [Int32.toBitVec_or, BitVec.getLsbD_or]
theorem b_and (x y : Int32) (i : Nat) : bt (x &&& y) i = (bt x i && bt y i) := by unfold bt; rw [Int32.toBitVec_and, BitVec.getLsbD_and]
theorem b_big {x : Int32} {i : Nat} (h : 32 ≤ i) : bt x i = false := BitVec.getLsbD_of_ge _ _ h
theorem b_0 (i : Nat) : bt 0 i = false := BitVec.getLsbD_zero
theorem s_l : ∀ n, n < 32 → ((nI n &&& 31).toBitVec.smod 32).toNat = n := by decide +kernel
theorem b_shl (n : Nat) (hn : n < 32) (x : Int32) {i : Nat} (hi : i < 32) : bt (x <<< (nI n &&& 31)) i = (decide (n ≤ i) && bt x (i - n)) := by
  unfold bt
  rw [Int32.toBitVec_shiftLeft]
  show (x.toBitVec <<< ((nI n &&& 31).toBitVec.smod 32).toNat).getLsbD i = _
  rw [s_l n hn, BitVec.getLsbD_shiftLeft]
  rcases Nat.lt_or_ge i n with h | h
  · simp [h, Nat.not_le.mpr h]
  · simp [hi, h, Nat.not_lt.mpr h]
theorem b_sshr (n : Nat) (hn : n < 32) (x : Int32) {i : Nat} (hi : i < 32) : bt (x >>> (nI n &&& 31)) i = if n + i < 32 then bt x (n + i) else bt x 31 := by
  unfold bt
  rw [Int32.toBitVec_shiftRight]
  show (x.toBitVec.sshiftRight ((nI n &&& 31).toBitVec.smod 32).toNat).getLsbD i = _
  rw [s_l n hn, BitVec.getLsbD_sshiftRight, BitVec.msb_eq_getLsbD_last]
  simp [hi]
/-! numbers of this claim -/
def lc_cd (c : Nat) : Int32 := if c = 16 then -1 else nI c
theorem lc_cd_16 : lc_cd 16 = -1 := if_pos rfl
theorem lc_cd_n {c : Nat} (h : ¬ c = 16) : lc_cd c = nI c := if_neg h
theorem lc_m1 {a : Nat} (h : a < 2 ^ 31) : ¬ nI a = -1 := by
  intro e
  have := nI_pos (n := a) h
  rw [e] at this
  exact this (by decide)
theorem lc_cd_e {c : Nat} (h : c ≤ 16) : lc_cd c = -1 ↔ c = 16 := by
  constructor
  · intro z
    refine Decidable.byContradiction fun hc => ?_
    rw [lc_cd_n hc] at z
    exact lc_m1 (by omega) z
  · intro z; subst z; exact lc_cd_16
def lc_rc (q : Nat → Nat → Nat) : Nat → Int32 := fun j => lc_cd (q (j / 4) (j % 4))
def lc_ra (q : Nat → Nat → Nat) (p : Nat) : Nat → Int32 := fun r => lc_cd (q r p)
def lc_tr (t : Nat → Nat) : Nat → Int32 := fun j => nI (t j)
theorem lc_rc_0 {q : Nat → Nat → Nat} {r : Nat} : lc_rc q (r * 4) = lc_cd (q r 0) := by
  unfold lc_rc; rw [show r * 4 / 4 = r by omega, show r * 4 % 4 = 0 by omega]
theorem lc_rc_p {q : Nat → Nat → Nat} {r p : Nat} (hp : p < 4) : lc_rc q (r * 4 + p) = lc_cd (q r p) := by
  unfold lc_rc; rw [show (r * 4 + p) / 4 = r by omega, show (r * 4 + p) % 4 = p by omega]
theorem lc_x4 (r : Nat) : nI r * 4 = nI (r * 4) := pk_mul r 4
theorem lc_x13 (r : Nat) : nI r * 13 = nI (r * 13) := pk_mul r 13
theorem lc_a2 (r : Nat) : nI r + 2 = nI (r + 2) := nI_add r 2
theorem lc_a3 (r : Nat) : nI r + 3 = nI (r + 3) := nI_add r 3
theorem lc_ixI (x s e : Nat) : nI x * 13 + nI s = nI (x * 13 + s) := by rw [lc_x13, nI_add]
theorem lc_ixN (x s e : Nat) : (nI x * 13 + nI s) * 13 + nI e = nI (lc_ix x s e) := by
  rw [lc_ixI x s e, lc_x13, nI_add]; rfl
theorem lc_tr_up {t : Nat → Nat} {k v : Nat} : upd (lc_tr t) k (nI v) = lc_tr (lc_up t k v) := by
  funext j
  unfold upd lc_tr lc_up
  split <;> rfl
theorem lc_0le {a : Nat} (h : a < 2 ^ 31) : nI a ≤ 0 ↔ a = 0 := by
  rw [← nI_0, nI_leI h (by omega)]; omega
theorem lc_eq0 {a : Nat} (h : a < 2 ^ 31) : nI a = 0 ↔ a = 0 := by
  rw [← nI_0, nI_eq h (by omega)]
/-- a branch by its meaning -/
theorem lc_if {c d A B : Prop} (e : c ↔ d) (f : d → A) (g : ¬ d → B) : (c → A) ∧ (¬ c → B) := ⟨fun h => f (e.mp h), fun h => g (fun z => h (e.mpr z))⟩
theorem lc_at {α : Sort _} {P : α → Prop} {a b : α} (e : a = b) (h : P b) : P a := e ▸ h
/-! bits -/
theorem lc_b_1 : ∀ j, j < 32 → bt 1 j = decide (j = 0) := by decide +kernel
theorem lc_b1 {a i : Nat} (ha : a < 32) (hi : i < 32) : bt ((1 : Int32) <<< (nI a &&& 31)) i = decide (i = a) := by
  rw [b_shl a ha 1 hi]
  by_cases h : a ≤ i
  · rw [lc_b_1 _ (by omega), decide_eq_true h, Bool.true_and]
    exact decide_eq_decide.mpr (by omega)
  · rw [decide_eq_false h, Bool.false_and, decide_eq_false (by omega)]
theorem lc_hb {K : Int32} {i : Nat} (hi : i < 31) : ((K >>> (nI i &&& 31)) &&& 1) = 0 ↔ bt K i = false := by
  have h0 : bt (K >>> (nI i &&& 31)) 0 = bt K i := by
    rw [b_sshr i (by omega) K (by omega), if_pos (by omega), Nat.add_zero]
  constructor
  · intro h
    have e : bt (K >>> (nI i &&& 31) &&& 1) 0 = bt 0 0 := by rw [h]
    rw [b_and, h0, b_0, lc_b_1 0 (by omega)] at e
    simpa using e
  · intro h
    refine b_ext ?_
    intro j hj
    rw [b_and, b_0, lc_b_1 j hj]
    by_cases e : j = 0
    · subst e; rw [h0, h]; rfl
    · rw [decide_eq_false e, Bool.and_false]
def lc_bs (K : Int32) (S : Nat → Bool) : Prop := ∀ i, i < 16 → bt K i = S i
theorem lc_bs_or {K : Int32} {S : Nat → Bool} {c : Nat} (h : lc_bs K S) (hc : c < 16) : lc_bs (K ||| ((1 : Int32) <<< (nI c &&& 31))) (fun i => S i || decide (i = c)) := by
  intro i hi
  rw [b_or, h i hi, lc_b1 (by omega) (by omega)]
/-! longs -/
theorem lc_cpL {x : Nat} (h : x < 2 ^ 62) {P : Int64 → Prop} (hp : P (lN (lc_cp x))) : (lN x ≤ 1000000 → P (lN x)) ∧ (¬ lN x ≤ 1000000 → P 1000000) := by
  have e : (lN x ≤ 1000000) ↔ x ≤ 1000000 := pk_lLE (a := x) (b := 1000000) (by omega) (by omega)
  refine lc_if e (fun z => ?_) (fun z => ?_)
  · rw [lc_cp_id z] at hp; exact hp
  · have : lc_cp x = 1000000 := if_neg (by omega)
    rw [this] at hp; exact hp
end LCN
