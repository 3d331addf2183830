section LPC
abbrev lc_JL : Type := Int32 → Int32 → Int32 → Int32 → Int32 → Int32 → Int32 → Int32 → Int32 → Int32 → (Nat → Int32) → (Nat → Int32) → (Nat → Int32) → (Nat → Int32) → (Nat → Int32) → (Nat → Int32) → (Nat → Int32) → (Nat → Int32) → (Nat → Int32) → (Nat → Int32) → (Nat → Int32) → (Nat → Int32) → (Nat → Int32) → (Nat → Int32) → (Nat → Int32) → Int32 → Int32 → Int32 → Int32 → Int32 → Int32 → Int32 → Int32 → Int32 → (Nat → Int32) → (Nat → Int32) → (Nat → Int32) → (Nat → Int32) → (Nat → Int32) → (Nat → Int32) → (Nat → Int32) → (Nat → Int32) → (Nat → Int32) → (Nat → Int32) → (Nat → Int32) → (Nat → Int32) → (Nat → Int32) → (Nat → Int32) → (Nat → Int32) → Prop
abbrev lc_JM : Type := Int32 → Int32 → Int32 → Int32 → Int32 → Int32 → Int32 → Int32 → Int32 → Int32 → Int32 → (Nat → Int32) → (Nat → Int32) → (Nat → Int32) → (Nat → Int32) → (Nat → Int32) → (Nat → Int32) → (Nat → Int32) → (Nat → Int32) → (Nat → Int32) → (Nat → Int32) → (Nat → Int32) → (Nat → Int32) → (Nat → Int32) → (Nat → Int32) → (Nat → Int32) → Int32 → Int32 → Int32 → Int32 → Int32 → Int32 → Int32 → Int32 → Int32 → (Nat → Int32) → (Nat → Int32) → (Nat → Int32) → (Nat → Int32) → (Nat → Int32) → (Nat → Int32) → (Nat → Int32) → (Nat → Int32) → (Nat → Int32) → (Nat → Int32) → (Nat → Int32) → (Nat → Int32) → (Nat → Int32) → (Nat → Int32) → (Nat → Int32) → Prop
variable {q : Nat → Nat → Nat} {w : Nat → Int32} {t tb : Nat → Nat} {nt tm R n : Nat} {rk : Nat → Nat}
variable {xP xC xK xM xL : Int32} {ul wy oR oS oE oD gR gP gS gE gK gD : Nat → Int32}
variable {xPb xCb xKb xMb xLb : Int32} {ulb wyb oRb oSb oEb oDb gRb gPb gSb gEb gKb gDb : Nat → Int32}
/-! two trees compared -/
theorem lz_1004 {post : Int32 → Prop} {L : Nat} {xs : Nat → Int32} {J : lc_JL} {x7 x8 : Int32} {j kc ks : Nat} (hJ : J (nI (j + 1)) (nI nt) (nI tm) (nI R) (nI n) xP xC xK xM xL (lc_rc q) w ul (lc_tr t) wy oR oS oE oD gR gP gS gE gK gD (nI nt) (nI tm) (nI R) (nI n) xPb xCb xKb xMb xLb (lc_rc q) w ulb (lc_tr tb) wyb oRb oSb oEb oDb gRb gPb gSb gEb gKb gDb) : wL_law_1004 post L xs J x7 x8 (nI j) 1 kc ks (nI nt) (nI tm) (nI R) (nI n) xP xC xK xM xL (lc_rc q) w ul (lc_tr t) wy oR oS oE oD gR gP gS gE gK gD (nI nt) (nI tm) (nI R) (nI n) xPb xCb xKb xMb xLb (lc_rc q) w ulb (lc_tr tb) wyb oRb oSb oEb oDb gRb gPb gSb gEb gKb gDb := by
  unfold wL_law_1004
  exact br_t rfl (nm_r (nI_1 j) hJ)
theorem lz_892s {post : Int32 → Prop} {L : Nat} {xs : Nat → Int32} {J : lc_JL} {x7 x8 x14 x15 : Int32} {j kc ks N : Nat} (hJ : J (nI (j + 1)) (nI nt) (nI tm) (nI R) (nI n) xP xC xK xM xL (lc_rc q) w ul (lc_tr t) wy oR oS oE oD gR gP gS gE gK gD (nI nt) (nI tm) (nI R) (nI n) xPb xCb xKb xMb xLb (lc_rc q) w ulb (lc_tr tb) wyb oRb oSb oEb oDb gRb gPb gSb gEb gKb gDb) : wL_law_892 post L xs J x7 x8 (nI j) x14 kc ks (nI nt) (nI tm) (nI R) (nI n) xP xC xK xM xL (lc_rc q) w ul (lc_tr t) wy oR oS oE oD gR gP gS gE gK gD (nI nt) (nI tm) (nI R) (nI n) xPb xCb xKb xMb xLb (lc_rc q) w ulb (lc_tr tb) wyb oRb oSb oEb oDb gRb gPb gSb gEb gKb gDb (N + 1) 1 x15 := by
  rw [wL_law_892]
  exact br_c (fun _ => lz_1004 hJ) (fun _ => br_f (by decide) (lz_1004 hJ))
theorem lz_892 {post : Int32 → Prop} {L : Nat} {xs : Nat → Int32} {J : lc_JL} {x7 x8 : Int32} {j kc ks lim : Nat} {La Lb : List lc_N} (h24 : R ≤ 24) (hn : n ≤ 12) (hMa : La.length ≤ 196) (hMb : Lb.length ≤ 196) (hna : lc_nd oR oS oE oD La) (hnb : lc_nd oRb oSb oEb oDb Lb) (hva : ∀ v ∈ La, lc_nv R n v) (hvb : ∀ v ∈ Lb, lc_nv R n v) (hlim : ∀ i, i < La.length → i < Lb.length → i < lim) (hl2 : lim ≤ 196) (hJ : J (nI (j + 1)) (nI nt) (nI tm) (nI R) (nI n) xP xC xK (nI La.length) xL (lc_rc q) w ul (lc_tr t) wy oR oS oE oD gR gP gS gE gK gD (nI nt) (nI tm) (nI R) (nI n) xPb xCb xKb (nI Lb.length) xLb (lc_rc q) w ulb (lc_tr tb) wyb oRb oSb oEb oDb gRb gPb gSb gEb gKb gDb) :
    ∀ (B A : List lc_N) i N, Lb.drop i = B → La.drop i = A → lc_lx B A → B.length + 2 ≤ N → wL_law_892 post L xs J x7 x8 (nI j) (nI lim) kc ks (nI nt) (nI tm) (nI R) (nI n) xP xC xK (nI La.length) xL (lc_rc q) w ul (lc_tr t) wy oR oS oE oD gR gP gS gE gK gD (nI nt) (nI tm) (nI R) (nI n) xPb xCb xKb (nI Lb.length) xLb (lc_rc q) w ulb (lc_tr tb) wyb oRb oSb oEb oDb gRb gPb gSb gEb gKb gDb N 0 (nI i) := by
  intro B
  induction B with
  | nil => intro A i N h1 h2 h3; cases A <;> exact absurd h3 id
  | cons vb B ih =>
    intro A i N h1 h2 h3 hN
    cases A with
    | nil => exact absurd h3 id
    | cons va A =>
      obtain ⟨b1, b2, b3⟩ := lc_dr0 h1
      obtain ⟨a1, a2, a3⟩ := lc_dr0 h2
      obtain ⟨va1, va2, va3, -⟩ := hva va (lc_mem a1)
      obtain ⟨vb1, vb2, vb3, -⟩ := hvb vb (lc_mem b1)
      have hi := hlim i a2 b2
      have hN' : B.length + 1 + 2 ≤ N := hN
      obtain ⟨N1, rfl⟩ : ∃ N1, N = N1 + 1 + 1 := ⟨N - 2, by omega⟩
      rw [wL_law_892]
      refine br_f (nI_ge hi (by omega)) (br_t rfl ?_)
      refine lz_nE hMb hnb b1 ?_
      refine lz_nS hMb hnb b1 (nm_r (pk_sub (by omega)) ?_)
      refine lz_nE hMa hna a1 ?_
      refine lz_nS hMa hna a1 (nm_r (pk_sub (by omega)) ?_)
      rcases h3 with (h3 | ⟨h3, h4⟩) | ⟨h3, h4, h5⟩
      · refine br_f (fun z => ?_) (br_f (nI_ge h3 (by omega)) (nm_r (nI_1 i) (lz_892s hJ)))
        have := (nI_eq (by omega) (by omega)).mp z
        omega
      · refine br_t (by rw [h3]) ?_
        refine lz_nR hMb hnb b1 ?_
        refine lz_nR hMa hna a1 ?_
        refine br_f (fun z => ?_) (br_f (nI_ge h4 (by omega)) (nm_r (nI_1 i) (lz_892s hJ)))
        have := (nI_eq (by omega) (by omega)).mp z
        omega
      · refine br_t (by rw [h3]) ?_
        refine lz_nR hMb hnb b1 ?_
        refine lz_nR hMa hna a1 ?_
        exact br_t (by rw [h4]) (nm_r (nI_1 i) (ih A (i + 1) (N1 + 1) b3 a3 h5 (by omega)))
end LPC
