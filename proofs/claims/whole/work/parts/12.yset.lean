/-! the reference: onFrom, reachOf, fill, startsOf -/
theorem yi_11 (q k : Nat) : 11 * nI q + nI k = nI (11 * q + k) := by rw [xi_c11, pk_mul, nI_add]
theorem yi_in {q k N : Nat} (h : 11 * q + k < N) (hN : N < 2 ^ 31) : vp_in (11 * nI q + nI k) N := by
  rw [yi_11]
  exact vp_in_nI h hN
theorem yi_cl {q k : Nat} (h : 11 * q + k < 2 ^ 31) : (11 * nI q + nI k).toNatClampNeg = 11 * q + k := by
  rw [yi_11]
  exact nI_clamp h
def yr_ok (re : Nat → Int32) (T : Nat → Nat → List ru_R) (n m : Nat) : Prop := ∀ q, q < m → ∀ j, j ≤ n → ∀ e, bt (re (11 * q + j)) e = ru_any (T q j) e
section
variable {sp de ro ln wa : Int32} {dk df ds dg sk ki fi se ty re ta wn gr : Nat → Int32}
theorem yl_o5 {post : Int32 → Prop} {q n : Nat} {x : Int32} (hq : q < 16) (hn : n ≤ 10) (hp : ∀ y : Int32, (∀ e, bt y e = true ↔ ∃ k, k ≤ n ∧ bt x k = true ∧ bt (re (11 * q + k)) e = true) → post y) :
    ∀ (d k : Nat) (y : Int32), n + 1 < d + k → k ≤ n + 1 → (∀ e, bt y e = true ↔ ∃ j, j < k ∧ bt x j = true ∧ bt (re (11 * q + j)) e = true) → wY_onFrom_5 post (nI q) x sp de ro (nI n) wa dk df ds dg sk ki fi se ty re ta wn gr d y (nI k) := by
  intro d
  induction d with
  | zero => intro k y h1 h2; omega
  | succ d ih =>
    intro k y h1 h2 hy
    rw [wY_onFrom_5]
    by_cases w : k = n + 1
    · subst w
      exact br_t (nI_lt (by omega) (by omega)) (hp y (fun e => (hy e).trans ⟨fun ⟨j, a, b⟩ => ⟨j, by omega, b⟩, fun ⟨j, a, b⟩ => ⟨j, by omega, b⟩⟩))
    · refine br_f (nI_nlt (by omega) (by omega)) ?_
      by_cases b : bt x k = true
      · refine br_t ((yb_t x (by omega)).mpr b) ⟨yi_in (by omega) (by omega), nm_r (e' := y ||| re (11 * q + k)) (by rw [yi_cl (by omega)]) (nm_r (nI_1 k) (ih (k + 1) _ (by omega) (by omega) (fun e => ?_)))⟩
        rw [b_or, Bool.or_eq_true, hy]
        constructor
        · rintro (⟨j, h3, h4⟩ | h3)
          · exact ⟨j, by omega, h4⟩
          · exact ⟨k, by omega, b, h3⟩
        · rintro ⟨j, h3, h4⟩
          by_cases c : j = k
          · rw [c] at h4
            exact Or.inr h4.2
          · exact Or.inl ⟨j, by omega, h4⟩
      · refine br_f (fun h => b ((yb_t x (by omega)).mp h)) (nm_r (nI_1 k) (ih (k + 1) _ (by omega) (by omega) (fun e => (hy e).trans ?_)))
        constructor
        · rintro ⟨j, h3, h4⟩
          exact ⟨j, by omega, h4⟩
        · rintro ⟨j, h3, h4⟩
          by_cases c : j = k
          · rw [c] at h4
            exact absurd h4.1 b
          · exact ⟨j, by omega, h4⟩
theorem yl_on {post : Int32 → Prop} {q n : Nat} {x p0 : Int32} (e0 : p0 = nI q) (hq : q < 16) (hn : n ≤ 10) (hp : ∀ y : Int32, (∀ e, bt y e = true ↔ ∃ k, k ≤ n ∧ bt x k = true ∧ bt (re (11 * q + k)) e = true) → post y) : wpY_onFrom post (sp, de, ro, nI n, wa, dk, df, ds, dg, sk, ki, fi, se, ty, re, ta, wn, gr) p0 x := by
  subst e0
  exact ⟨n + 2, yl_o5 hq hn hp (n + 2) 0 0 (by omega) (by omega) (fun e => ⟨fun h => (by rw [b_0] at h; cases h), fun ⟨j, h, _⟩ => absurd h (Nat.not_lt_zero j)⟩)⟩
theorem yl_reach {post : Int32 → Prop} {K F S : Nat → Nat} {n m p i : Nat} (wf : ru_wf K F S m) (hm : m ≤ 16) (hpm : p < m) (hi : i ≤ n) (hn : n ≤ 10) (hk : ki p = nI (K p)) (hf : 5 ≤ K p → fi p = nI (F p) ∧ se p = nI (S p))
    (hlow : ∀ q, q < p → ∀ j, j ≤ n → ∀ e, bt (re (11 * q + j)) e = ru_any (ru_tb K F S ty n q j) e) (hsame : ∀ j, i < j → j ≤ n → ∀ e, bt (re (11 * p + j)) e = ru_any (ru_tb K F S ty n p j) e)
    (hp : ∀ y : Int32, (∀ e, bt y e = ru_any (ru_tb K F S ty n p i) e) → post y) : wpY_reachOf post (sp, de, ro, nI n, wa, dk, df, ds, dg, sk, ki, fi, se, ty, re, ta, wn, gr) (nI p) (nI i) := by
  have cp : (nI p).toNatClampNeg = p := nI_clamp (by omega)
  have ci : (nI i).toNatClampNeg = i := nI_clamp (by omega)
  have vp : vp_in (nI p) 16 := vp_in_nI (by omega) (by omega)
  have hK := (wf p hpm).1
  have h5 := (wf p hpm).2
  refine ⟨vp, nm_r (e' := nI (K p)) (by rw [cp]; exact hk) ?_⟩
  by_cases a : K p < 4
  · have q3 := ru_q3 (t := ty) wf hn hm hpm hi a
    refine br_f (nI_ge (b := 4) a (by decide)) ?_
    by_cases z : i < n
    · refine br_f (nI_ge z (by omega)) ?_
      by_cases c : K p = 3
      · refine br_t (by rw [c]; rfl) (hp _ (fun e => ?_))
        rw [yb_two (by omega)]
        exact ((q3 e).1 ⟨z, Or.inl c⟩).symm
      · refine br_f (fun h => c ((nI_eq (b := 3) (by omega) (by decide)).mp h)) ⟨vp_in_nI (by omega) (by omega), ?_⟩
        rw [ci]
        refine br_c (fun w => hp _ (fun e => ?_)) (fun w => hp _ (fun e => ?_))
        · rw [yb_two (by omega)]
          exact ((q3 e).1 ⟨z, Or.inr w⟩).symm
        · rw [b_0]
          exact ((q3 e).2 (fun h => h.2.elim c w)).symm
    · refine br_t (nI_le (by omega) (by omega)) (hp _ (fun e => ?_))
      rw [b_0]
      exact ((q3 e).2 (fun h => z h.1)).symm
  · refine br_t (nI_le (a := 4) (by omega) (by omega)) ?_
    by_cases c4 : K p = 4
    · refine br_t (by rw [c4]; rfl) (hp _ (fun e => ?_))
      rw [yb_one (by omega)]
      exact (ru_q4 wf hn hm hpm hi c4 e).symm
    · have h5 := h5 (by omega)
      have hf := hf (by omega)
      have ef : fi (nI p).toNatClampNeg = nI (F p) := by rw [cp]; exact hf.1
      have es : se (nI p).toNatClampNeg = nI (S p) := by rw [cp]; exact hf.2
      have hx := hlow (F p) h5.1 i hi
      refine br_f (fun h => c4 ((nI_eq (b := 4) (by omega) (by decide)).mp h)) ⟨vp, by rw [ef]; exact yi_in (by omega) (by omega), nm_r (e' := re (11 * F p + i)) (by rw [ef, yi_cl (by omega)]) ?_⟩
      by_cases c5 : K p = 5
      · refine br_t (by rw [c5]; rfl) ⟨vp, yl_on es (by omega) hn (fun y hy => hp y (ru_q5 wf hn hm hpm hi c5 hx (fun e => (hy e).trans ?_)))⟩
        constructor
        · rintro ⟨k, g1, g2, g3⟩
          exact ⟨k, g1, g2, by rw [← hlow (S p) h5.2 k g1 e]; exact g3⟩
        · rintro ⟨k, g1, g2, g3⟩
          exact ⟨k, g1, g2, by rw [hlow (S p) h5.2 k g1 e]; exact g3⟩
      · refine br_f (fun h => c5 ((nI_eq (b := 5) (by omega) (by decide)).mp h)) ?_
        by_cases c6 : K p = 6
        · refine br_t (by rw [c6]; rfl) ⟨vp, by rw [es]; exact yi_in (by omega) (by omega), ?_⟩
          rw [es, yi_cl (by omega)]
          exact hp _ (ru_q6 wf hn hm hpm hi c6 hx (hlow (S p) h5.2 i hi))
        · refine br_f (fun h => c6 ((nI_eq (b := 6) (by omega) (by decide)).mp h)) ?_
          by_cases c8 : K p ≤ 8
          · refine br_t (nI_le (b := 8) c8 (by decide)) (yl_on rfl (by omega) hn (fun y hy => hp _ (ru_q78 wf hn hm hpm hi (by omega) (fun e => yb_one (by omega) e) (x := re (11 * F p + i) &&& ((((2 : Int32) <<< (nI i &&& 31)) - 1) ^^^ (-1))) (fun k hk => ?_) (fun e => (hy e).trans ?_))))
            · rw [b_and, hx, yb_hi i (by omega) k hk]
            · have hgt : ∀ k, k ≤ n → bt (re (11 * F p + i) &&& ((((2 : Int32) <<< (nI i &&& 31)) - 1) ^^^ (-1))) k = true → i < k := fun k g1 g2 => by
                rw [b_and, yb_hi i (by omega) k (by omega)] at g2
                exact of_decide_eq_true ((Bool.and_eq_true _ _).mp g2).2
              constructor
              · rintro ⟨k, g1, g2, g3⟩
                exact ⟨k, g1, g2, by rw [← hsame k (hgt k g1 g2) g1 e]; exact g3⟩
              · rintro ⟨k, g1, g2, g3⟩
                exact ⟨k, g1, g2, by rw [hsame k (hgt k g1 g2) g1 e]; exact g3⟩
          · exact br_f (nI_ge (a := 8) (by omega) (by omega)) (hp _ (ru_q9 wf hn hm hpm hi (by omega) hx))
theorem yl_f15 {post : SY → Prop} {K F S : Nat → Nat} {n m p : Nat} {J : Int32 → (Nat → Int32) → (Nat → Int32) → (Nat → Int32) → (Nat → Int32) → (Nat → Int32) → (Nat → Int32) → (Nat → Int32) → (Nat → Int32) → (Nat → Int32) → (Nat → Int32) → (Nat → Int32) → (Nat → Int32) → (Nat → Int32) → Prop}
    (wf : ru_wf K F S m) (hm : m ≤ 16) (hpm : p < m) (hn : n ≤ 10) (hk : ki p = nI (K p)) (hf : 5 ≤ K p → fi p = nI (F p) ∧ se p = nI (S p))
    (hJ : ∀ re', yr_ok re' (ru_tb K F S ty n) n (p + 1) → J (nI (p + 1)) dk df ds dg sk ki fi se ty re' ta wn gr) :
    ∀ (d : Nat) (re : Nat → Int32), d ≤ n + 1 → yr_ok re (ru_tb K F S ty n) n p → (∀ j, d ≤ j → j ≤ n → ∀ e, bt (re (11 * p + j)) e = ru_any (ru_tb K F S ty n p j) e) → wY_fill_15 post J (nI p) sp de ro (nI n) wa (d + 1) (nI d + (-1)) dk df ds dg sk ki fi se ty re ta wn gr := by
  intro d
  induction d with
  | zero =>
    intro re _ h1 h2
    rw [wY_fill_15]
    refine br_t (by decide) (nm_r (nI_1 p) (hJ re (fun q hq j hj => ?_)))
    by_cases w : q = p
    · rw [w]
      exact h2 j (by omega) hj
    · exact h1 q (by omega) j hj
  | succ d ih =>
    intro re hd h1 h2
    rw [wY_fill_15, pk_m1 d]
    refine br_f (nI_pos (by omega)) (yl_reach wf hm hpm (by omega) hn hk hf h1 (fun j hj1 hj2 => h2 j (by omega) hj2) (fun y hy => ⟨yi_in (by omega) (by omega), nm_r (e' := upd re (11 * p + d) y) (by rw [yi_cl (by omega)]) (nm_e (ih _ (by omega) (fun q hq j hj e => ?_) (fun j hj1 hj2 e => ?_)))⟩))
    · rw [pk_un (by omega)]
      exact h1 q hq j hj e
    · by_cases w : j = d
      · rw [w, pk_us]
        exact hy e
      · rw [pk_un (by omega)]
        exact h2 j (by omega) hj2 e
theorem yl_f2 {post : SY → Prop} {K F S : Nat → Nat} {n r : Nat} (wf : ru_wf K F S (r + 1)) (hm : r < 16) (hn : n ≤ 10) (hk : ∀ p, p < r + 1 → ki p = nI (K p) ∧ (5 ≤ K p → fi p = nI (F p) ∧ se p = nI (S p)))
    (hp : ∀ re', yr_ok re' (ru_tb K F S ty n) n (r + 1) → post (sp, de, nI r, nI n, wa, dk, df, ds, dg, sk, ki, fi, se, ty, re', ta, wn, gr)) :
    ∀ (d p : Nat) (re : Nat → Int32), r + 1 < d + p → p ≤ r + 1 → yr_ok re (ru_tb K F S ty n) n p → wY_fill_2 post sp de (nI r) (nI n) wa d (nI p) dk df ds dg sk ki fi se ty re ta wn gr := by
  intro d
  induction d with
  | zero => intro p re h1 h2; omega
  | succ d ih =>
    intro p re h1 h2 h3
    rw [wY_fill_2]
    by_cases w : p = r + 1
    · subst w
      exact br_t (nI_lt (by omega) (by omega)) (hp re h3)
    · refine br_f (nI_nlt (by omega) (by omega)) ⟨n + 1 + 1, ?_⟩
      have h := yl_f15 (post := post) (sp := sp) (de := de) (ro := nI r) (wa := wa) (J := wY_fill_2 post sp de (nI r) (nI n) wa d) wf (by omega) (show p < r + 1 by omega) hn (hk p (by omega)).1 (hk p (by omega)).2 (fun re' h4 => ih (p + 1) re' (by omega) (by omega) h4) (n + 1) re (by omega) h3 (fun j hj1 hj2 => by omega)
      rw [pk_m1 n] at h
      exact h
theorem yl_fill {post : SY → Prop} {K F S : Nat → Nat} {n r : Nat} (wf : ru_wf K F S (r + 1)) (hm : r < 16) (hn : n ≤ 10) (hk : ∀ p, p < r + 1 → ki p = nI (K p) ∧ (5 ≤ K p → fi p = nI (F p) ∧ se p = nI (S p)))
    (hp : ∀ re', yr_ok re' (ru_tb K F S ty n) n (r + 1) → post (sp, de, nI r, nI n, wa, dk, df, ds, dg, sk, ki, fi, se, ty, re', ta, wn, gr)) : wpY_fill post (sp, de, nI r, nI n, wa, dk, df, ds, dg, sk, ki, fi, se, ty, re, ta, wn, gr) :=
  ⟨r + 1 + 1, yl_f2 wf hm hn hk hp (r + 1 + 1) 0 re (by omega) (by omega) (fun q hq => by omega)⟩
theorem yl_s5 {post : Int32 → Prop} {q n m : Nat} {x : Int32} {T : Nat → Nat → List ru_R} (hm : m ≤ 16) (hq : q < m) (hn : n ≤ 10) (hr : yr_ok re T n m) (hp : ∀ y : Int32, (∀ j, j < 32 → bt y j = (decide (j < n + 1) && (ru_sel (bt x) (T q j)).isSome)) → post y) :
    ∀ (d k : Nat) (y : Int32), n + 1 < d + k → k ≤ n + 1 → (∀ j, j < 32 → bt y j = (decide (j < k) && (ru_sel (bt x) (T q j)).isSome)) → wY_startsOf_5 post (nI q) x sp de ro (nI n) wa dk df ds dg sk ki fi se ty re ta wn gr d y (nI k) := by
  intro d
  induction d with
  | zero => intro k y h1 h2; omega
  | succ d ih =>
    intro k y h1 h2 hy
    rw [wY_startsOf_5]
    by_cases w : k = n + 1
    · subst w
      exact br_t (nI_lt (by omega) (by omega)) (hp y hy)
    · refine br_f (nI_nlt (by omega) (by omega)) ⟨yi_in (by omega) (by omega), ?_⟩
      rw [yi_cl (by omega)]
      have hs := yb_sel (x := x) (hr q hq k (by omega))
      by_cases b : ru_sel (bt x) (T q k) = none
      · refine br_t (hs.mpr b) (nm_r (nI_1 k) (ih (k + 1) _ (by omega) (by omega) (fun j hj => ?_)))
        rw [hy j hj]
        by_cases c : j = k
        · rw [c, b]
          simp
        · rw [show decide (j < k + 1) = decide (j < k) from decide_eq_decide.mpr (by omega)]
      · refine br_f (fun h => b (hs.mp h)) (nm_r (e' := y ||| ((1 : Int32) <<< (nI k &&& 31))) rfl (nm_r (nI_1 k) (ih (k + 1) _ (by omega) (by omega) (fun j hj => ?_))))
        rw [b_or, yb_one (by omega), hy j hj]
        by_cases c : j = k
        · rw [c, decide_eq_true (show k < k + 1 by omega), Option.isSome_iff_ne_none.mpr b]
          simp
        · rw [show decide (j < k + 1) = decide (j < k) from decide_eq_decide.mpr (by omega), beq_eq_false_iff_ne.mpr c, Bool.or_false]
theorem yl_starts {post : Int32 → Prop} {q n m : Nat} {x p0 : Int32} {T : Nat → Nat → List ru_R} (e0 : p0 = nI q) (hm : m ≤ 16) (hq : q < m) (hn : n ≤ 10) (hr : yr_ok re T n m) (hp : ∀ y : Int32, (∀ k, k ≤ n → bt y k = (ru_sel (bt x) (T q k)).isSome) → post y) : wpY_startsOf post (sp, de, ro, nI n, wa, dk, df, ds, dg, sk, ki, fi, se, ty, re, ta, wn, gr) p0 x := by
  subst e0
  exact ⟨n + 2, yl_s5 hm hq hn hr (fun y hy => hp y (fun k hk => by rw [hy k (by omega), decide_eq_true (by omega), Bool.true_and])) (n + 2) 0 0 (by omega) (by omega) (fun j hj => by rw [b_0, decide_eq_false (by omega), Bool.false_and])⟩
end
