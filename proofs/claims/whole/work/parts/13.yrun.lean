/-! the reference: plan, repeats, doPart, doRun -/
def yq_s (S : Nat → Bool) : Nat → Int32
  | 0 => 0
  | k + 1 => if S k = true then yq_s S k ||| ((1 : Int32) <<< (nI k &&& 31)) else yq_s S k
theorem yq_b (S : Nat → Bool) : ∀ k, k ≤ 32 → ∀ j, bt (yq_s S k) j = (decide (j < k) && S j) := by
  intro k
  induction k with
  | zero => intro _ j; rw [show yq_s S 0 = 0 from rfl, b_0, decide_eq_false (by omega), Bool.false_and]
  | succ k ih =>
    intro hk j
    have ih := ih (by omega) j
    unfold yq_s
    by_cases z : S k = true
    · rw [if_pos z, b_or, yb_one (by omega), ih]
      by_cases c : j = k
      · rw [c, z, decide_eq_true (show k < k + 1 by omega)]
        simp
      · rw [show decide (j < k + 1) = decide (j < k) from decide_eq_decide.mpr (by omega), beq_eq_false_iff_ne.mpr c, Bool.or_false]
    · rw [if_neg z, ih]
      by_cases c : j = k
      · rw [c]
        simp [z]
      · rw [show decide (j < k + 1) = decide (j < k) from decide_eq_decide.mpr (by omega)]
theorem yq_8 {k i : Nat} (hk : 9 ≤ k) : (100 + 16 * (nI k - 9)) + nI i = nI (100 + 16 * (k - 9) + i) := by
  rw [show (9 : Int32) = nI 9 from rfl, pk_sub hk, show (16 : Int32) = nI 16 from rfl, pk_mul, show (100 : Int32) = nI 100 from rfl, nI_add, nI_add]
theorem yq_0 (x : Int32) {k : Nat} (hk : k < 32) : (x >>> (nI k &&& 31)) &&& 1 = 0 ↔ bt x k = false := by
  rw [yb_tst x hk]
  cases bt x k <;> decide
section
variable {sp de ro ln wa : Int32} {dk df ds dg sk ki fi se ty re ta wn gr : Nat → Int32}
theorem yl_st {post : Int32 → Prop} {q n m : Nat} {x p0 : Int32} {T : Nat → Nat → List ru_R} (e0 : p0 = nI q) (hm : m ≤ 16) (hq : q < m) (hn : n ≤ 10) (hr : yr_ok re T n m) (hp : post (yq_s (fun j => (ru_sel (bt x) (T q j)).isSome) (n + 1))) : wpY_startsOf post (sp, de, ro, nI n, wa, dk, df, ds, dg, sk, ki, fi, se, ty, re, ta, wn, gr) p0 x := by
  subst e0
  refine ⟨n + 2, yl_s5 hm hq hn hr (fun y hy => ?_) (n + 2) 0 0 (by omega) (by omega) (fun j hj => by rw [b_0, decide_eq_false (by omega), Bool.false_and])⟩
  have e : y = yq_s (fun j => (ru_sel (bt x) (T q j)).isSome) (n + 1) := b_ext (fun j hj => by rw [hy j hj, yq_b _ (n + 1) (by omega) j])
  rw [e]
  exact hp
theorem yl_plan {post : SY → Prop} {w : Nat} {a b : Int32} (hw : w < 64) (h : post (sp, de, ro, ln, nI (w + 1), dk, df, ds, dg, sk, ki, fi, se, ty, re, upd ta w a, upd wn w b, gr)) : wpY_plan post (sp, de, ro, ln, nI w, dk, df, ds, dg, sk, ki, fi, se, ty, re, ta, wn, gr) a b := by
  have c : (nI w).toNatClampNeg = w := nI_clamp (by omega)
  have v : vp_in (nI w) 64 := vp_in_nI hw (by omega)
  exact ⟨v, nm_r (by rw [c]) ⟨v, nm_r (by rw [c]) (nm_r (nI_1 w) h)⟩⟩
theorem yl_plan2 {post : SY → Prop} {w : Nat} {a b : Int32} (hw : w + 1 < 64) (h : post (sp, de, ro, ln, nI (w + 1 + 1), dk, df, ds, dg, sk, ki, fi, se, ty, re, upd ta (w + 1) a, upd wn (w + 1) b, gr)) : wpY_plan post (sp, de, ro, ln, nI (w + 1), dk, df, ds, dg, sk, ki, fi, se, ty, re, ta, wn, gr) a b := yl_plan hw h
def yd_ok (K F S : Nat → Nat) (n m : Nat) (ki fi se ty re : Nat → Int32) : Prop :=
  ru_wf K F S m ∧ m ≤ 16 ∧ n ≤ 10 ∧ (∀ p, p < m → ki p = nI (K p) ∧ (5 ≤ K p → fi p = nI (F p) ∧ se p = nI (S p))) ∧ yr_ok re (ru_tb K F S ty n) n m
def yd_y (K F S : Nat → Nat) (ty : Nat → Int32) (n p i : Nat) (x : Int32) : Int32 := yq_s (fun j => (ru_sel (bt x) (ru_tb K F S ty n p j)).isSome) (n + 1) &&& ((((2 : Int32) <<< (nI i &&& 31)) - 1) ^^^ (-1))
theorem yl_rep {Q : Int32 → SY → Prop} {K F S : Nat → Nat} {n m p i w : Nat} {x : Int32} (H : yd_ok K F S n m ki fi se ty re) (hp : p < m) (hi : i ≤ n) (h5 : 5 ≤ K p) (hw : w + 1 < 64)
    (h0 : ru_sel (bt (yd_y K F S ty n p i x)) (ru_tb K F S ty n (F p) i) = none → Q 0 (sp, de, ro, nI n, nI w, dk, df, ds, dg, sk, ki, fi, se, ty, re, ta, wn, gr))
    (h1 : ru_sel (bt (yd_y K F S ty n p i x)) (ru_tb K F S ty n (F p) i) ≠ none → Q 1 (sp, de, ro, nI n, nI (w + 1 + 1), dk, df, ds, dg, sk, ki, fi, se, ty, re, upd (upd ta w (nI p)) (w + 1) (nI (F p)), upd (upd wn w x) (w + 1) (yd_y K F S ty n p i x), gr)) : wpY_repeats Q (sp, de, ro, nI n, nI w, dk, df, ds, dg, sk, ki, fi, se, ty, re, ta, wn, gr) (nI p) (nI i) x := by
  obtain ⟨wf, hm, hn, hk, hr⟩ := H
  have cp : (nI p).toNatClampNeg = p := nI_clamp (by omega)
  have vp : vp_in (nI p) 16 := vp_in_nI (by omega) (by omega)
  have hF := (wf p hp).2 h5
  have ef : fi (nI p).toNatClampNeg = nI (F p) := by rw [cp]; exact ((hk p hp).2 h5).1
  have hs := yb_sel (x := yd_y K F S ty n p i x) (hr (F p) (by omega) i hi)
  refine yl_st rfl hm hp hn hr (nm_r (e' := yd_y K F S ty n p i x) rfl ⟨vp, by rw [ef]; exact yi_in (by omega) (by omega), ?_⟩)
  rw [ef, yi_cl (by omega)]
  refine br_c (fun z => h0 (hs.mp z)) (fun z => ?_)
  refine yl_plan (by omega) ⟨vp, ?_⟩
  rw [ef]
  exact yl_plan2 hw (h1 (fun e => z (hs.mpr e)))
section
variable {Q : Int32 → SY → Prop} {K F S : Nat → Nat} {n m p i w : Nat} {x : Int32}
theorem yd_3 (H : yd_ok K F S n m ki fi se ty re) (hp : p < m) (hi : i ≤ n) (h : K p < 4) (hq : Q (nI (i + 1)) (sp, de, ro, nI n, nI w, dk, df, ds, dg, sk, ki, fi, se, ty, re, ta, wn, gr)) : wpY_doPart Q (sp, de, ro, nI n, nI w, dk, df, ds, dg, sk, ki, fi, se, ty, re, ta, wn, gr) (nI p) (nI i) x := by
  obtain ⟨wf, hm, hn, hk, hr⟩ := H
  have cp : (nI p).toNatClampNeg = p := nI_clamp (by omega)
  have vp : vp_in (nI p) 16 := vp_in_nI (by omega) (by omega)
  refine ⟨vp, nm_r (e' := nI (K p)) (by rw [cp]; exact (hk p hp).1) (br_f (nI_ge (b := 4) h (by decide)) ?_)⟩
  rw [nI_1 i]
  exact hq
theorem yd_4 (H : yd_ok K F S n m ki fi se ty re) (hp : p < m) (hi : i ≤ n) (h : K p = 4) (hq : Q (nI i) (sp, de, ro, nI n, nI w, dk, df, ds, dg, sk, ki, fi, se, ty, re, ta, wn, gr)) : wpY_doPart Q (sp, de, ro, nI n, nI w, dk, df, ds, dg, sk, ki, fi, se, ty, re, ta, wn, gr) (nI p) (nI i) x := by
  obtain ⟨wf, hm, hn, hk, hr⟩ := H
  have cp : (nI p).toNatClampNeg = p := nI_clamp (by omega)
  have vp : vp_in (nI p) 16 := vp_in_nI (by omega) (by omega)
  exact ⟨vp, nm_r (e' := 4) (by rw [cp, (hk p hp).1, h]; rfl) (br_t (by decide) (br_f (by decide) (br_f (by decide) (br_f (by decide) (br_f (by decide) (br_t (by decide) hq))))))⟩
theorem yd_5 (H : yd_ok K F S n m ki fi se ty re) (hp : p < m) (hi : i ≤ n) (hw : w + 1 < 64) (h : K p = 5)
    (hq : Q (nI i) (sp, de, ro, nI n, nI (w + 1 + 1), dk, df, ds, dg, sk, ki, fi, se, ty, re, upd (upd ta w (nI (S p))) (w + 1) (nI (F p)), upd (upd wn w x) (w + 1) (yq_s (fun j => (ru_sel (bt x) (ru_tb K F S ty n (S p) j)).isSome) (n + 1)), gr)) : wpY_doPart Q (sp, de, ro, nI n, nI w, dk, df, ds, dg, sk, ki, fi, se, ty, re, ta, wn, gr) (nI p) (nI i) x := by
  obtain ⟨wf, hm, hn, hk, hr⟩ := H
  have cp : (nI p).toNatClampNeg = p := nI_clamp (by omega)
  have vp : vp_in (nI p) 16 := vp_in_nI (by omega) (by omega)
  have hF := (wf p hp).2 (by omega)
  have ef : fi (nI p).toNatClampNeg = nI (F p) := by rw [cp]; exact ((hk p hp).2 (by omega)).1
  have es : se (nI p).toNatClampNeg = nI (S p) := by rw [cp]; exact ((hk p hp).2 (by omega)).2
  refine ⟨vp, nm_r (e' := 5) (by rw [cp, (hk p hp).1, h]; rfl) (br_t (by decide) (br_t rfl ⟨vp, yl_st es hm (by omega) hn hr ⟨vp, ?_⟩⟩))⟩
  rw [es]
  refine yl_plan (by omega) ⟨vp, ?_⟩
  rw [ef]
  exact yl_plan2 hw hq
theorem yd_6 (H : yd_ok K F S n m ki fi se ty re) (hp : p < m) (hi : i ≤ n) (hw : w + 1 < 64) (h : K p = 6)
    (h0 : ru_sel (bt x) (ru_tb K F S ty n (F p) i) = none → Q (nI i) (sp, de, ro, nI n, nI (w + 1), dk, df, ds, dg, sk, ki, fi, se, ty, re, upd ta w (nI (S p)), upd wn w x, gr))
    (h1 : ru_sel (bt x) (ru_tb K F S ty n (F p) i) ≠ none → Q (nI i) (sp, de, ro, nI n, nI (w + 1), dk, df, ds, dg, sk, ki, fi, se, ty, re, upd ta w (nI (F p)), upd wn w x, gr)) : wpY_doPart Q (sp, de, ro, nI n, nI w, dk, df, ds, dg, sk, ki, fi, se, ty, re, ta, wn, gr) (nI p) (nI i) x := by
  obtain ⟨wf, hm, hn, hk, hr⟩ := H
  have cp : (nI p).toNatClampNeg = p := nI_clamp (by omega)
  have vp : vp_in (nI p) 16 := vp_in_nI (by omega) (by omega)
  have hF := (wf p hp).2 (by omega)
  have ef : fi (nI p).toNatClampNeg = nI (F p) := by rw [cp]; exact ((hk p hp).2 (by omega)).1
  have es : se (nI p).toNatClampNeg = nI (S p) := by rw [cp]; exact ((hk p hp).2 (by omega)).2
  have hs := yb_sel (x := x) (hr (F p) (by omega) i hi)
  refine ⟨vp, nm_r (e' := 6) (by rw [cp, (hk p hp).1, h]; rfl) (br_t (by decide) (br_f (by decide) (br_t rfl ⟨vp, by rw [ef]; exact yi_in (by omega) (by omega), ?_⟩)))⟩
  rw [ef, yi_cl (by omega)]
  refine br_c (fun z => br_t rfl ⟨vp, ?_⟩) (fun z => br_f (by decide) ⟨vp, ?_⟩)
  · rw [es]
    exact yl_plan (by omega) (h0 (hs.mp z))
  · rw [ef]
    exact yl_plan (by omega) (h1 (fun e => z (hs.mpr e)))
theorem yd_7 (H : yd_ok K F S n m ki fi se ty re) (hp : p < m) (hi : i ≤ n) (hw : w + 1 < 64) (h : K p = 7 ∨ (K p = 8 ∧ bt x i = false))
    (h0 : ru_sel (bt (yd_y K F S ty n p i x)) (ru_tb K F S ty n (F p) i) = none → Q (nI i) (sp, de, ro, nI n, nI w, dk, df, ds, dg, sk, ki, fi, se, ty, re, ta, wn, gr))
    (h1 : ru_sel (bt (yd_y K F S ty n p i x)) (ru_tb K F S ty n (F p) i) ≠ none → Q (nI i) (sp, de, ro, nI n, nI (w + 1 + 1), dk, df, ds, dg, sk, ki, fi, se, ty, re, upd (upd ta w (nI p)) (w + 1) (nI (F p)), upd (upd wn w x) (w + 1) (yd_y K F S ty n p i x), gr)) : wpY_doPart Q (sp, de, ro, nI n, nI w, dk, df, ds, dg, sk, ki, fi, se, ty, re, ta, wn, gr) (nI p) (nI i) x := by
  have H' := H
  obtain ⟨wf, hm, hn, hk, hr⟩ := H
  have cp : (nI p).toNatClampNeg = p := nI_clamp (by omega)
  have vp : vp_in (nI p) 16 := vp_in_nI (by omega) (by omega)
  have k148 : wY_doPart_148 Q (nI p) (nI i) x sp de ro (nI n) (nI w) dk df ds dg sk ki fi se ty re ta wn gr := yl_rep H' hp hi (by omega) hw h0 h1
  rcases h with h | h
  · exact ⟨vp, nm_r (e' := 7) (by rw [cp, (hk p hp).1, h]; rfl) (br_t (by decide) (br_f (by decide) (br_f (by decide) (br_t rfl k148))))⟩
  · exact ⟨vp, nm_r (e' := 8) (by rw [cp, (hk p hp).1, h.1]; rfl) (br_t (by decide) (br_f (by decide) (br_f (by decide) (br_f (by decide) (br_t rfl (br_t ((yq_0 x (by omega)).mpr h.2) k148))))))⟩
theorem yd_8 (H : yd_ok K F S n m ki fi se ty re) (hp : p < m) (hi : i ≤ n) (h : K p = 8) (hb : bt x i = true) (hq : Q (nI i) (sp, de, ro, nI n, nI w, dk, df, ds, dg, sk, ki, fi, se, ty, re, ta, wn, gr)) : wpY_doPart Q (sp, de, ro, nI n, nI w, dk, df, ds, dg, sk, ki, fi, se, ty, re, ta, wn, gr) (nI p) (nI i) x := by
  obtain ⟨wf, hm, hn, hk, hr⟩ := H
  have cp : (nI p).toNatClampNeg = p := nI_clamp (by omega)
  have vp : vp_in (nI p) 16 := vp_in_nI (by omega) (by omega)
  exact ⟨vp, nm_r (e' := 8) (by rw [cp, (hk p hp).1, h]; rfl) (br_t (by decide) (br_f (by decide) (br_f (by decide) (br_f (by decide) (br_t rfl (br_f (fun z => by rw [(yq_0 x (by omega)).mp z] at hb; cases hb) (br_t (by decide) hq)))))))⟩
theorem yd_9 (H : yd_ok K F S n m ki fi se ty re) (hp : p < m) (hi : i ≤ n) (hw : w + 1 < 64) (h : 9 ≤ K p)
    (hq : Q (nI i) (sp, de, ro, nI n, nI (w + 1 + 1), dk, df, ds, dg, sk, ki, fi, se, ty, re, upd (upd ta w (nI (100 + 16 * (K p - 9) + i))) (w + 1) (nI (F p)), upd (upd wn w 0) (w + 1) x, gr)) : wpY_doPart Q (sp, de, ro, nI n, nI w, dk, df, ds, dg, sk, ki, fi, se, ty, re, ta, wn, gr) (nI p) (nI i) x := by
  obtain ⟨wf, hm, hn, hk, hr⟩ := H
  have cp : (nI p).toNatClampNeg = p := nI_clamp (by omega)
  have vp : vp_in (nI p) 16 := vp_in_nI (by omega) (by omega)
  have hF := (wf p hp).2 (by omega)
  have hK := (wf p hp).1
  have ef : fi (nI p).toNatClampNeg = nI (F p) := by rw [cp]; exact ((hk p hp).2 (by omega)).1
  have ne : ∀ c, c < 9 → ¬ nI (K p) = nI c := fun c hc e => by
    have := (nI_eq (by omega) (by omega)).mp e
    omega
  refine ⟨vp, nm_r (e' := nI (K p)) (by rw [cp]; exact (hk p hp).1) (br_t (nI_le (a := 4) (by omega) (by omega)) (br_f (ne 5 (by omega)) (br_f (ne 6 (by omega)) (br_f (ne 7 (by omega)) (br_f (ne 8 (by omega)) (br_f (nI_ge (a := 8) (by omega) (by omega)) ?_))))))⟩
  rw [yq_8 h]
  refine yl_plan (by omega) ⟨vp, ?_⟩
  rw [ef]
  exact yl_plan2 hw hq
end
theorem ym_st {post : Int32 → SY → Prop} {N p w : Nat} {i : Int32} (hp : p < 16) (hw : w < 64) (ht : ta w = nI p)
    (h : wpY_doPart (fun r u => match u with | (sp, de, ro, ln, wa, dk, df, ds, dg, sk, ki, fi, se, ty, re, ta, wn, gr) => wY_doRun_37 post N r sp de ro ln wa dk df ds dg sk ki fi se ty re ta wn gr) (sp, de, ro, ln, nI w, dk, df, ds, dg, sk, ki, fi, se, ty, re, ta, wn, gr) (nI p) i (wn w)) : wY_doRun_37 post (N + 1) i sp de ro ln (nI (w + 1)) dk df ds dg sk ki fi se ty re ta wn gr := by
  have cw : (nI w).toNatClampNeg = w := nI_clamp (by omega)
  have vw : vp_in (nI w) 64 := vp_in_nI hw (by omega)
  rw [wY_doRun_37]
  refine br_f (nI_nle (by omega) (by omega)) (nm_r (nI_pred w) ⟨vw, nm_r (e' := nI p) (by rw [cw]; exact ht) (br_t (nI_lt (b := 100) (by omega) (by decide)) ⟨vw, ?_⟩)⟩)
  rw [cw]
  exact h
theorem ym_gt {post : Int32 → SY → Prop} {N g i j w : Nat} (hg : g < 3) (hi : i ≤ 10) (hj : j ≤ 10) (hw : w < 64) (ht : ta w = nI (100 + 16 * g + i))
    (h : wY_doRun_37 post N (nI j) sp de ro ln (nI w) dk df ds dg sk ki fi se ty re ta wn (upd gr g (nI (16 * i + j)))) : wY_doRun_37 post (N + 1) (nI j) sp de ro ln (nI (w + 1)) dk df ds dg sk ki fi se ty re ta wn gr := by
  have cw : (nI w).toNatClampNeg = w := nI_clamp (by omega)
  have vw : vp_in (nI w) 64 := vp_in_nI hw (by omega)
  have e1 : nI (100 + 16 * g + i) - 100 = nI (16 * g + i) := by
    rw [show (100 : Int32) = nI 100 from rfl, pk_sub (by omega)]
    exact congrArg nI (by omega)
  have e2 : nI (16 * g + i) / 16 = nI g := by
    rw [show (16 : Int32) = nI 16 from rfl, pk_div (by omega) (by omega) (by omega)]
    exact congrArg nI (by omega)
  have e3 : nI (16 * g + i) - nI g * 16 = nI i := by
    rw [show (16 : Int32) = nI 16 from rfl, pk_mul, pk_sub (by omega)]
    exact congrArg nI (by omega)
  have e4 : 16 * nI i + nI j = nI (16 * i + j) := by rw [show (16 : Int32) = nI 16 from rfl, pk_mul, nI_add]
  rw [wY_doRun_37]
  refine br_f (nI_nle (by omega) (by omega)) (nm_r (nI_pred w) ⟨vw, nm_r (e' := nI (100 + 16 * g + i)) (by rw [cw]; exact ht) (br_f (nI_nlt (b := 100) (by omega) (by omega)) ⟨by decide, by decide, ?_⟩)⟩)
  rw [e1, e2, e3, e4]
  exact ⟨vp_in_nI hg (by omega), nm_r (e' := upd gr g (nI (16 * i + j))) (by rw [nI_clamp (by omega)]) h⟩
theorem ym_ok {post : Int32 → SY → Prop} {K F S : Nat → Nat} {n m : Nat} (H : yd_ok K F S n m ki fi se ty re) : ym_R (fun N i w tk wt gs => wY_doRun_37 post N (nI i) sp de ro (nI n) (nI w) dk df ds dg sk ki fi se ty re tk wt gs) K F S ty n m := by
  intro p i w tk wt gs hp hi hw ht
  have hm := H.2.1
  have hn := H.2.2.1
  refine ⟨fun h => ⟨1, fun N z => ym_st (by omega) (by omega) ht (yd_3 H hp hi h z)⟩, fun h => ⟨1, fun N z => ym_st (by omega) (by omega) ht (yd_4 H hp hi h z)⟩, fun h => ⟨yq_s (fun j => (ru_sel (bt (wt w)) (ru_tb K F S ty n (S p) j)).isSome) (n + 1), fun k hk => ?_, 1, fun N z => ym_st (by omega) (by omega) ht (yd_5 H hp hi hw h z)⟩, fun h => ⟨fun q => ⟨1, fun N z => ym_st (by omega) (by omega) ht (yd_6 H hp hi hw h (fun _ => z) (fun e => absurd q e))⟩, fun q => ⟨1, fun N z => ym_st (by omega) (by omega) ht (yd_6 H hp hi hw h (fun e => absurd e q) (fun _ => z))⟩⟩,
    fun h => ⟨yd_y K F S ty n p i (wt w), fun k hk => ?_, fun q => ⟨1, fun N z => ym_st (by omega) (by omega) ht (yd_7 H hp hi hw h (fun _ => z) (fun e => absurd q e))⟩, fun q => ⟨1, fun N z => ym_st (by omega) (by omega) ht (yd_7 H hp hi hw h (fun e => absurd e q) (fun _ => z))⟩⟩,
    fun h hb => ⟨1, fun N z => ym_st (by omega) (by omega) ht (yd_8 H hp hi h hb z)⟩, fun h => ⟨1, fun N z => ym_st (by omega) (by omega) ht (yd_9 H hp hi hw h z)⟩⟩
  · rw [yq_b _ (n + 1) (by omega) k, decide_eq_true (by omega), Bool.true_and]
  · unfold yd_y
    rw [b_and, yq_b _ (n + 1) (by omega) k, decide_eq_true (show k < n + 1 by omega), Bool.true_and, yb_hi i (by omega) k (by omega), Bool.and_comm]
theorem ym_og {post : Int32 → SY → Prop} {n : Nat} : ym_G (fun N i w tk wt gs => wY_doRun_37 post N (nI i) sp de ro (nI n) (nI w) dk df ds dg sk ki fi se ty re tk wt gs) := by
  intro g i j w tk wt gs hg hi hj hw ht
  exact ⟨1, fun N z => ym_gt hg hi hj hw ht z⟩
theorem ym_end {post : Int32 → SY → Prop} {N : Nat} {j : Int32} (h : post j (sp, de, ro, ln, nI 0, dk, df, ds, dg, sk, ki, fi, se, ty, re, ta, wn, gr)) : wY_doRun_37 post (N + 1) j sp de ro ln (nI 0) dk df ds dg sk ki fi se ty re ta wn gr := by
  rw [wY_doRun_37]
  exact br_t (by decide) h
theorem yl_r2 {post : Int32 → SY → Prop} {K F S : Nat → Nat} {n r i : Nat} {x : Int32} {s : ru_R} (H : yd_ok K F S n (r + 1) ki fi se ty re) (hi : i ≤ n) (hs : ru_sel (bt x) (ru_tb K F S ty n r i) = some s)
    (hp : ∀ ta' wn' gr', (∀ g, g < 3 → gr' g = s.2 g) → post (nI s.1) (sp, de, nI r, nI n, nI 0, dk, df, ds, dg, sk, ki, fi, se, ty, re, ta', wn', gr')) :
    ∀ (d g : Nat) (gr : Nat → Int32), 3 < d + g → g ≤ 3 → (∀ h, h < g → gr h = -4) → wY_doRun_2 post (nI i) x sp de (nI r) (nI n) wa d (nI g) dk df ds dg sk ki fi se ty re ta wn gr := by
  intro d
  induction d with
  | zero => intro g gr h1 h2; omega
  | succ d ih =>
    intro g gr h1 h2 h3
    rw [wY_doRun_2]
    by_cases q : g = 3
    · subst q
      refine br_t (show (3 : Int32) ≤ nI 3 from by decide) ?_
      have hr16 := H.2.1
      obtain ⟨tk', wt', _, c, hc⟩ := ym_run (ym_ok (post := post) (sp := sp) (de := de) (ro := nI r) (dk := dk) (df := df) (ds := ds) (dg := dg) (sk := sk) H) ym_og H.1 H.2.2.1 H.2.1 (11 * r + (10 - i) + 1) r i 0 (upd ta 0 (nI r)) (upd wn 0 x) gr s (by omega) (by omega) hi (by omega) pk_us (by rw [pk_us]; exact hs)
      refine yl_plan (w := 0) (by omega) ⟨0 + 1 + c, hc (0 + 1) (ym_end (hp tk' wt' _ (fun g hg => ?_)))⟩
      show (if s.2 g = -4 then gr g else s.2 g) = s.2 g
      by_cases e : s.2 g = -4
      · rw [if_pos e, e]
        exact h3 g hg
      · rw [if_neg e]
    · refine br_f (show ¬ (3 : Int32) ≤ nI g from nI_ge (b := 3) (by omega) (by omega)) ⟨vp_in_nI (by omega) (by omega), nm_r (e' := upd gr g (-4)) (by rw [nI_clamp (by omega)]) (nm_r (nI_1 g) (ih (g + 1) _ (by omega) (by omega) (fun h hh => ?_)))⟩
      by_cases e : h = g
      · rw [e, pk_us]
      · rw [pk_un e]
        exact h3 h (by omega)
theorem yl_run {post : Int32 → SY → Prop} {K F S : Nat → Nat} {n r i : Nat} {x p0 : Int32} {s : ru_R} (e0 : p0 = nI i) (H : yd_ok K F S n (r + 1) ki fi se ty re) (hi : i ≤ n) (hs : ru_sel (bt x) (ru_tb K F S ty n r i) = some s)
    (hp : ∀ ta' wn' gr', (∀ g, g < 3 → gr' g = s.2 g) → post (nI s.1) (sp, de, nI r, nI n, nI 0, dk, df, ds, dg, sk, ki, fi, se, ty, re, ta', wn', gr')) : wpY_doRun post (sp, de, nI r, nI n, wa, dk, df, ds, dg, sk, ki, fi, se, ty, re, ta, wn, gr) p0 x := by
  subst e0
  exact ⟨4, yl_r2 H hi hs hp 4 0 gr (by omega) (by omega) (fun h hh => by omega)⟩
end
