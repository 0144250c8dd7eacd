/-! count and longest of the reference; the component's questions -/
section
variable {sp de ro ln wa : Int32} {dk df ds dg sk ki fi se ty re ta wn gr : Nat → Int32} {post : Int32 → SY → Prop} {K F S : Nat → Nat} {n r : Nat}
def qh_c (a : Int32) (_ _ : Nat) : Int32 := a + 1
def qh_l (a : Int32) (i e : Nat) : Int32 := if nI e - nI i ≤ a then a else nI e - nI i
theorem qn_f {L : Nat → List ru_R} {h : Int32 → Nat → Nat → Int32} {f i : Nat} {a : Int32} (hn : n ≤ 10) (hf : f ≤ n) (hL : ∀ j, j ≤ n → ru_ok j n (L j)) (q : qa_f L n (nI f) = some i) :
    qu_all L n h f a = qu_all L n h (qu_nx i (qu_hd (L i)).1) (h a i (qu_hd (L i)).1) ∧ f ≤ i ∧ i ≤ n ∧ i ≤ (qu_hd (L i)).1 ∧ (qu_hd (L i)).1 ≤ n := by
  have hi := qa_some hn q
  rw [qa_in hn hf] at q
  have h1 := qu_f_some _ _ _ q
  have h2 := (qu_all_f (L := L) (n := n) (h := h) a (n + 1 - f) f (by omega)).2 i q
  have hm : qu_hd (L i) ∈ L i := by
    cases hc : L i with
    | nil => rw [hc] at hi; exact absurd rfl hi.2
    | cons x l => exact List.mem_cons_self
  have hb := (hL i hi.1).1 _ hm
  exact ⟨h2.trans (qu_all_ne hi.1 hi.2), h1.1, hi.1, hb.1, hb.2⟩
theorem qn_0 {L : Nat → List ru_R} {h : Int32 → Nat → Nat → Int32} {f : Nat} {a : Int32} (hn : n ≤ 10) (hf : f ≤ n) (q : qa_f L n (nI f) = none) : qu_all L n h f a = a := by
  rw [qa_in hn hf] at q
  exact (qu_all_f (L := L) (n := n) (h := h) a (n + 1 - f) f (by omega)).1 q
theorem yl_c4 (H : yd_0 K F S n r ki fi se) : ∀ (d f : Nat) (a wa : Int32) (re ta wn gr : Nat → Int32), n + 1 < d + f → f ≤ n + 1 → (∀ wa re ta wn gr, post (qu_all (ru_tb K F S ty n r) n qh_c f a) (sp, de, nI r, nI n, wa, dk, df, ds, dg, sk, ki, fi, se, ty, re, ta, wn, gr)) → wY_count_4 post d a (nI f) sp de (nI r) (nI n) wa dk df ds dg sk ki fi se ty re ta wn gr := by
  have hn := H.2.2.1
  intro d
  induction d with
  | zero => intro f a wa re ta wn gr h1 h2; omega
  | succ d ih =>
    intro f a wa re ta wn gr h1 h2 hp
    rw [wY_count_4]
    by_cases w : f = n + 1
    · rw [qu_all_gt (by omega)] at hp
      rw [w]
      exact br_t (nI_lt (by omega) (by omega)) (hp _ _ _ _ _)
    · refine br_f (nI_nlt (by omega) (by omega)) (yl_find H (fun re' H' => ?_))
      cases q : qa_f (ru_tb K F S ty n r) n (nI f) with
      | none =>
        rw [qn_0 hn (by omega) q] at hp
        exact br_t (by decide) (hp _ _ _ _ _)
      | some i =>
        obtain ⟨e1, b1, b2, b3, b4⟩ := qn_f (h := qh_c) (a := a) hn (by omega) (fun j hj => ru_tb_ok hj) q
        rw [e1] at hp
        refine br_f (nI_pos (by omega)) (yl_find H (fun re2 H2 => ?_))
        rw [q]
        refine yl_end H (fun q' re3 => ?_) (fun i' q' re3 ta3 wn3 gr3 hg => ?_)
        · rw [q] at q'; cases q'
        · have ei : i = i' := Option.some.inj (q.symm.trans q')
          subst ei
          have hx := qu_nx_gt i (qu_hd (ru_tb K F S ty n r i)).1
          refine nm_e (br_c (fun e => ?_) (fun e => ?_))
          · have e2 : (qu_hd (ru_tb K F S ty n r i)).1 = i := (nI_eq (by omega) (by omega)).mp e
            have e3 : qu_nx i (qu_hd (ru_tb K F S ty n r i)).1 = (qu_hd (ru_tb K F S ty n r i)).1 + 1 := by
              unfold qu_nx
              rw [if_pos (by omega)]
              omega
            rw [e3] at hp
            exact nm_r (nI_1 _) (ih _ _ _ _ _ _ _ (by omega) (by omega) hp)
          · have e2 : (qu_hd (ru_tb K F S ty n r i)).1 ≠ i := fun z => e (by rw [z]; rfl)
            have e3 : qu_nx i (qu_hd (ru_tb K F S ty n r i)).1 = (qu_hd (ru_tb K F S ty n r i)).1 := by
              unfold qu_nx
              rw [if_neg (by omega)]
            rw [e3] at hp
            exact ih _ _ _ _ _ _ _ (by omega) (by omega) hp
theorem yl_count (H : yd_0 K F S n r ki fi se) (hp : ∀ wa re ta wn gr, post (qu_all (ru_tb K F S ty n r) n qh_c 0 0) (sp, de, nI r, nI n, wa, dk, df, ds, dg, sk, ki, fi, se, ty, re, ta, wn, gr)) : wpY_count post (sp, de, nI r, nI n, wa, dk, df, ds, dg, sk, ki, fi, se, ty, re, ta, wn, gr) :=
  ⟨n + 2, yl_c4 H (n + 2) 0 0 wa re ta wn gr (by omega) (by omega) hp⟩
theorem yl_l5 (H : yd_0 K F S n r ki fi se) : ∀ (d f : Nat) (a wa : Int32) (re ta wn gr : Nat → Int32), n + 1 < d + f → f ≤ n + 1 → (∀ wa re ta wn gr, post (qu_all (ru_tb K F S ty n r) n qh_l f a) (sp, de, nI r, nI n, wa, dk, df, ds, dg, sk, ki, fi, se, ty, re, ta, wn, gr)) → wY_longest_5 post d a (nI f) sp de (nI r) (nI n) wa dk df ds dg sk ki fi se ty re ta wn gr := by
  have hn := H.2.2.1
  intro d
  induction d with
  | zero => intro f a wa re ta wn gr h1 h2; omega
  | succ d ih =>
    intro f a wa re ta wn gr h1 h2 hp
    rw [wY_longest_5]
    by_cases w : f = n + 1
    · rw [qu_all_gt (by omega)] at hp
      rw [w]
      exact br_t (nI_lt (by omega) (by omega)) (hp _ _ _ _ _)
    · refine br_f (nI_nlt (by omega) (by omega)) (yl_find H (fun re' H' => ?_))
      cases q : qa_f (ru_tb K F S ty n r) n (nI f) with
      | none =>
        rw [qn_0 hn (by omega) q] at hp
        exact br_t (by decide) (hp _ _ _ _ _)
      | some i =>
        obtain ⟨e1, b1, b2, b3, b4⟩ := qn_f (h := qh_l) (a := a) hn (by omega) (fun j hj => ru_tb_ok hj) q
        rw [e1] at hp
        refine br_f (nI_pos (by omega)) (yl_find H (fun re2 H2 => ?_))
        rw [q]
        refine yl_end H (fun q' re3 => ?_) (fun i' q' re3 ta3 wn3 gr3 hg => ?_)
        · rw [q] at q'; cases q'
        · have ei : i = i' := Option.some.inj (q.symm.trans q')
          subst ei
          have hx := qu_nx_gt i (qu_hd (ru_tb K F S ty n r i)).1
          have k50 : ∀ z : Int32, z = qh_l a i (qu_hd (ru_tb K F S ty n r i)).1 → wY_longest_50 post (wY_longest_5 post d) (nI i) (nI (qu_hd (ru_tb K F S ty n r i)).1) z sp de (nI r) (nI n) (nI 0) dk df ds dg sk ki fi se ty re3 ta3 wn3 gr3 := by
            intro z hz
            subst hz
            refine br_c (fun e => ?_) (fun e => ?_)
            · have e2 : (qu_hd (ru_tb K F S ty n r i)).1 = i := (nI_eq (by omega) (by omega)).mp e
              have e3 : qu_nx i (qu_hd (ru_tb K F S ty n r i)).1 = (qu_hd (ru_tb K F S ty n r i)).1 + 1 := by
                unfold qu_nx
                rw [if_pos (by omega)]
                omega
              rw [e3] at hp
              exact nm_r (nI_1 _) (ih _ _ _ _ _ _ _ (by omega) (by omega) hp)
            · have e2 : (qu_hd (ru_tb K F S ty n r i)).1 ≠ i := fun z => e (by rw [z])
              have e3 : qu_nx i (qu_hd (ru_tb K F S ty n r i)).1 = (qu_hd (ru_tb K F S ty n r i)).1 := by
                unfold qu_nx
                rw [if_neg (by omega)]
              rw [e3] at hp
              exact ih _ _ _ _ _ _ _ (by omega) (by omega) hp
          exact br_c (fun e => k50 _ (if_pos e).symm) (fun e => k50 _ (if_neg e).symm)
theorem yl_longest (H : yd_0 K F S n r ki fi se) (hp : ∀ wa re ta wn gr, post (qu_all (ru_tb K F S ty n r) n qh_l 0 (-4)) (sp, de, nI r, nI n, wa, dk, df, ds, dg, sk, ki, fi, se, ty, re, ta, wn, gr)) : wpY_longest post (sp, de, nI r, nI n, wa, dk, df, ds, dg, sk, ki, fi, se, ty, re, ta, wn, gr) :=
  ⟨n + 2, yl_l5 H (n + 2) 0 (-4) wa re ta wn gr (by omega) (by omega) hp⟩
end
def xd_ok (L : Nat → List ru_R) (n r : Nat) (C E B G : Nat → Int32) : Prop := r < 16 ∧ n ≤ 10 ∧ ∀ j, j ≤ n → ru_ok j n (L j) ∧ xr_Rep C E B G (r * 11 + j) (L j)
section
variable {bp he up tl : Int32} {bk bv bf bs bg st uk uv uf us tx C E B G : Nat → Int32} {post : Int32 → Prop} {L : Nat → List ru_R} {n r i : Nat}
theorem xl_sow (h : post (nI (r * 11 + i))) : wpX_startOfWhole post (bp, he, nI (r + 1), tl, bk, bv, bf, bs, bg, st, uk, uv, uf, us, tx, C, E, B, G) (nI i) := by
  show post (((nI (r + 1) - 1) * 11) + nI i)
  rw [nI_pred, xi_11]
  exact h
theorem xl_wb (H : xd_ok L n r C E B G) (hi : i ≤ n) (h0 : (L i).isEmpty = true → post 0) (h1 : ¬ (L i).isEmpty = true → post 1) : wpX_wholeBegins post (bp, he, nI (r + 1), tl, bk, bv, bf, bs, bg, st, uk, uv, uf, us, tx, C, E, B, G) (nI i) := by
  obtain ⟨hr, hn, H⟩ := H
  have hR := (H i hi).2
  have hl := ru_len (H i hi).1
  unfold wpX_wholeBegins
  refine xl_sow ⟨vp_in_nI (by omega) (by omega), ?_⟩
  rw [nI_clamp (by omega), hR.1]
  by_cases z : (L i).isEmpty = true
  · rw [List.length_eq_zero_iff.mpr (List.isEmpty_iff.mp z)]
    exact br_t (by decide) (h0 z)
  · have h2 : 0 < (L i).length := List.length_pos_iff.mpr (fun e => z (List.isEmpty_iff.mpr e))
    exact br_f (nI_nle h2 (by omega)) (h1 z)
theorem xl_pe (H : xd_ok L n r C E B G) (hi : i ≤ n) (hz : ¬ (L i).isEmpty = true) (hp : post (nI (qu_hd (L i)).1)) : wpX_preferredEnd post (bp, he, nI (r + 1), tl, bk, bv, bf, bs, bg, st, uk, uv, uf, us, tx, C, E, B, G) (nI i) := by
  obtain ⟨hr, hn, H⟩ := H
  have hR := (H i hi).2
  have h0 : (L i)[0]? = some (qu_hd (L i)) := by
    cases hc : L i with
    | nil => rw [hc] at hz; exact absurd rfl hz
    | cons x l => rfl
  have e1 : nI (r * 11 + i) * 11 = nI ((r * 11 + i) * 11) := by rw [xi_c11, pk_mul]
  unfold wpX_preferredEnd
  refine xl_sow ?_
  rw [e1]
  refine ⟨vp_in_nI (by omega) (by omega), ?_⟩
  rw [nI_clamp (by omega)]
  have h2 := hR.2.1 0 _ h0
  rw [Nat.add_zero] at h2
  rw [h2]
  exact hp
theorem xl_gow {s : ru_R} {g : Nat} {p0 p1 : Int32} (e0 : p0 = nI i) (e1 : p1 = nI s.1) (H : xd_ok L n r C E B G) (hi : i ≤ n) (hs : s ∈ L i) (hg : g < 3) (hp : post (s.2 g)) : wpX_groupOfWhole post (bp, he, nI (r + 1), tl, bk, bv, bf, bs, bg, st, uk, uv, uf, us, tx, C, E, B, G) p0 p1 (nI g) := by
  subst e0 e1
  obtain ⟨hr, hn, H⟩ := H
  have hR := (H i hi).2
  have hb := (H i hi).1.1 s hs
  have ei : (nI (r * 11 + i) * 11 + nI s.1) * 3 + nI g = nI (((r * 11 + i) * 11 + s.1) * 3 + g) := by rw [xi_11, xi_3]
  unfold wpX_groupOfWhole
  refine xl_sow ?_
  rw [ei]
  refine ⟨vp_in_nI (by omega) (by omega), ?_⟩
  rw [nI_clamp (by omega), hR.2.2.2 s hs g hg]
  exact hp
theorem xl_wr {j : Nat} {p0 p1 : Int32} (e0 : p0 = nI i) (e1 : p1 = nI j) (H : xd_ok L n r C E B G) (hi : i ≤ n) (hj : j ≤ n) (hp : post (if ru_any (L i) j = true then 1 else 0)) : wpX_wholeRuns post (bp, he, nI (r + 1), tl, bk, bv, bf, bs, bg, st, uk, uv, uf, us, tx, C, E, B, G) p0 p1 := by
  subst e0 e1
  obtain ⟨hr, hn, H⟩ := H
  have hR := (H i hi).2
  unfold wpX_wholeRuns
  refine xl_sow ⟨xi_in (by omega) (by omega), ?_⟩
  rw [xi_cl (by omega), hR.2.2.1 j (by omega)]
  refine ⟨?_, hp⟩
  split <;> rfl
theorem xl_b13 (H : xd_ok L n r C E B G) : ∀ (d j : Nat), j + d = n + 1 → post (qu_o (qu_f L d j)) → wX_beginFrom_13 post bp he (nI (r + 1)) (nI n) bk bv bf bs bg st uk uv uf us tx C E B G (d + 1) (nI j) := by
  have hn := H.2.1
  intro d
  induction d with
  | zero =>
    intro j hj hp
    rw [wX_beginFrom_13]
    exact br_t (nI_lt (by omega) (by omega)) hp
  | succ d ih =>
    intro j hj hp
    rw [wX_beginFrom_13]
    refine br_f (nI_nlt (by omega) (by omega)) (xl_wb H (by omega) (fun z => ?_) (fun z => ?_))
    · rw [show qu_f L (d + 1) j = qu_f L d (j + 1) from if_pos z] at hp
      exact br_t rfl (nm_r (nI_1 j) (ih (j + 1) (by omega) hp))
    · rw [show qu_f L (d + 1) j = some j from if_neg z] at hp
      exact br_f (by decide) hp
theorem xl_bf {f : Int32} (H : xd_ok L n r C E B G) (hp : post (qu_o (qa_f L n f))) : wpX_beginFrom post (bp, he, nI (r + 1), nI n, bk, bv, bf, bs, bg, st, uk, uv, uf, us, tx, C, E, B, G) f := by
  have hn := H.2.1
  unfold wpX_beginFrom
  rcases qa_cs n hn f with a | a | ⟨j, hj, rfl⟩
  · rw [qa_lo a] at hp
    exact br_t a (br_t rfl hp)
  · rw [qa_hi a.2] at hp
    exact br_f a.1 (br_t a.2 (br_t rfl hp))
  · rw [qa_in hn hj] at hp
    exact br_f (nI_pos (by omega)) (br_f (nI_nlt (by omega) (by omega)) (br_f (by decide) ⟨n + 1 - j + 1, xl_b13 H (n + 1 - j) j (by omega) hp⟩))
def qm_x (i f : Nat) : Nat := if i < f then f else i
theorem xl_c6 (H : xd_ok L n r C E B G) : ∀ (d i f : Nat) (a : Int32), n + 1 < d + i → i ≤ n + 1 → f ≤ n → post (qu_all L n qh_c (qm_x i f) a) → wX_count_6 post bp he (nI (r + 1)) (nI n) bk bv bf bs bg st uk uv uf us tx C E B G d a (nI f) (nI i) := by
  have hn := H.2.1
  intro d
  induction d with
  | zero => intro i f a h1 h2; omega
  | succ d ih =>
    intro i f a h1 h2 h3 hp
    rw [wX_count_6]
    by_cases w : i = n + 1
    · rw [show qm_x i f = i from if_neg (by omega), qu_all_gt (by omega)] at hp
      exact br_t (nI_lt (by omega) (by omega)) hp
    · refine br_f (nI_nlt (by omega) (by omega)) ?_
      by_cases c : i < f
      · refine br_t (nI_lt c (by omega)) (nm_r (nI_1 i) (ih (i + 1) f a (by omega) (by omega) h3 ?_))
        rw [show qm_x i f = f from if_pos c] at hp
        rw [show qm_x (i + 1) f = f from by unfold qm_x; split <;> omega]
        exact hp
      · rw [show qm_x i f = i from if_neg c] at hp
        refine br_f (nI_nlt (by omega) (by omega)) (xl_wb H (by omega) (fun z => ?_) (fun z => ?_))
        · rw [qu_all_em (by omega) z] at hp
          refine br_t rfl (nm_r (nI_1 i) (ih (i + 1) f a (by omega) (by omega) h3 ?_))
          rw [show qm_x (i + 1) f = i + 1 from if_neg (by omega)]
          exact hp
        · rw [qu_all_ne (by omega) z] at hp
          have hm : qu_hd (L i) ∈ L i := by
            cases hc : L i with
            | nil => rw [hc] at z; exact absurd rfl z
            | cons x l => exact List.mem_cons_self
          have hb := (H.2.2 i (by omega)).1.1 _ hm
          refine br_f (by decide) (nm_e (xl_pe H (by omega) z (nm_r (nI_1 i) (ih (i + 1) _ _ (by omega) (by omega) (by omega) ?_))))
          rw [show qm_x (i + 1) (qu_hd (L i)).1 = qu_nx i (qu_hd (L i)).1 from by unfold qm_x qu_nx; split <;> split <;> omega]
          exact hp
theorem xl_count (H : xd_ok L n r C E B G) (hp : post (qu_all L n qh_c 0 0)) : wpX_count post (bp, he, nI (r + 1), nI n, bk, bv, bf, bs, bg, st, uk, uv, uf, us, tx, C, E, B, G) :=
  ⟨n + 2, xl_c6 H (n + 2) 0 0 0 (by omega) (by omega) (by omega) hp⟩
theorem xl_l7 (H : xd_ok L n r C E B G) : ∀ (d i f : Nat) (a : Int32), n + 1 < d + i → i ≤ n + 1 → f ≤ n → post (qu_all L n qh_l (qm_x i f) a) → wX_longest_7 post bp he (nI (r + 1)) (nI n) bk bv bf bs bg st uk uv uf us tx C E B G d a (nI f) (nI i) := by
  have hn := H.2.1
  intro d
  induction d with
  | zero => intro i f a h1 h2; omega
  | succ d ih =>
    intro i f a h1 h2 h3 hp
    rw [wX_longest_7]
    by_cases w : i = n + 1
    · rw [show qm_x i f = i from if_neg (by omega), qu_all_gt (by omega)] at hp
      exact br_t (nI_lt (by omega) (by omega)) hp
    · refine br_f (nI_nlt (by omega) (by omega)) ?_
      by_cases c : i < f
      · refine br_t (nI_lt c (by omega)) (nm_r (nI_1 i) (ih (i + 1) f a (by omega) (by omega) h3 ?_))
        rw [show qm_x i f = f from if_pos c] at hp
        rw [show qm_x (i + 1) f = f from by unfold qm_x; split <;> omega]
        exact hp
      · rw [show qm_x i f = i from if_neg c] at hp
        refine br_f (nI_nlt (by omega) (by omega)) (xl_wb H (by omega) (fun z => ?_) (fun z => ?_))
        · rw [qu_all_em (by omega) z] at hp
          refine br_t rfl (nm_r (nI_1 i) (ih (i + 1) f a (by omega) (by omega) h3 ?_))
          rw [show qm_x (i + 1) f = i + 1 from if_neg (by omega)]
          exact hp
        · rw [qu_all_ne (by omega) z] at hp
          have hm : qu_hd (L i) ∈ L i := by
            cases hc : L i with
            | nil => rw [hc] at z; exact absurd rfl z
            | cons x l => exact List.mem_cons_self
          have hb := (H.2.2 i (by omega)).1.1 _ hm
          have hq : qm_x (i + 1) (qu_hd (L i)).1 = qu_nx i (qu_hd (L i)).1 := by unfold qm_x qu_nx; split <;> split <;> omega
          rw [← hq] at hp
          refine br_f (by decide) (xl_pe H (by omega) z (br_c (fun e => ?_) (fun e => ?_)))
          · rw [show qh_l a i (qu_hd (L i)).1 = a from if_pos e] at hp
            exact nm_r (nI_1 i) (ih (i + 1) _ _ (by omega) (by omega) (by omega) hp)
          · rw [show qh_l a i (qu_hd (L i)).1 = nI (qu_hd (L i)).1 - nI i from if_neg e] at hp
            exact nm_e (nm_r (nI_1 i) (ih (i + 1) _ _ (by omega) (by omega) (by omega) hp))
theorem xl_longest (H : xd_ok L n r C E B G) (hp : post (qu_all L n qh_l 0 (-4))) : wpX_longest post (bp, he, nI (r + 1), nI n, bk, bv, bf, bs, bg, st, uk, uv, uf, us, tx, C, E, B, G) :=
  ⟨n + 2, xl_l7 H (n + 2) 0 0 (-4) (by omega) (by omega) (by omega) hp⟩
end
