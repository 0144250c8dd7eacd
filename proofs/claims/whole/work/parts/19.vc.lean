/-! the questions -/
theorem rl_xd {r n : Nat} {K F S : Nat → Nat} {tx C E B G : Nat → Int32} (hr : r < 16) (hn : n ≤ 10) (hR : ∀ q, q < r + 1 → ∀ j, j ≤ n → xr_Rep C E B G (q * 11 + j) (ru_tb K F S tx n q j)) : xd_ok (ru_tb K F S tx n r) n r C E B G :=
  ⟨hr, hn, fun j hj => ⟨ru_tb_ok hj, hR r (by omega) j hj⟩⟩
theorem rl_yd {r n : Nat} {K F S : Nat → Nat} {uk uv uf us ki fi se : Nat → Int32} (hr : r < 16) (hn : n ≤ 10) (hP : rl_P K F S (r + 1) uk uv uf us ki fi se) : yd_0 K F S n r ki fi se :=
  ⟨hP.1, hr, hn, fun p hp => (hP.2 p hp).2⟩
theorem i_vc_find {k : Nat} {u : SX} {v : SY} (I : i_Rel k u v) (hk : k + 3 ≤ 1536) (v1 : Int32) : wpX_find (fun r => wpY_find (fun r' v' => r' = r ∧ i_Rel (k + 3) u v') v v1) u v1 := by
  obtain ⟨s, d, r, n, bk, bv, bf, bs, bg, st, uk, uv, uf, us, tx, C, E, B, G, wa, dk, df, ds, ki, fi, se, re, ta, wn, gr, rfl, rfl, hD, hU⟩ := I
  have hU' := hU
  obtain ⟨hr, hn, K, F, S, hP, hR⟩ := hU
  unfold wpX_find
  exact xl_bf (rl_xd hr hn hR) (yl_find (rl_yd hr hn hP) (fun re' _ => ⟨rfl, rl_mk hD hU'⟩))
theorem i_vc_end {k : Nat} {u : SX} {v : SY} (I : i_Rel k u v) (hk : k + 3 ≤ 1536) (v1 : Int32) : wpX_end (fun r => wpY_end (fun r' v' => r' = r ∧ i_Rel (k + 3) u v') v v1) u v1 := by
  obtain ⟨s, d, r, n, bk, bv, bf, bs, bg, st, uk, uv, uf, us, tx, C, E, B, G, wa, dk, df, ds, ki, fi, se, re, ta, wn, gr, rfl, rfl, hD, hU⟩ := I
  have hU' := hU
  obtain ⟨hr, hn, K, F, S, hP, hR⟩ := hU
  have xd := rl_xd hr hn hR
  have yd := rl_yd (n := n) hr hn hP
  unfold wpX_end
  refine xl_bf xd ?_
  cases q : qa_f (ru_tb K F S tx n r) n v1 with
  | none => exact br_t rfl (yl_end yd (fun _ re' => ⟨rfl, rl_mk hD hU'⟩) (fun i q' => by rw [q] at q'; cases q'))
  | some i =>
    have hi := qa_some hn q
    refine br_f (ru_ne4 (by omega)) (xl_pe xd hi.1 hi.2 (yl_end yd (fun q' => by rw [q] at q'; cases q') (fun i' q' re' ta' wn' gr' _ => ?_)))
    obtain rfl : i = i' := Option.some.inj (q.symm.trans q')
    exact ⟨rfl, rl_mk hD hU'⟩
theorem xl_isg {bp he up tl : Int32} {bk bv bf bs bg st uk uv uf us tx C E B G : Nat → Int32} {post : Int32 → Prop} {g : Int32} (h0 : g < 0 ∨ 2 < g → post 0) (h1 : ∀ g', g = nI g' → g' < 3 → post 1) : wpX_isGroup post (bp, he, up, tl, bk, bv, bf, bs, bg, st, uk, uv, uf, us, tx, C, E, B, G) g := by
  refine br_c (fun z => h0 (Or.inl z)) (fun z => br_c (fun w => h0 (Or.inr (Int32.lt_of_lt_of_le (by decide) w))) (fun w => ?_))
  obtain ⟨g', hg, rfl⟩ := nI_of z
  exact h1 g' rfl (Nat.not_le.mp (fun q => w (nI_le (a := 3) q hg)))
theorem rl_gno {g : Nat} (hg : g < 3) : ¬ (nI g < 0 ∨ 2 < nI g) := fun h => h.elim (nI_pos (by omega)) (nI_nlt (a := 2) (by omega) (by omega))
theorem i_vc_groupIn {k : Nat} {u : SX} {v : SY} (I : i_Rel k u v) (hk : k + 3 ≤ 1536) (v1 : Int32) (v2 : Int32) : wpX_groupIn (fun r => wpY_groupIn (fun r' v' => r' = r ∧ i_Rel (k + 3) u v') v v1 v2) u v1 v2 := by
  obtain ⟨s, d, r, n, bk, bv, bf, bs, bg, st, uk, uv, uf, us, tx, C, E, B, G, wa, dk, df, ds, ki, fi, se, re, ta, wn, gr, rfl, rfl, hD, hU⟩ := I
  have hU' := hU
  obtain ⟨hr, hn, K, F, S, hP, hR⟩ := hU
  have xd := rl_xd hr hn hR
  have yd := rl_yd (n := n) hr hn hP
  unfold wpX_groupIn
  refine xl_bf xd ?_
  cases q : qa_f (ru_tb K F S tx n r) n v1 with
  | none => exact br_t rfl (yl_groupIn yd (fun _ _ _ _ _ _ => ⟨rfl, rl_mk hD hU'⟩) (fun i g' q' => by rw [q] at q'; cases q'))
  | some i =>
    have hi := qa_some hn q
    refine br_f (ru_ne4 (by omega)) (xl_isg (fun z => br_t rfl (yl_groupIn yd (fun _ _ _ _ _ _ => ⟨rfl, rl_mk hD hU'⟩) (fun i g' _ eg hg => absurd (eg ▸ z) (rl_gno hg)))) (fun g eg hg => br_f (by decide) ?_))
    subst eg
    have hm := (qu_hd_sel (x := 2047) hi.2 (fun s hs => by
      have := (ru_tb_ok (K := K) (F := F) (S := S) (t := tx) (p := r) hi.1).1 s hs
      rw [yb_2047, decide_eq_true (by omega)])).2.1
    refine xl_pe xd hi.1 hi.2 (xl_gow (s := qu_hd (ru_tb K F S tx n r i)) rfl rfl xd hi.1 hm hg (yl_groupIn yd (fun z => ?_) (fun i' g' q' eg hg' re' ta' wn' gr' => ?_)))
    · rcases z with z | z
      · rw [q] at z; cases z
      · exact absurd z (rl_gno hg)
    · obtain rfl : i = i' := Option.some.inj (q.symm.trans q')
      obtain rfl : g = g' := (nI_eq (by omega) (by omega)).mp eg
      exact ⟨rfl, rl_mk hD hU'⟩
theorem i_vc_spans {k : Nat} {u : SX} {v : SY} (I : i_Rel k u v) (hk : k + 3 ≤ 1536) (v1 : Int32) (v2 : Int32) : wpX_spans (fun r => wpY_spans (fun r' v' => r' = r ∧ i_Rel (k + 3) u v') v v1 v2) u v1 v2 := by
  obtain ⟨s, d, r, n, bk, bv, bf, bs, bg, st, uk, uv, uf, us, tx, C, E, B, G, wa, dk, df, ds, ki, fi, se, re, ta, wn, gr, rfl, rfl, hD, hU⟩ := I
  have hU' := hU
  obtain ⟨hr, hn, K, F, S, hP, hR⟩ := hU
  have xd := rl_xd hr hn hR
  have yd := rl_yd (n := n) hr hn hP
  have bad : (v1 < 0 ∨ nI n < v1 ∨ v2 < 0 ∨ nI n < v2) → wpY_spans (fun r' v' => r' = 0 ∧ i_Rel (k + 3) (nI s, nI d, nI (r + 1), nI n, bk, bv, bf, bs, bg, st, uk, uv, uf, us, tx, C, E, B, G) v') (nI s, nI d, nI r, nI n, wa, dk, df, ds, bg, st, ki, fi, se, tx, re, ta, wn, gr) v1 v2 := fun z =>
    yl_spans yd (fun _ => ⟨rfl, rl_mk hD hU'⟩) (fun i' j' e1 e2 h1 h2 => by
      subst e1 e2
      rcases z with z | z | z | z
      · exact absurd z (nI_pos (by omega))
      · exact absurd z (nI_nlt h1 (by omega))
      · exact absurd z (nI_pos (by omega))
      · exact absurd z (nI_nlt h2 (by omega)))
  unfold wpX_spans
  refine br_c (fun z => br_t rfl (bad (Or.inl z))) (fun z => br_c (fun w => br_t rfl (bad (Or.inr (Or.inl w)))) (fun w => br_f (by decide) (br_c (fun z' => br_t rfl (bad (Or.inr (Or.inr (Or.inl z'))))) (fun z' => br_c (fun w' => br_t rfl (bad (Or.inr (Or.inr (Or.inr w'))))) (fun w' => br_f (by decide) ?_)))))
  obtain ⟨i, hi, rfl⟩ := nI_of z
  obtain ⟨j, hj, rfl⟩ := nI_of z'
  have hi2 : i ≤ n := Nat.not_lt.mp (fun e => w (nI_lt e hi))
  have hj2 : j ≤ n := Nat.not_lt.mp (fun e => w' (nI_lt e hj))
  have good : wpY_spans (fun r' v' => r' = (if ru_any (ru_tb K F S tx n r i) j = true then 1 else 0) ∧ i_Rel (k + 3) (nI s, nI d, nI (r + 1), nI n, bk, bv, bf, bs, bg, st, uk, uv, uf, us, tx, C, E, B, G) v') (nI s, nI d, nI r, nI n, wa, dk, df, ds, bg, st, ki, fi, se, tx, re, ta, wn, gr) (nI i) (nI j) := by
    refine yl_spans yd (fun z => ?_) (fun i' j' e1 e2 h1 h2 re' _ => ?_)
    · rcases z with z | z | z | z
      · exact absurd z (nI_pos (by omega))
      · exact absurd z (nI_nlt hi2 (by omega))
      · exact absurd z (nI_pos (by omega))
      · exact absurd z (nI_nlt hj2 (by omega))
    · obtain rfl : i = i' := (nI_eq (by omega) (by omega)).mp e1
      obtain rfl : j = j' := (nI_eq (by omega) (by omega)).mp e2
      exact ⟨rfl, rl_mk hD hU'⟩
  refine xl_wr rfl rfl xd hi2 hj2 ?_
  by_cases c : ru_any (ru_tb K F S tx n r i) j = true
  · rw [if_pos c] at good ⊢
    exact br_f (by decide) good
  · rw [if_neg c] at good ⊢
    exact br_t rfl good
theorem i_vc_groupInWhole {k : Nat} {u : SX} {v : SY} (I : i_Rel k u v) (hk : k + 3 ≤ 1536) (v1 : Int32) : wpX_groupInWhole (fun r => wpY_groupInWhole (fun r' v' => r' = r ∧ i_Rel (k + 3) u v') v v1) u v1 := by
  obtain ⟨s, d, r, n, bk, bv, bf, bs, bg, st, uk, uv, uf, us, tx, C, E, B, G, wa, dk, df, ds, ki, fi, se, re, ta, wn, gr, rfl, rfl, hD, hU⟩ := I
  have hU' := hU
  obtain ⟨hr, hn, K, F, S, hP, hR⟩ := hU
  have xd := rl_xd hr hn hR
  have yd := rl_yd (n := n) hr hn hP
  unfold wpX_groupInWhole
  refine xl_isg (fun z => br_t rfl (yl_giw yd (fun _ _ _ _ _ _ => ⟨rfl, rl_mk hD hU'⟩) (fun g' s' eg hg => absurd (eg ▸ z) (rl_gno hg)))) (fun g eg hg => br_f (by decide) (xl_wr (i := 0) (j := n) rfl rfl xd (by omega) (Nat.le_refl n) ?_))
  subst eg
  by_cases c : ru_any (ru_tb K F S tx n r 0) n = true
  · rw [if_pos c]
    obtain ⟨a, ha, hb⟩ := ru_any_iff.mp c
    refine br_f (by decide) (xl_gow (i := 0) (s := a) rfl (by rw [hb]) xd (by omega) ha hg (yl_giw yd (fun z => ?_) (fun g' s' eg hg' hs1 hs2 re' ta' wn' gr' => ?_)))
    · rcases z with z | z | z
      · exact absurd (Or.inl z) (rl_gno hg)
      · exact absurd (Or.inr z) (rl_gno hg)
      · rw [c] at z; cases z
    · obtain rfl : g = g' := (nI_eq (by omega) (by omega)).mp eg
      have e1 := (hR r (by omega) 0 (by omega)).2.2.2 a ha g hg
      have e2 := (hR r (by omega) 0 (by omega)).2.2.2 s' hs1 g hg
      rw [hs2, ← hb] at e2
      exact ⟨e2.symm.trans e1, rl_mk hD hU'⟩
  · rw [if_neg c]
    exact br_t rfl (yl_giw yd (fun _ _ _ _ _ _ => ⟨rfl, rl_mk hD hU'⟩) (fun g' s' _ _ hs1 hs2 => absurd (ru_any_iff.mpr ⟨s', hs1, hs2⟩) c))
theorem i_vc_count {k : Nat} {u : SX} {v : SY} (I : i_Rel k u v) (hk : k + 3 ≤ 1536) : wpX_count (fun r => wpY_count (fun r' v' => r' = r ∧ i_Rel (k + 3) u v') v) u := by
  obtain ⟨s, d, r, n, bk, bv, bf, bs, bg, st, uk, uv, uf, us, tx, C, E, B, G, wa, dk, df, ds, ki, fi, se, re, ta, wn, gr, rfl, rfl, hD, hU⟩ := I
  have hU' := hU
  obtain ⟨hr, hn, K, F, S, hP, hR⟩ := hU
  exact xl_count (rl_xd hr hn hR) (yl_count (rl_yd hr hn hP) (fun _ _ _ _ _ => ⟨rfl, rl_mk hD hU'⟩))
theorem i_vc_longest {k : Nat} {u : SX} {v : SY} (I : i_Rel k u v) (hk : k + 3 ≤ 1536) : wpX_longest (fun r => wpY_longest (fun r' v' => r' = r ∧ i_Rel (k + 3) u v') v) u := by
  obtain ⟨s, d, r, n, bk, bv, bf, bs, bg, st, uk, uv, uf, us, tx, C, E, B, G, wa, dk, df, ds, ki, fi, se, re, ta, wn, gr, rfl, rfl, hD, hU⟩ := I
  have hU' := hU
  obtain ⟨hr, hn, K, F, S, hP, hR⟩ := hU
  exact xl_longest (rl_xd hr hn hR) (yl_longest (rl_yd hr hn hP) (fun _ _ _ _ _ => ⟨rfl, rl_mk hD hU'⟩))
