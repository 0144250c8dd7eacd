/-! the component: addRuns, fillTables -/
def pc_k (k : Nat) : Nat := if k < 3 then 0 else if k ≤ 8 then k - 2 else 7
def pc_v (k : Nat) : Nat := if k < 3 then k else if 9 ≤ k then k - 9 else 0
def pc_ok (K F S : Nat → Nat) (p : Nat) (uk uv uf us : Nat → Int32) : Prop :=
  uk p = nI (pc_k (K p)) ∧ uv p = nI (pc_v (K p)) ∧ (5 ≤ K p → uf p = nI (F p)) ∧ (K p = 5 ∨ K p = 6 → us p = nI (S p))
def xf_low (C E B G : Nat → Int32) (T : Nat → Nat → List ru_R) (n p i : Nat) : Prop :=
  (∀ q, q < p → ∀ j, j ≤ n → xr_Rep C E B G (q * 11 + j) (T q j)) ∧ (∀ j, i < j → j ≤ n → xr_Rep C E B G (p * 11 + j) (T p j))
section
variable {bp he up tl : Int32} {bk bv bf bs bg st uk uv uf us tx C E B G : Nat → Int32} {post : SX → Prop}
theorem xl_ones {p i n e : Nat} {p1 : Int32} (e1 : p1 = nI e) (hp16 : p < 16) (hi : i ≤ n) (hn : n ≤ 10) (hb : i ≤ e ∧ e ≤ n) {l : List ru_R} (ho : ru_ok i n l) (hR : xr_Rep C E B G (p * 11 + i) l)
    (hp : ∀ C' E' B' G', xr_Rep C' E' B' G' (p * 11 + i) (ru_add l [(e, ru_no)]) → xr_fr (p * 11 + i) C E B G C' E' B' G' → post (bp, he, up, tl, bk, bv, bf, bs, bg, st, uk, uv, uf, us, tx, C', E', B', G')) : wpX_addRun post (bp, he, up, tl, bk, bv, bf, bs, bg, st, uk, uv, uf, us, tx, C, E, B, G) (nI (p * 11 + i)) p1 (-1) (-1) :=
  xl_addRun (r := (e, ru_no)) (A := none) (L := none) e1 rfl rfl (by omega) hn ho hR hb (fun a ha => (nomatch ha)) (fun a ha => (nomatch ha)) (fun g hg => rfl) hp
theorem xa_0 {K F S : Nat → Nat} {n m p i : Nat} (wf : ru_wf K F S m) (hm : m ≤ 16) (hpm : p < m) (hi : i ≤ n) (hn : n ≤ 10) (h : K p < 3) (hk : pc_ok K F S p uk uv uf us) (hR : xr_Rep C E B G (p * 11 + i) [])
    (hp : ∀ C' E' B' G', xr_Rep C' E' B' G' (p * 11 + i) (ru_tb K F S tx n p i) → xr_fr (p * 11 + i) C E B G C' E' B' G' → post (bp, he, up, nI n, bk, bv, bf, bs, bg, st, uk, uv, uf, us, tx, C', E', B', G')) : wpX_addRuns post (bp, he, up, nI n, bk, bv, bf, bs, bg, st, uk, uv, uf, us, tx, C, E, B, G) (nI p) (nI i) := by
  have cp : (nI p).toNatClampNeg = p := nI_clamp (by omega)
  have ci : (nI i).toNatClampNeg = i := nI_clamp (by omega)
  have vp : vp_in (nI p) 16 := vp_in_nI (by omega) (by omega)
  have ek : uk p = 0 := by rw [hk.1, show pc_k (K p) = 0 from if_pos h]; rfl
  have ev : uv p = nI (K p) := by rw [hk.2.1, show pc_v (K p) = K p from if_pos h]
  rw [ru_tb_eq wf hn hm hpm hi, ru_st0 h] at hp
  refine nm_r (e' := nI (p * 11 + i)) (xi_11 p i) ⟨vp, nm_r (e' := uf p) (by rw [cp]) ⟨vp, nm_r (e' := us p) (by rw [cp]) ⟨vp, nm_r (e' := 0) (by rw [cp, ek]) (br_f (by decide) (br_f (by decide) (br_t rfl ?_)))⟩⟩⟩
  by_cases z : i < n
  · refine br_f (nI_ge z (by omega)) ⟨vp_in_nI (by omega) (by omega), vp, ?_⟩
    rw [cp, ci, ev]
    refine br_c (fun q => ?_) (fun q => ?_)
    · rw [if_pos ⟨z, q⟩] at hp
      exact xl_ones (nI_1 i) (by omega) hi hn ⟨by omega, by omega⟩ (ru_ok_nil i n) hR hp
    · rw [if_neg (fun w => q w.2)] at hp
      exact hp C E B G hR xr_fr_rf
  · rw [if_neg (fun w => z w.1)] at hp
    exact br_t (nI_le (by omega) (by omega)) (hp C E B G hR xr_fr_rf)
theorem xa_3 {K F S : Nat → Nat} {n m p i : Nat} (wf : ru_wf K F S m) (hm : m ≤ 16) (hpm : p < m) (hi : i ≤ n) (hn : n ≤ 10) (h : K p = 3) (hk : pc_ok K F S p uk uv uf us) (hR : xr_Rep C E B G (p * 11 + i) [])
    (hp : ∀ C' E' B' G', xr_Rep C' E' B' G' (p * 11 + i) (ru_tb K F S tx n p i) → xr_fr (p * 11 + i) C E B G C' E' B' G' → post (bp, he, up, nI n, bk, bv, bf, bs, bg, st, uk, uv, uf, us, tx, C', E', B', G')) : wpX_addRuns post (bp, he, up, nI n, bk, bv, bf, bs, bg, st, uk, uv, uf, us, tx, C, E, B, G) (nI p) (nI i) := by
  have cp : (nI p).toNatClampNeg = p := nI_clamp (by omega)
  have vp : vp_in (nI p) 16 := vp_in_nI (by omega) (by omega)
  have ek : uk p = 1 := by rw [hk.1, h]; rfl
  rw [ru_tb_eq wf hn hm hpm hi, ru_st3 h] at hp
  refine nm_r (e' := nI (p * 11 + i)) (xi_11 p i) ⟨vp, nm_r (e' := uf p) (by rw [cp]) ⟨vp, nm_r (e' := us p) (by rw [cp]) ⟨vp, nm_r (e' := 1) (by rw [cp, ek]) (br_f (by decide) (br_f (by decide) (br_f (by decide) (br_t rfl ?_))))⟩⟩⟩
  by_cases z : i < n
  · rw [if_pos z] at hp
    exact br_f (nI_ge z (by omega)) (xl_ones (nI_1 i) (by omega) hi hn ⟨by omega, by omega⟩ (ru_ok_nil i n) hR hp)
  · rw [if_neg z] at hp
    exact br_t (nI_le (by omega) (by omega)) (hp C E B G hR xr_fr_rf)
theorem xa_4 {K F S : Nat → Nat} {n m p i : Nat} (wf : ru_wf K F S m) (hm : m ≤ 16) (hpm : p < m) (hi : i ≤ n) (hn : n ≤ 10) (h : K p = 4) (hk : pc_ok K F S p uk uv uf us) (hR : xr_Rep C E B G (p * 11 + i) [])
    (hp : ∀ C' E' B' G', xr_Rep C' E' B' G' (p * 11 + i) (ru_tb K F S tx n p i) → xr_fr (p * 11 + i) C E B G C' E' B' G' → post (bp, he, up, nI n, bk, bv, bf, bs, bg, st, uk, uv, uf, us, tx, C', E', B', G')) : wpX_addRuns post (bp, he, up, nI n, bk, bv, bf, bs, bg, st, uk, uv, uf, us, tx, C, E, B, G) (nI p) (nI i) := by
  have cp : (nI p).toNatClampNeg = p := nI_clamp (by omega)
  have vp : vp_in (nI p) 16 := vp_in_nI (by omega) (by omega)
  have ek : uk p = 2 := by rw [hk.1, h]; rfl
  rw [ru_tb_eq wf hn hm hpm hi, ru_st4 h] at hp
  refine nm_r (e' := nI (p * 11 + i)) (xi_11 p i) ⟨vp, nm_r (e' := uf p) (by rw [cp]) ⟨vp, nm_r (e' := us p) (by rw [cp]) ⟨vp, nm_r (e' := 2) (by rw [cp, ek]) (br_f (by decide) (br_f (by decide) (br_f (by decide) (br_f (by decide) (br_t rfl ?_)))))⟩⟩⟩
  exact xl_ones rfl (by omega) hi hn ⟨by omega, by omega⟩ (ru_ok_nil i n) hR hp
theorem xa_5 {K F S : Nat → Nat} {n m p i : Nat} (wf : ru_wf K F S m) (hm : m ≤ 16) (hpm : p < m) (hi : i ≤ n) (hn : n ≤ 10) (h : K p = 5) (hk : pc_ok K F S p uk uv uf us) (hlow : xf_low C E B G (ru_tb K F S tx n) n p i) (hR : xr_Rep C E B G (p * 11 + i) [])
    (hp : ∀ C' E' B' G', xr_Rep C' E' B' G' (p * 11 + i) (ru_tb K F S tx n p i) → xr_fr (p * 11 + i) C E B G C' E' B' G' → post (bp, he, up, nI n, bk, bv, bf, bs, bg, st, uk, uv, uf, us, tx, C', E', B', G')) : wpX_addRuns post (bp, he, up, nI n, bk, bv, bf, bs, bg, st, uk, uv, uf, us, tx, C, E, B, G) (nI p) (nI i) := by
  have cp : (nI p).toNatClampNeg = p := nI_clamp (by omega)
  have vp : vp_in (nI p) 16 := vp_in_nI (by omega) (by omega)
  have ek : uk p = 3 := by rw [hk.1, h]; rfl
  have h5 := (wf p hpm).2 (by omega)
  rw [ru_tb_eq wf hn hm hpm hi, ru_st5 h] at hp
  refine nm_r (e' := nI (p * 11 + i)) (xi_11 p i) ⟨vp, nm_r (e' := nI (F p)) (by rw [cp]; exact hk.2.2.1 (by omega)) ⟨vp, nm_r (e' := nI (S p)) (by rw [cp]; exact hk.2.2.2 (by omega)) ⟨vp, nm_r (e' := 3) (by rw [cp, ek]) (br_f (by decide) (br_f (by decide) (br_f (by decide) (br_f (by decide) (br_f (by decide) (br_t rfl ?_))))))⟩⟩⟩
  exact xl_both (xi_11 (F p) i) rfl rfl (by omega) (by omega) (by omega) (by omega) hn (by omega) (ru_ok_nil i n) hR (ru_tb_ok hi) (hlow.1 (F p) h5.1 i hi) (fun k hk1 hk2 => ⟨by omega, ru_tb_ok hk2, hlow.1 (S p) h5.2 k hk2⟩) (fun k hk2 => ru_tb_ok hk2) hp
theorem xa_6 {K F S : Nat → Nat} {n m p i : Nat} (wf : ru_wf K F S m) (hm : m ≤ 16) (hpm : p < m) (hi : i ≤ n) (hn : n ≤ 10) (h : K p = 6) (hk : pc_ok K F S p uk uv uf us) (hlow : xf_low C E B G (ru_tb K F S tx n) n p i) (hR : xr_Rep C E B G (p * 11 + i) [])
    (hp : ∀ C' E' B' G', xr_Rep C' E' B' G' (p * 11 + i) (ru_tb K F S tx n p i) → xr_fr (p * 11 + i) C E B G C' E' B' G' → post (bp, he, up, nI n, bk, bv, bf, bs, bg, st, uk, uv, uf, us, tx, C', E', B', G')) : wpX_addRuns post (bp, he, up, nI n, bk, bv, bf, bs, bg, st, uk, uv, uf, us, tx, C, E, B, G) (nI p) (nI i) := by
  have cp : (nI p).toNatClampNeg = p := nI_clamp (by omega)
  have vp : vp_in (nI p) 16 := vp_in_nI (by omega) (by omega)
  have ek : uk p = 4 := by rw [hk.1, h]; rfl
  have h5 := (wf p hpm).2 (by omega)
  rw [ru_tb_eq wf hn hm hpm hi, ru_st6 h] at hp
  refine nm_r (e' := nI (p * 11 + i)) (xi_11 p i) ⟨vp, nm_r (e' := nI (F p)) (by rw [cp]; exact hk.2.2.1 (by omega)) ⟨vp, nm_r (e' := nI (S p)) (by rw [cp]; exact hk.2.2.2 (by omega)) ⟨vp, nm_r (e' := 4) (by rw [cp, ek]) (br_f (by decide) (br_f (by decide) (br_f (by decide) (br_f (by decide) (br_f (by decide) (br_f (by decide) (br_t rfl ?_)))))))⟩⟩⟩
  exact xl_same (xi_11 (F p) i) (by omega) (by omega) (by omega) hn (ru_ok_nil i n) hR (ru_tb_ok hi) (hlow.1 (F p) h5.1 i hi) (fun C' E' B' G' hR' hfr' =>
    xl_same (xi_11 (S p) i) (by omega) (by omega) (by omega) hn (ru_ok_add _ _ (ru_ok_nil i n) (ru_tb_ok hi).1) hR' (ru_tb_ok hi) (xr_keep hfr' (by omega) (ru_tb_ok hi) hn (hlow.1 (S p) h5.2 i hi)) (fun C2 E2 B2 G2 hR2 hfr2 => hp C2 E2 B2 G2 hR2 (xr_fr_tr hfr' hfr2)))
theorem xa_7 {K F S : Nat → Nat} {n m p i : Nat} (wf : ru_wf K F S m) (hm : m ≤ 16) (hpm : p < m) (hi : i ≤ n) (hn : n ≤ 10) (h : K p = 7) (hk : pc_ok K F S p uk uv uf us) (hlow : xf_low C E B G (ru_tb K F S tx n) n p i) (hR : xr_Rep C E B G (p * 11 + i) [])
    (hp : ∀ C' E' B' G', xr_Rep C' E' B' G' (p * 11 + i) (ru_tb K F S tx n p i) → xr_fr (p * 11 + i) C E B G C' E' B' G' → post (bp, he, up, nI n, bk, bv, bf, bs, bg, st, uk, uv, uf, us, tx, C', E', B', G')) : wpX_addRuns post (bp, he, up, nI n, bk, bv, bf, bs, bg, st, uk, uv, uf, us, tx, C, E, B, G) (nI p) (nI i) := by
  have cp : (nI p).toNatClampNeg = p := nI_clamp (by omega)
  have vp : vp_in (nI p) 16 := vp_in_nI (by omega) (by omega)
  have ek : uk p = 5 := by rw [hk.1, h]; rfl
  have h5 := (wf p hpm).2 (by omega)
  rw [ru_tb_eq wf hn hm hpm hi, ru_st7 h] at hp
  refine nm_r (e' := nI (p * 11 + i)) (xi_11 p i) ⟨vp, nm_r (e' := nI (F p)) (by rw [cp]; exact hk.2.2.1 (by omega)) ⟨vp, nm_r (e' := us p) (by rw [cp]) ⟨vp, nm_r (e' := 5) (by rw [cp, ek]) (br_f (by decide) (br_f (by decide) (br_f (by decide) (br_f (by decide) (br_f (by decide) (br_f (by decide) (br_f (by decide) (br_t rfl ?_))))))))⟩⟩⟩
  exact xl_both (xi_11 (F p) i) rfl (nI_1 i) (by omega) (by omega) (by omega) (by omega) hn (by omega) (ru_ok_nil i n) hR (ru_tb_ok hi) (hlow.1 (F p) h5.1 i hi) (fun k hk1 hk2 => ⟨by omega, ru_tb_ok hk2, hlow.2 k (by omega) hk2⟩) (fun k hk2 => ru_tb_ok hk2) (fun C' E' B' G' hR' hfr' =>
    xl_ones rfl (by omega) hi hn ⟨by omega, by omega⟩ (ru_ok_add _ _ (ru_ok_nil i n) (ru_both_bd (ru_tb_ok hi) (fun k hk2 => ru_tb_ok hk2))) hR' (fun C2 E2 B2 G2 hR2 hfr2 => hp C2 E2 B2 G2 hR2 (xr_fr_tr hfr' hfr2)))
theorem xa_8 {K F S : Nat → Nat} {n m p i : Nat} (wf : ru_wf K F S m) (hm : m ≤ 16) (hpm : p < m) (hi : i ≤ n) (hn : n ≤ 10) (h : K p = 8) (hk : pc_ok K F S p uk uv uf us) (hlow : xf_low C E B G (ru_tb K F S tx n) n p i) (hR : xr_Rep C E B G (p * 11 + i) [])
    (hp : ∀ C' E' B' G', xr_Rep C' E' B' G' (p * 11 + i) (ru_tb K F S tx n p i) → xr_fr (p * 11 + i) C E B G C' E' B' G' → post (bp, he, up, nI n, bk, bv, bf, bs, bg, st, uk, uv, uf, us, tx, C', E', B', G')) : wpX_addRuns post (bp, he, up, nI n, bk, bv, bf, bs, bg, st, uk, uv, uf, us, tx, C, E, B, G) (nI p) (nI i) := by
  have cp : (nI p).toNatClampNeg = p := nI_clamp (by omega)
  have vp : vp_in (nI p) 16 := vp_in_nI (by omega) (by omega)
  have ek : uk p = 6 := by rw [hk.1, h]; rfl
  have h5 := (wf p hpm).2 (by omega)
  rw [ru_tb_eq wf hn hm hpm hi, ru_st8 h] at hp
  refine nm_r (e' := nI (p * 11 + i)) (xi_11 p i) ⟨vp, nm_r (e' := nI (F p)) (by rw [cp]; exact hk.2.2.1 (by omega)) ⟨vp, nm_r (e' := us p) (by rw [cp]) ⟨vp, nm_r (e' := 6) (by rw [cp, ek]) (br_f (by decide) (br_f (by decide) (br_f (by decide) (br_f (by decide) (br_f (by decide) (br_f (by decide) (br_f (by decide) (br_f (by decide) (br_t rfl ?_)))))))))⟩⟩⟩
  exact xl_ones rfl (by omega) hi hn ⟨by omega, by omega⟩ (ru_ok_nil i n) hR (fun C' E' B' G' hR' hfr' =>
    xl_both (xi_11 (F p) i) rfl (nI_1 i) (by omega) (by omega) (by omega) (by omega) hn (by omega) (ru_ok_add _ _ (ru_ok_nil i n) (ru_one_bd ⟨by omega, by omega⟩)) hR' (ru_tb_ok hi) (xr_keep hfr' (by omega) (ru_tb_ok hi) hn (hlow.1 (F p) h5.1 i hi)) (fun k hk1 hk2 => ⟨by omega, ru_tb_ok hk2, xr_keep hfr' (by omega) (ru_tb_ok hk2) hn (hlow.2 k (by omega) hk2)⟩) (fun k hk2 => ru_tb_ok hk2) (fun C2 E2 B2 G2 hR2 hfr2 => hp C2 E2 B2 G2 hR2 (xr_fr_tr hfr' hfr2)))
theorem xa_9 {K F S : Nat → Nat} {n m p i : Nat} (wf : ru_wf K F S m) (hm : m ≤ 16) (hpm : p < m) (hi : i ≤ n) (hn : n ≤ 10) (h : 9 ≤ K p) (hk : pc_ok K F S p uk uv uf us) (hlow : xf_low C E B G (ru_tb K F S tx n) n p i) (hR : xr_Rep C E B G (p * 11 + i) [])
    (hp : ∀ C' E' B' G', xr_Rep C' E' B' G' (p * 11 + i) (ru_tb K F S tx n p i) → xr_fr (p * 11 + i) C E B G C' E' B' G' → post (bp, he, up, nI n, bk, bv, bf, bs, bg, st, uk, uv, uf, us, tx, C', E', B', G')) : wpX_addRuns post (bp, he, up, nI n, bk, bv, bf, bs, bg, st, uk, uv, uf, us, tx, C, E, B, G) (nI p) (nI i) := by
  have cp : (nI p).toNatClampNeg = p := nI_clamp (by omega)
  have vp : vp_in (nI p) 16 := vp_in_nI (by omega) (by omega)
  have ek : uk p = 7 := by
    rw [hk.1, show pc_k (K p) = 7 from by unfold pc_k; rw [if_neg (by omega), if_neg (by omega)]]
    rfl
  have ev : uv p = nI (K p - 9) := by rw [hk.2.1, show pc_v (K p) = K p - 9 from by unfold pc_v; rw [if_neg (by omega), if_pos h]]
  have h5 := (wf p hpm).2 (by omega)
  have hK := (wf p hpm).1
  rw [ru_tb_eq wf hn hm hpm hi, ru_st9 h] at hp
  refine nm_r (e' := nI (p * 11 + i)) (xi_11 p i) ⟨vp, nm_r (e' := nI (F p)) (by rw [cp]; exact hk.2.2.1 (by omega)) ⟨vp, nm_r (e' := us p) (by rw [cp]) ⟨vp, nm_r (e' := 7) (by rw [cp, ek]) (br_f (by decide) (br_f (by decide) (br_f (by decide) (br_f (by decide) (br_f (by decide) (br_f (by decide) (br_f (by decide) (br_f (by decide) (br_f (by decide) (br_t rfl ?_))))))))))⟩⟩⟩
  exact xl_same (xi_11 (F p) i) (by omega) (by omega) (by omega) hn (ru_ok_nil i n) hR (ru_tb_ok hi) (hlow.1 (F p) h5.1 i hi) (fun C' E' B' G' hR' hfr' =>
    ⟨vp, xl_setg (by rw [cp, ev]) (by omega) (by omega) hn (by omega) (ru_ok_add _ _ (ru_ok_nil i n) (ru_tb_ok hi).1) hR' (fun G2 hR2 hfr2 => hp C' E' B' G2 hR2 (xr_fr_tr hfr' hfr2))⟩)
theorem xl_addRuns {K F S : Nat → Nat} {n m p i : Nat} (wf : ru_wf K F S m) (hm : m ≤ 16) (hpm : p < m) (hi : i ≤ n) (hn : n ≤ 10) (hk : pc_ok K F S p uk uv uf us) (hlow : xf_low C E B G (ru_tb K F S tx n) n p i) (hR : xr_Rep C E B G (p * 11 + i) [])
    (hp : ∀ C' E' B' G', xr_Rep C' E' B' G' (p * 11 + i) (ru_tb K F S tx n p i) → xr_fr (p * 11 + i) C E B G C' E' B' G' → post (bp, he, up, nI n, bk, bv, bf, bs, bg, st, uk, uv, uf, us, tx, C', E', B', G')) : wpX_addRuns post (bp, he, up, nI n, bk, bv, bf, bs, bg, st, uk, uv, uf, us, tx, C, E, B, G) (nI p) (nI i) := by
  rcases ru_kc (K p) with h | h | h | h | h | h | h | h
  · exact xa_0 wf hm hpm hi hn h hk hR hp
  · exact xa_3 wf hm hpm hi hn h hk hR hp
  · exact xa_4 wf hm hpm hi hn h hk hR hp
  · exact xa_5 wf hm hpm hi hn h hk hlow hR hp
  · exact xa_6 wf hm hpm hi hn h hk hlow hR hp
  · exact xa_7 wf hm hpm hi hn h hk hlow hR hp
  · exact xa_8 wf hm hpm hi hn h hk hlow hR hp
  · exact xa_9 wf hm hpm hi hn h hk hlow hR hp
theorem xl_f15 {K F S : Nat → Nat} {n m p : Nat} {J : Int32 → Int32 → Int32 → Int32 → Int32 → (Nat → Int32) → (Nat → Int32) → (Nat → Int32) → (Nat → Int32) → (Nat → Int32) → (Nat → Int32) → (Nat → Int32) → (Nat → Int32) → (Nat → Int32) → (Nat → Int32) → (Nat → Int32) → (Nat → Int32) → (Nat → Int32) → (Nat → Int32) → (Nat → Int32) → Prop}
    (wf : ru_wf K F S m) (hm : m ≤ 16) (hpm : p < m) (hn : n ≤ 10) (hk : pc_ok K F S p uk uv uf us)
    (hJ : ∀ C' E' B' G', (∀ q, q < p + 1 → ∀ j, j ≤ n → xr_Rep C' E' B' G' (q * 11 + j) (ru_tb K F S tx n q j)) → J (nI (p + 1)) bp he up (nI n) bk bv bf bs bg st uk uv uf us tx C' E' B' G') :
    ∀ (d : Nat) (C E B G : Nat → Int32), d ≤ n + 1 → (∀ q, q < p → ∀ j, j ≤ n → xr_Rep C E B G (q * 11 + j) (ru_tb K F S tx n q j)) → (∀ j, d ≤ j → j ≤ n → xr_Rep C E B G (p * 11 + j) (ru_tb K F S tx n p j)) → wX_fillTables_15 post J (nI p) (d + 1) (nI d + (-1)) bp he up (nI n) bk bv bf bs bg st uk uv uf us tx C E B G := by
  intro d
  induction d with
  | zero =>
    intro C E B G _ h1 h2
    rw [wX_fillTables_15]
    refine br_t (by decide) (nm_r (nI_1 p) (hJ C E B G (fun q hq j hj => ?_)))
    by_cases w : q = p
    · rw [w]
      exact h2 j (by omega) hj
    · exact h1 q (by omega) j hj
  | succ d ih =>
    intro C E B G hd h1 h2
    rw [wX_fillTables_15, pk_m1 d]
    refine br_f (nI_pos (by omega)) (xl_clear (by omega) (by omega) (fun C' B' hR hfr => xl_addRuns wf hm hpm (by omega) hn hk ⟨fun q hq j hj => xr_keep hfr (by omega) (ru_tb_ok hj) hn (h1 q hq j hj), fun j hj1 hj2 => xr_keep hfr (by omega) (ru_tb_ok hj2) hn (h2 j (by omega) hj2)⟩ hR (fun C2 E2 B2 G2 hR2 hfr2 => nm_e (ih C2 E2 B2 G2 (by omega) (fun q hq j hj => ?_) (fun j hj1 hj2 => ?_)))))
    · exact xr_keep (xr_fr_tr hfr hfr2) (by omega) (ru_tb_ok hj) hn (h1 q hq j hj)
    · by_cases w : j = d
      · rw [w]
        exact hR2
      · exact xr_keep (xr_fr_tr hfr hfr2) (by omega) (ru_tb_ok hj2) hn (h2 j (by omega) hj2)
theorem xl_f2 {K F S : Nat → Nat} {n m : Nat} (wf : ru_wf K F S m) (hm : m ≤ 16) (hn : n ≤ 10) (hk : ∀ p, p < m → pc_ok K F S p uk uv uf us)
    (hp : ∀ C' E' B' G', (∀ q, q < m → ∀ j, j ≤ n → xr_Rep C' E' B' G' (q * 11 + j) (ru_tb K F S tx n q j)) → post (bp, he, nI m, nI n, bk, bv, bf, bs, bg, st, uk, uv, uf, us, tx, C', E', B', G')) :
    ∀ (d p : Nat) (C E B G : Nat → Int32), m < d + p → p ≤ m → (∀ q, q < p → ∀ j, j ≤ n → xr_Rep C E B G (q * 11 + j) (ru_tb K F S tx n q j)) → wX_fillTables_2 post d (nI p) bp he (nI m) (nI n) bk bv bf bs bg st uk uv uf us tx C E B G := by
  intro d
  induction d with
  | zero => intro p C E B G h1 h2; omega
  | succ d ih =>
    intro p C E B G h1 h2 h3
    rw [wX_fillTables_2]
    by_cases w : p = m
    · subst w
      exact br_t (nI_le (Nat.le_refl _) (by omega)) (hp C E B G h3)
    · refine br_f (nI_ge (by omega) (by omega)) ⟨n + 1 + 1, ?_⟩
      have h := xl_f15 (post := post) (up := nI m) (bp := bp) (he := he) (bk := bk) (bv := bv) (bf := bf) (bs := bs) (bg := bg) (st := st) (J := wX_fillTables_2 post d) wf hm (show p < m by omega) hn (hk p (by omega)) (fun C' E' B' G' h4 => ih (p + 1) C' E' B' G' (by omega) (by omega) h4) (n + 1) C E B G (by omega) h3 (fun j hj1 hj2 => by omega)
      rw [pk_m1 n] at h
      exact h
theorem xl_fill {K F S : Nat → Nat} {n m : Nat} (wf : ru_wf K F S m) (hm : m ≤ 16) (hn : n ≤ 10) (hk : ∀ p, p < m → pc_ok K F S p uk uv uf us)
    (hp : ∀ C' E' B' G', (∀ q, q < m → ∀ j, j ≤ n → xr_Rep C' E' B' G' (q * 11 + j) (ru_tb K F S tx n q j)) → post (bp, he, nI m, nI n, bk, bv, bf, bs, bg, st, uk, uv, uf, us, tx, C', E', B', G')) : wpX_fillTables post (bp, he, nI m, nI n, bk, bv, bf, bs, bg, st, uk, uv, uf, us, tx, C, E, B, G) :=
  ⟨m + 1, xl_f2 wf hm hn hk hp (m + 1) 0 C E B G (by omega) (by omega) (fun q hq => by omega)⟩
end
