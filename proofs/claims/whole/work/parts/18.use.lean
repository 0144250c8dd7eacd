/-! a new object, define, feed, erase -/
section
variable {bp he up tl : Int32} {bk bv bf bs bg st uk uv uf us tx C E B G : Nat → Int32} {post : SX → Prop}
theorem xl_u2 {s : Nat} (hs : s ≤ 16) (hp : ∀ uk' uv' uf' us', (∀ p, p < s → uk' p = bk p ∧ uv' p = bv p ∧ uf' p = bf p ∧ us' p = bs p) → post (nI s, he, nI s, tl, bk, bv, bf, bs, bg, st, uk', uv', uf', us', tx, C, E, B, G)) :
    ∀ (d p : Nat) (uk uv uf us : Nat → Int32), s < d + p → p ≤ s → (∀ q, q < p → uk q = bk q ∧ uv q = bv q ∧ uf q = bf q ∧ us q = bs q) → wX_useBuiltParts_2 post (nI s) he up tl d (nI p) bk bv bf bs bg st uk uv uf us tx C E B G := by
  intro d
  induction d with
  | zero => intro p uk uv uf us h1 h2; omega
  | succ d ih =>
    intro p uk uv uf us h1 h2 h3
    rw [wX_useBuiltParts_2]
    by_cases w : p = s
    · subst w
      exact br_t (nI_le (Nat.le_refl _) (by omega)) (hp uk uv uf us h3)
    · have c : (nI p).toNatClampNeg = p := nI_clamp (by omega)
      have v : vp_in (nI p) 16 := vp_in_nI (by omega) (by omega)
      refine br_f (nI_ge (by omega) (by omega)) ⟨v, v, nm_r (e' := upd uk p (bk p)) (by rw [c]) ⟨v, v, nm_r (e' := upd uv p (bv p)) (by rw [c]) ⟨v, v, nm_r (e' := upd uf p (bf p)) (by rw [c]) ⟨v, v, nm_r (e' := upd us p (bs p)) (by rw [c]) (nm_r (nI_1 p) (ih (p + 1) _ _ _ _ (by omega) (by omega) (fun q hq => ?_)))⟩⟩⟩⟩
      by_cases e : q = p
      · subst e
        exact ⟨pk_us, pk_us, pk_us, pk_us⟩
      · rw [pk_un e, pk_un e, pk_un e, pk_un e]
        exact h3 q (by omega)
end
section
variable {sp de ro ln wa : Int32} {dk df ds dg sk ki fi se ty re ta wn gr : Nat → Int32} {post : Int32 → SY → Prop}
theorem yl_d12 {s d r : Nat} (hs : s ≤ 16) (hd : d < 6) (hr : sk d = nI r) (hp : ∀ ki' fi' se', (∀ p, p < s → ki' p = dk p ∧ fi' p = df p ∧ se' p = ds p) → post (nI (d + 1)) (0, 0, nI r, ln, wa, dk, df, ds, dg, sk, ki', fi', se', ty, re, ta, wn, gr)) :
    ∀ (t p : Nat) (ki fi se : Nat → Int32), s < t + p → p ≤ s → (∀ q, q < p → ki q = dk q ∧ fi q = df q ∧ se q = ds q) → wY_define_12 post (nI s) (nI (d + 1)) ro ln wa t (nI p) dk df ds dg sk ki fi se ty re ta wn gr := by
  intro t
  induction t with
  | zero => intro p ki fi se h1 h2; omega
  | succ t ih =>
    intro p ki fi se h1 h2 h3
    rw [wY_define_12]
    by_cases w : p = s
    · subst w
      exact br_t (nI_le (Nat.le_refl _) (by omega)) ⟨by rw [nI_pred]; exact vp_in_nI hd (by omega), nm_r (e' := nI r) (by rw [nI_pred, nI_clamp (by omega)]; exact hr) (hp ki fi se h3)⟩
    · have c : (nI p).toNatClampNeg = p := nI_clamp (by omega)
      have v : vp_in (nI p) 16 := vp_in_nI (by omega) (by omega)
      refine br_f (nI_ge (by omega) (by omega)) ⟨v, v, nm_r (e' := upd ki p (dk p)) (by rw [c]) ⟨v, v, nm_r (e' := upd fi p (df p)) (by rw [c]) ⟨v, v, nm_r (e' := upd se p (ds p)) (by rw [c]) (nm_r (nI_1 p) (ih (p + 1) _ _ _ (by omega) (by omega) (fun q hq => ?_)))⟩⟩⟩
      by_cases e : q = p
      · subst e
        exact ⟨pk_us, pk_us, pk_us⟩
      · rw [pk_un e, pk_un e, pk_un e]
        exact h3 q (by omega)
end
theorem rl_Pk {K F S : Nat → Nat} {m : Nat} {bk bv bf bs dk df ds uk uv uf us ki fi se : Nat → Int32} (h : rl_P K F S m bk bv bf bs dk df ds) (h1 : ∀ p, p < m → uk p = bk p ∧ uv p = bv p ∧ uf p = bf p ∧ us p = bs p) (h2 : ∀ p, p < m → ki p = dk p ∧ fi p = df p ∧ se p = ds p) : rl_P K F S m uk uv uf us ki fi se := by
  refine ⟨h.1, fun p hp => ?_⟩
  have a := h.2 p hp
  obtain ⟨b1, b2, b3, b4⟩ := h1 p hp
  obtain ⟨c1, c2, c3⟩ := h2 p hp
  unfold pc_ok at a ⊢
  rw [b1, b2, b3, b4, c1, c2, c3]
  exact a
theorem i_vc0 : wpX_init (fun u => wpY_init (fun v => i_Rel 0 u v)) := by
  have hP : rl_P (fun _ => 4) (fun _ => 0) (fun _ => 0) 1 (upd (fun _ => 0) 0 2) (fun _ => 0) (fun _ => 0) (fun _ => 0) (upd (fun _ => 0) 0 4) (fun _ => 0) (fun _ => 0) := by
    refine ⟨fun p hp => ⟨(by decide : 4 ≤ 11), fun q => absurd q (by decide : ¬ 5 ≤ 4)⟩, fun p hp => ?_⟩
    have e : p = 0 := by omega
    subst e
    exact ⟨⟨rfl, rfl, fun q => absurd q (by decide : ¬ 5 ≤ 4), fun q => absurd q (by decide : ¬ (4 = 5 ∨ 4 = 6))⟩, rfl, fun q => absurd q (by decide : ¬ 5 ≤ 4)⟩
  refine nm_e (xl_fill (m := 1) (n := 0) hP.1 (by omega) (by omega) (fun p hp => (hP.2 p hp).1) (fun C E B G hR => nm_e ?_))
  exact rl_mk (k := 0) (s := 0) (d := 0) (r := 0) (n := 0) rl_D0 ⟨by omega, by omega, _, _, _, hP, hR⟩
theorem i_vc_define {k : Nat} {u : SX} {v : SY} (I : i_Rel k u v) (hk : k + 3 ≤ 1536) : wpX_define (fun r u' => wpY_define (fun r' v' => r' = r ∧ i_Rel (k + 3) u' v') v) u := by
  obtain ⟨s, d, r, n, bk, bv, bf, bs, bg, st, uk, uv, uf, us, tx, C, E, B, G, wa, dk, df, ds, ki, fi, se, re, ta, wn, gr, rfl, rfl, hD, hU⟩ := I
  cases d with
  | zero => exact br_t rfl (br_t rfl ⟨rfl, rl_mk hD hU⟩)
  | succ d =>
    obtain ⟨hs, hd, hds, hq, htop, K, F, S, hP⟩ := hD
    have hn := hU.2.1
    obtain ⟨s, rfl⟩ : ∃ t, s = t + 1 := ⟨s - 1, by omega⟩
    have ht : st d = nI s := htop (by omega)
    have hne : ¬ nI (d + 1) = 0 := nI_ne0 (by omega) (by omega)
    refine br_f hne ⟨s + 1 + 1, xl_u2 hs (fun uk' uv' uf' us' h1 => ?_) (s + 1 + 1) 0 uk uv uf us (by omega) (by omega) (fun q hq => by omega)⟩
    refine xl_fill (m := s + 1) (n := n) hP.1 hs hn (fun p hp => ?_) (fun C' E' B' G' hR => br_f hne ⟨s + 1 + 1, yl_d12 hs (by omega) ht (fun ki' fi' se' h2 => ⟨rfl, ?_⟩) (s + 1 + 1) 0 ki fi se (by omega) (by omega) (fun q hq => by omega)⟩)
    · have a := (hP.2 p hp).1
      obtain ⟨b1, b2, b3, b4⟩ := h1 p hp
      unfold pc_ok at a ⊢
      rw [b1, b2, b3, b4]
      exact a
    · exact rl_mk (k := k + 3) (s := 0) (d := 0) (r := s) (n := n) rl_D0 ⟨by omega, hn, K, F, S, rl_Pk hP h1 h2, hR⟩
theorem i_vc_feed {k : Nat} {u : SX} {v : SY} (I : i_Rel k u v) (hk : k + 3 ≤ 1536) (v1 : Int32) : wpX_feed (fun r u' => wpY_feed (fun r' v' => r' = r ∧ i_Rel (k + 3) u' v') v v1) u v1 := by
  obtain ⟨s, d, r, n, bk, bv, bf, bs, bg, st, uk, uv, uf, us, tx, C, E, B, G, wa, dk, df, ds, ki, fi, se, re, ta, wn, gr, rfl, rfl, hD, hU⟩ := I
  by_cases h0 : v1 < 0
  · exact br_t h0 (br_t h0 ⟨rfl, rl_mk hD hU⟩)
  · obtain ⟨c, hc, rfl⟩ := nI_of h0
    by_cases h3 : c < 3
    · have a1 : nI c < 3 := nI_lt (b := 3) h3 (by decide)
      have a2 : nI c ≤ 2 := nI_le (b := 2) (by omega) (by decide)
      have hU' := hU
      obtain ⟨hr, hn, K, F, S, hP, hR0⟩ := hU
      by_cases h10 : n = 10
      · have e10 : nI n = 10 := by rw [h10]; rfl
        exact br_f h0 (br_t a1 (br_t e10 (br_f h0 (br_t a2 (br_t e10 ⟨rfl, rl_mk hD hU'⟩)))))
      · have e10 : ¬ nI n = 10 := fun e => h10 ((nI_eq (b := 10) (by omega) (by decide)).mp e)
        have cn : (nI n).toNatClampNeg = n := nI_clamp (by omega)
        have vn : vp_in (nI n) 10 := vp_in_nI (by omega) (by omega)
        refine br_f h0 (br_t a1 (br_f e10 ⟨vn, nm_r (e' := upd tx n (nI c)) (by rw [cn]) (nm_r (nI_1 n) (xl_fill (m := r + 1) (n := n + 1) hP.1 (by omega) (by omega) (fun p hp => (hP.2 p hp).1) (fun C' E' B' G' hR => ?_)))⟩))
        exact br_f h0 (br_t a2 (br_f e10 ⟨vn, nm_r (e' := upd tx n (nI c)) (by rw [cn]) (nm_r (nI_1 n) ⟨rfl, rl_mk hD ⟨hr, by omega, K, F, S, hP, hR⟩⟩)⟩))
    · have a1 : ¬ nI c < 3 := nI_nlt (b := 3) (by omega) hc
      have a2 : ¬ nI c ≤ 2 := nI_ge (a := 2) (by omega) hc
      exact br_f h0 (br_f a1 (br_f h0 (br_f a2 ⟨rfl, rl_mk hD hU⟩)))
theorem i_vc_erase {k : Nat} {u : SX} {v : SY} (I : i_Rel k u v) (hk : k + 3 ≤ 1536) : wpX_erase (fun u' => wpY_erase (fun v' => i_Rel (k + 3) u' v') v) u := by
  obtain ⟨s, d, r, n, bk, bv, bf, bs, bg, st, uk, uv, uf, us, tx, C, E, B, G, wa, dk, df, ds, ki, fi, se, re, ta, wn, gr, rfl, rfl, hD, hU⟩ := I
  obtain ⟨hr, hn, K, F, S, hP, hR0⟩ := hU
  unfold wpX_erase
  refine xl_fill (m := r + 1) (n := 0) hP.1 (by omega) (by omega) (fun p hp => (hP.2 p hp).1) (fun C' E' B' G' hR => ?_)
  exact rl_mk (k := k + 3) (n := 0) hD ⟨hr, by omega, K, F, S, hP, hR⟩
