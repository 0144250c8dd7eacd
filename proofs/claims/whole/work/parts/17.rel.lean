/-! the relation; the steps on the stack -/
def i_Rel (k : Nat) (u : SX) (v : SY) : Prop :=
  ∃ (s d r n : Nat) (bk bv bf bs bg st uk uv uf us tx C E B G : Nat → Int32) (wa : Int32) (dk df ds ki fi se re ta wn gr : Nat → Int32),
    u = (nI s, nI d, nI (r + 1), nI n, bk, bv, bf, bs, bg, st, uk, uv, uf, us, tx, C, E, B, G) ∧ v = (nI s, nI d, nI r, nI n, wa, dk, df, ds, bg, st, ki, fi, se, tx, re, ta, wn, gr) ∧ rl_D s d bk bv bf bs dk df ds st ∧ rl_U r n uk uv uf us ki fi se tx C E B G
theorem rl_mk {k s d r n : Nat} {bk bv bf bs bg st uk uv uf us tx C E B G : Nat → Int32} {wa : Int32} {dk df ds ki fi se re ta wn gr : Nat → Int32} (hD : rl_D s d bk bv bf bs dk df ds st) (hU : rl_U r n uk uv uf us ki fi se tx C E B G) : i_Rel k (nI s, nI d, nI (r + 1), nI n, bk, bv, bf, bs, bg, st, uk, uv, uf, us, tx, C, E, B, G) (nI s, nI d, nI r, nI n, wa, dk, df, ds, bg, st, ki, fi, se, tx, re, ta, wn, gr) :=
  ⟨s, d, r, n, bk, bv, bf, bs, bg, st, uk, uv, uf, us, tx, C, E, B, G, wa, dk, df, ds, ki, fi, se, re, ta, wn, gr, rfl, rfl, hD, hU⟩
theorem i_up {k : Nat} {u : SX} {v : SY} (h : i_Rel k u v) : i_Rel (k + 3) u v := h
section
variable {k s d r n : Nat} {bk bv bf bs bg st uk uv uf us tx C E B G : Nat → Int32} {wa : Int32} {dk df ds ki fi se re ta wn gr : Nat → Int32}
theorem rl_leaf (hD : rl_D s d bk bv bf bs dk df ds st) (hU : rl_U r n uk uv uf us ki fi se tx C E B G) (c : Nat) (hc : c < 5) {x1 x2 x : Int32} (h7 : ¬ x1 = 7) (e1 : x1 = nI (pc_k c)) (e2 : x2 = nI (pc_v c)) (e3 : x = nI c) :
    wpX_push (fun z u' => wpY_leaf (fun z' v' => z' = z ∧ i_Rel k u' v') (nI s, nI d, nI r, nI n, wa, dk, df, ds, bg, st, ki, fi, se, tx, re, ta, wn, gr) x) (nI s, nI d, nI (r + 1), nI n, bk, bv, bf, bs, bg, st, uk, uv, uf, us, tx, C, E, B, G) x1 x2 := by
  have hs := hD.1
  have hd := hD.2.1
  refine xl_push hs hd h7 (fun q => yl_leaf hs hd (fun _ => ⟨rfl, rl_mk hD hU⟩) (fun a b => by omega)) (fun a b => yl_leaf hs hd (fun q => by omega) (fun _ _ => ⟨rfl, rl_mk ?_ hU⟩))
  exact rl_note c 0 0 hD a (Nat.le_refl d) b (by omega) (fun q => by omega) e1 e2 (fun q => by omega) (fun q => by omega) e3 (fun q => by omega)
theorem rl_pair (hD : rl_D s d bk bv bf bs dk df ds st) (hU : rl_U r n uk uv uf us ki fi se tx C E B G) (c : Nat) (hc : c = 5 ∨ c = 6) {x1 x : Int32} (h7 : ¬ x1 = 7) (e1 : x1 = nI (pc_k c)) (e2 : 0 = nI (pc_v c)) (e3 : x = nI c) :
    wpX_join (fun z u' => wpY_pair (fun z' v' => z' = z ∧ i_Rel k u' v') (nI s, nI d, nI r, nI n, wa, dk, df, ds, bg, st, ki, fi, se, tx, re, ta, wn, gr) x) (nI s, nI d, nI (r + 1), nI n, bk, bv, bf, bs, bg, st, uk, uv, uf, us, tx, C, E, B, G) x1 := by
  have hs := hD.1
  have hd := hD.2.1
  have hq := hD.2.2.2.1
  refine xl_join hs hd hq h7 (fun q => yl_pair hs hd hq (fun _ => ⟨rfl, rl_mk hD hU⟩) (fun a b => by omega) (fun e a b q1 => by omega)) (fun a b => yl_pair hs hd hq (fun q => by omega) (fun _ _ => ⟨rfl, rl_mk hD hU⟩) (fun e a b q1 q2 => by omega)) (fun e a b q1 q2 q3 q4 q5 q6 => yl_pair hs hd hq (fun q => by omega) (fun _ q => by omega) (fun e' a' b' p1 p2 p3 p4 p5 p6 => ?_))
  obtain rfl : e = e' := by omega
  obtain rfl : a = a' := (nI_eq (by omega) (by omega)).mp (q5.symm.trans p5)
  obtain rfl : b = b' := (nI_eq (by omega) (by omega)).mp (q6.symm.trans p6)
  exact ⟨rfl, rl_mk (rl_note c a b hD q1 (by omega) (by omega) (by omega) (fun q => ⟨q3, q4⟩) e1 e2 (fun q => rfl) (fun q => rfl) e3 (fun q => ⟨rfl, rfl⟩)) hU⟩
theorem rl_single (hD : rl_D s d bk bv bf bs dk df ds st) (hU : rl_U r n uk uv uf us ki fi se tx C E B G) (c : Nat) (hc : c = 7 ∨ c = 8) {x1 x : Int32} (h7 : ¬ x1 = 7) (e1 : x1 = nI (pc_k c)) (e2 : 0 = nI (pc_v c)) (e3 : x = nI c) :
    wpX_wrap (fun z u' => wpY_single (fun z' v' => z' = z ∧ i_Rel k u' v') (nI s, nI d, nI r, nI n, wa, dk, df, ds, bg, st, ki, fi, se, tx, re, ta, wn, gr) x) (nI s, nI d, nI (r + 1), nI n, bk, bv, bf, bs, bg, st, uk, uv, uf, us, tx, C, E, B, G) x1 0 := by
  have hs := hD.1
  have hd := hD.2.1
  have hq := hD.2.2.2.1
  have hx : x ≤ 8 := by
    rw [e3]
    exact nI_le (b := 8) (by omega) (by decide)
  have hz : (x ≤ 8 → (0 : Int32) = 0) ∧ (¬ x ≤ 8 → (0 : Int32) = (1 : Int32) <<< ((x - 9) &&& 31)) := ⟨fun _ => rfl, fun q => absurd hx q⟩
  refine xl_wrap (z := 0) hs hd hq ⟨fun q => absurd q h7, fun _ => rfl⟩ (fun q => yl_single hs hd hq hz (fun _ => ⟨rfl, rl_mk hD hU⟩) (fun a b => by omega) (fun e a q1 => by omega) (fun e a q1 => by omega)) (fun a b => yl_single hs hd hq hz (fun q => by omega) (fun _ _ => ⟨rfl, rl_mk hD hU⟩) (fun e a q1 q2 => by omega) (fun e a q1 q2 => by omega)) (fun e a q1 q2 q3 q4 => yl_single hs hd hq hz (fun q => by omega) (fun _ q => by omega) (fun e' a' p1 p2 p3 p4 p5 => absurd (ug_a _) p5) (fun e' a' p1 p2 p3 p4 p5 => ?_))
  obtain rfl : e = e' := by omega
  obtain rfl : a = a' := (nI_eq (by omega) (by omega)).mp (q4.symm.trans p4)
  exact ⟨rfl, rl_mk (rl_note c a 0 hD q1 (by omega) (by omega) (by omega) (fun q => ⟨q3, by omega⟩) e1 e2 (fun q => rfl) (fun q => by omega) e3 (fun q => ⟨rfl, rfl⟩)) hU⟩
end
theorem i_vc_letter {k : Nat} {u : SX} {v : SY} (I : i_Rel k u v) (hk : k + 3 ≤ 1536) (v1 : Int32) : wpX_letter (fun r u' => wpY_letter (fun r' v' => r' = r ∧ i_Rel (k + 3) u' v') v v1) u v1 := by
  obtain ⟨s, d, r, n, bk, bv, bf, bs, bg, st, uk, uv, uf, us, tx, C, E, B, G, wa, dk, df, ds, ki, fi, se, re, ta, wn, gr, rfl, rfl, hD, hU⟩ := I
  by_cases h0 : v1 < 0
  · exact br_t h0 (br_t h0 ⟨rfl, rl_mk hD hU⟩)
  · obtain ⟨c, hc, rfl⟩ := nI_of h0
    by_cases h3 : c < 3
    · have a1 : nI c < 3 := nI_lt (b := 3) h3 (by decide)
      have a2 : nI c ≤ 2 := nI_le (b := 2) (by omega) (by decide)
      have hs := hD.1
      have hd := hD.2.1
      refine br_f h0 (br_t a1 (xl_push hs hd (by decide) (fun q => br_f h0 (br_t a2 (yl_leaf hs hd (fun _ => ⟨rfl, rl_mk hD hU⟩) (fun a b => by omega)))) (fun a b => br_f h0 (br_t a2 (yl_leaf hs hd (fun q => by omega) (fun _ _ => ⟨rfl, rl_mk ?_ hU⟩))))))
      exact rl_note c 0 0 hD a (Nat.le_refl d) b (by omega) (fun q => by omega) (by rw [show pc_k c = 0 from if_pos h3]; rfl) (by rw [show pc_v c = c from if_pos h3]) (fun q => by omega) (fun q => by omega) rfl (fun q => by omega)
    · have a1 : ¬ nI c < 3 := nI_nlt (b := 3) (by omega) hc
      have a2 : ¬ nI c ≤ 2 := nI_ge (a := 2) (by omega) hc
      exact br_f h0 (br_f a1 (br_f h0 (br_f a2 ⟨rfl, rl_mk hD hU⟩)))
theorem i_vc_any {k : Nat} {u : SX} {v : SY} (I : i_Rel k u v) (hk : k + 3 ≤ 1536) : wpX_any (fun r u' => wpY_any (fun r' v' => r' = r ∧ i_Rel (k + 3) u' v') v) u := by
  obtain ⟨s, d, r, n, bk, bv, bf, bs, bg, st, uk, uv, uf, us, tx, C, E, B, G, wa, dk, df, ds, ki, fi, se, re, ta, wn, gr, rfl, rfl, hD, hU⟩ := I
  unfold wpX_any wpY_any
  exact rl_leaf hD hU 3 (by omega) (by decide) rfl rfl rfl
theorem i_vc_empty {k : Nat} {u : SX} {v : SY} (I : i_Rel k u v) (hk : k + 3 ≤ 1536) : wpX_empty (fun r u' => wpY_empty (fun r' v' => r' = r ∧ i_Rel (k + 3) u' v') v) u := by
  obtain ⟨s, d, r, n, bk, bv, bf, bs, bg, st, uk, uv, uf, us, tx, C, E, B, G, wa, dk, df, ds, ki, fi, se, re, ta, wn, gr, rfl, rfl, hD, hU⟩ := I
  unfold wpX_empty wpY_empty
  exact rl_leaf hD hU 4 (by omega) (by decide) rfl rfl rfl
theorem i_vc_cat {k : Nat} {u : SX} {v : SY} (I : i_Rel k u v) (hk : k + 3 ≤ 1536) : wpX_cat (fun r u' => wpY_cat (fun r' v' => r' = r ∧ i_Rel (k + 3) u' v') v) u := by
  obtain ⟨s, d, r, n, bk, bv, bf, bs, bg, st, uk, uv, uf, us, tx, C, E, B, G, wa, dk, df, ds, ki, fi, se, re, ta, wn, gr, rfl, rfl, hD, hU⟩ := I
  unfold wpX_cat wpY_cat
  exact rl_pair hD hU 5 (by omega) (by decide) rfl rfl rfl
theorem i_vc_alt {k : Nat} {u : SX} {v : SY} (I : i_Rel k u v) (hk : k + 3 ≤ 1536) : wpX_alt (fun r u' => wpY_alt (fun r' v' => r' = r ∧ i_Rel (k + 3) u' v') v) u := by
  obtain ⟨s, d, r, n, bk, bv, bf, bs, bg, st, uk, uv, uf, us, tx, C, E, B, G, wa, dk, df, ds, ki, fi, se, re, ta, wn, gr, rfl, rfl, hD, hU⟩ := I
  unfold wpX_alt wpY_alt
  exact rl_pair hD hU 6 (by omega) (by decide) rfl rfl rfl
theorem i_vc_star {k : Nat} {u : SX} {v : SY} (I : i_Rel k u v) (hk : k + 3 ≤ 1536) : wpX_star (fun r u' => wpY_star (fun r' v' => r' = r ∧ i_Rel (k + 3) u' v') v) u := by
  obtain ⟨s, d, r, n, bk, bv, bf, bs, bg, st, uk, uv, uf, us, tx, C, E, B, G, wa, dk, df, ds, ki, fi, se, re, ta, wn, gr, rfl, rfl, hD, hU⟩ := I
  unfold wpX_star wpY_star
  exact rl_single hD hU 7 (by omega) (by decide) rfl rfl rfl
theorem i_vc_lazy {k : Nat} {u : SX} {v : SY} (I : i_Rel k u v) (hk : k + 3 ≤ 1536) : wpX_lazy (fun r u' => wpY_lazy (fun r' v' => r' = r ∧ i_Rel (k + 3) u' v') v) u := by
  obtain ⟨s, d, r, n, bk, bv, bf, bs, bg, st, uk, uv, uf, us, tx, C, E, B, G, wa, dk, df, ds, ki, fi, se, re, ta, wn, gr, rfl, rfl, hD, hU⟩ := I
  unfold wpX_lazy wpY_lazy
  exact rl_single hD hU 8 (by omega) (by decide) rfl rfl rfl
theorem i_vc_group {k : Nat} {u : SX} {v : SY} (I : i_Rel k u v) (hk : k + 3 ≤ 1536) (v1 : Int32) : wpX_group (fun r u' => wpY_group (fun r' v' => r' = r ∧ i_Rel (k + 3) u' v') v v1) u v1 := by
  obtain ⟨s, d, r, n, bk, bv, bf, bs, bg, st, uk, uv, uf, us, tx, C, E, B, G, wa, dk, df, ds, ki, fi, se, re, ta, wn, gr, rfl, rfl, hD, hU⟩ := I
  have hs := hD.1
  have hd := hD.2.1
  have hq := hD.2.2.2.1
  have hz : ∀ g, g < 3 → (9 + nI g ≤ 8 → (1 : Int32) <<< (nI g &&& 31) = 0) ∧ (¬ 9 + nI g ≤ 8 → (1 : Int32) <<< (nI g &&& 31) = (1 : Int32) <<< ((9 + nI g - 9) &&& 31)) := by
    intro g hg
    have e9 : 9 + nI g = nI (9 + g) := nI_add 9 g
    have e0 : nI (9 + g) - 9 = nI g := by
      rw [show (9 : Int32) = nI 9 from rfl, pk_sub (by omega)]
      exact congrArg nI (by omega)
    rw [e9, e0]
    exact ⟨fun q => absurd q (nI_ge (a := 8) (by omega) (by omega)), fun _ => rfl⟩
  have g0 : ∀ g, g < 3 → ¬ nI g < 0 := fun g hg => nI_pos (by omega)
  have g2 : ∀ g, g < 3 → nI g ≤ 2 := fun g hg => nI_le (b := 2) (by omega) (by decide)
  refine xl_group hs hd hq (fun q => ?_) (fun g eg hg q => ?_) (fun g eg hg q1 q2 => ?_) (fun g e a eg hg q1 q2 q3 q4 q5 => ?_) (fun g e a eg hg q1 q2 q3 q4 q5 => ?_)
  · rcases q with q | q
    · exact br_t q ⟨rfl, rl_mk hD hU⟩
    · exact br_f (Int32.not_lt.mpr (Int32.le_trans (by decide) (Int32.le_of_lt q))) (br_f (Int32.not_le.mpr q) ⟨rfl, rl_mk hD hU⟩)
  · subst eg
    exact br_f (g0 g hg) (br_t (g2 g hg) (yl_single hs hd hq (hz g hg) (fun _ => ⟨rfl, rl_mk hD hU⟩) (fun a b => by omega) (fun e a q1 => by omega) (fun e a q1 => by omega)))
  · subst eg
    exact br_f (g0 g hg) (br_t (g2 g hg) (yl_single hs hd hq (hz g hg) (fun q => by omega) (fun _ _ => ⟨rfl, rl_mk hD hU⟩) (fun e a p1 p2 => by omega) (fun e a p1 p2 => by omega)))
  · subst eg
    refine br_f (g0 g hg) (br_t (g2 g hg) (yl_single hs hd hq (hz g hg) (fun q => by omega) (fun _ q => by omega) (fun e' a' p1 p2 p3 p4 p5 => ⟨rfl, rl_mk hD hU⟩) (fun e' a' p1 p2 p3 p4 p5 => ?_)))
    obtain rfl : e = e' := by omega
    obtain rfl : a = a' := (nI_eq (by omega) (by omega)).mp (q4.symm.trans p4)
    exact absurd p5 q5
  · subst eg
    refine br_f (g0 g hg) (br_t (g2 g hg) (yl_single hs hd hq (hz g hg) (fun q => by omega) (fun _ q => by omega) (fun e' a' p1 p2 p3 p4 p5 => ?_) (fun e' a' p1 p2 p3 p4 p5 => ?_)))
    · obtain rfl : e = e' := by omega
      obtain rfl : a = a' := (nI_eq (by omega) (by omega)).mp (q4.symm.trans p4)
      exact absurd q5 p5
    · obtain rfl : e = e' := by omega
      obtain rfl : a = a' := (nI_eq (by omega) (by omega)).mp (q4.symm.trans p4)
      refine ⟨rfl, rl_mk (rl_note (9 + g) a 0 hD q1 (by omega) (by omega) (by omega) (fun q => ⟨q3, by omega⟩) ?_ ?_ (fun q => rfl) (fun q => by omega) (nI_add 9 g) (fun q => ⟨rfl, rfl⟩)) hU⟩
      · rw [show pc_k (9 + g) = 7 from by unfold pc_k; rw [if_neg (by omega), if_neg (by omega)]]
        rfl
      · rw [show pc_v (9 + g) = g from by unfold pc_v; rw [if_neg (by omega), if_pos (by omega)]; omega]
theorem i_vc_steps {k : Nat} {u : SX} {v : SY} (I : i_Rel k u v) (hk : k + 3 ≤ 1536) : wpX_steps (fun r => wpY_steps (fun r' => r' = r ∧ i_Rel (k + 3) u v) v) u := by
  have I' := I
  obtain ⟨s, d, r, n, bk, bv, bf, bs, bg, st, uk, uv, uf, us, tx, C, E, B, G, wa, dk, df, ds, ki, fi, se, re, ta, wn, gr, rfl, rfl, hD, hU⟩ := I
  exact ⟨rfl, I'⟩
theorem i_vc_depth {k : Nat} {u : SX} {v : SY} (I : i_Rel k u v) (hk : k + 3 ≤ 1536) : wpX_depth (fun r => wpY_depth (fun r' => r' = r ∧ i_Rel (k + 3) u v) v) u := by
  have I' := I
  obtain ⟨s, d, r, n, bk, bv, bf, bs, bg, st, uk, uv, uf, us, tx, C, E, B, G, wa, dk, df, ds, ki, fi, se, re, ta, wn, gr, rfl, rfl, hD, hU⟩ := I
  exact ⟨rfl, I'⟩
theorem i_vc_length {k : Nat} {u : SX} {v : SY} (I : i_Rel k u v) (hk : k + 3 ≤ 1536) : wpX_length (fun r => wpY_length (fun r' => r' = r ∧ i_Rel (k + 3) u v) v) u := by
  have I' := I
  obtain ⟨s, d, r, n, bk, bv, bf, bs, bg, st, uk, uv, uf, us, tx, C, E, B, G, wa, dk, df, ds, ki, fi, se, re, ta, wn, gr, rfl, rfl, hD, hU⟩ := I
  exact ⟨rfl, I'⟩
theorem rl_D0 {bk bv bf bs dk df ds st : Nat → Int32} : rl_D 0 0 bk bv bf bs dk df ds st :=
  ⟨by omega, by omega, by omega, fun q hq => by omega, fun q => by omega, fun _ => 4, fun _ => 0, fun _ => 0, fun p hp => by omega, fun p hp => by omega⟩
theorem i_vc_discard {k : Nat} {u : SX} {v : SY} (I : i_Rel k u v) (hk : k + 3 ≤ 1536) : wpX_discard (fun u' => wpY_discard (fun v' => i_Rel (k + 3) u' v') v) u := by
  obtain ⟨s, d, r, n, bk, bv, bf, bs, bg, st, uk, uv, uf, us, tx, C, E, B, G, wa, dk, df, ds, ki, fi, se, re, ta, wn, gr, rfl, rfl, hD, hU⟩ := I
  exact rl_mk (k := k + 3) (s := 0) (d := 0) rl_D0 hU
