/-! the component: addSameRuns, addRunsOfBoth, setGroup -/
section
variable {bp he up tl : Int32} {bk bv bf bs bg st uk uv uf us tx C E B G : Nat → Int32} {post : SX → Prop}
theorem xl_s10 {s f i n : Nat} {l A : List ru_R} (hs : s < 176) (hf : f < 176) (hne : f ≠ s) (hn : n ≤ 10) (ho : ru_ok i n l) (hoA : ru_ok i n A) (hA : xr_Rep C E B G f A)
    (hp : ∀ C' E' B' G', xr_Rep C' E' B' G' s (ru_add l A) → xr_fr s C E B G C' E' B' G' → post (bp, he, up, tl, bk, bv, bf, bs, bg, st, uk, uv, uf, us, tx, C', E', B', G')) :
    ∀ (d k : Nat) (C' E' B' G' : Nat → Int32), A.length < d + k → k ≤ A.length → xr_Rep C' E' B' G' s (ru_add l (A.take k)) → xr_fr s C E B G C' E' B' G' → wX_addSameRuns_10 post (nI s) (nI f) (nI A.length) d (nI k) bp he up tl bk bv bf bs bg st uk uv uf us tx C' E' B' G' := by
  have hl := ru_len hoA
  intro d
  induction d with
  | zero => intro k C' E' B' G' h1 h2; omega
  | succ d ih =>
    intro k C' E' B' G' h1 h2 hR hfr
    rw [wX_addSameRuns_10]
    by_cases q : k = A.length
    · subst q
      refine br_t (nI_le (Nat.le_refl _) (by omega)) (hp C' E' B' G' ?_ hfr)
      rw [List.take_length] at hR
      exact hR
    · obtain ⟨r, hr, hm⟩ := ru_get (A := A) (k := k) (by omega)
      have hA' := xr_keep hfr hne hoA hn hA
      have hb := hoA.1 r hm
      have hok : ru_ok i n (ru_add l (A.take k)) := ru_ok_add _ _ ho (fun x hx => hoA.1 x (List.mem_of_mem_take hx))
      refine br_f (nI_ge (by omega) (by omega)) ⟨xi_in (by omega) (by omega), nm_r (e' := nI r.1) (by rw [xi_cl (by omega)]; exact hA'.2.1 k r hr) ?_⟩
      refine xl_addRun (A := some (f * 11 + r.1)) (L := none) rfl (xi_11 f r.1) rfl hs hn hok hR hb (fun a ha => ?_) (fun a ha => (nomatch ha)) (fun g hg => ?_) (fun C2 E2 B2 G2 hR2 hfr2 => nm_r (nI_1 k) (ih (k + 1) C2 E2 B2 G2 (by omega) (by omega) ?_ (xr_fr_tr hfr hfr2)))
      · have := Option.some.inj ha
        omega
      · rw [if_pos (show xo_g G' none g = -4 from rfl)]
        exact (hA'.2.2.2 r hm g hg).symm
      · rw [ru_add_tk hr]
        exact hR2
theorem xl_same {s f i n : Nat} {l A : List ru_R} {p1 : Int32} (h1 : p1 = nI f) (hs : s < 176) (hf : f < 176) (hne : f ≠ s) (hn : n ≤ 10) (ho : ru_ok i n l) (hR : xr_Rep C E B G s l) (hoA : ru_ok i n A) (hA : xr_Rep C E B G f A)
    (hp : ∀ C' E' B' G', xr_Rep C' E' B' G' s (ru_add l A) → xr_fr s C E B G C' E' B' G' → post (bp, he, up, tl, bk, bv, bf, bs, bg, st, uk, uv, uf, us, tx, C', E', B', G')) : wpX_addSameRuns post (bp, he, up, tl, bk, bv, bf, bs, bg, st, uk, uv, uf, us, tx, C, E, B, G) (nI s) p1 := by
  subst h1
  exact ⟨vp_in_nI hf (by omega), nm_r (e' := nI A.length) (by rw [nI_clamp (by omega)]; exact hA.1) ⟨A.length + 1, xl_s10 hs hf hne hn ho hoA hA hp (A.length + 1) 0 C E B G (by omega) (by omega) hR xr_fr_rf⟩⟩
theorem xl_b64 {s f q i n : Nat} {l A D : List ru_R} {r : ru_R} {J : Int32 → Int32 → Int32 → Int32 → Int32 → (Nat → Int32) → (Nat → Int32) → (Nat → Int32) → (Nat → Int32) → (Nat → Int32) → (Nat → Int32) → (Nat → Int32) → (Nat → Int32) → (Nat → Int32) → (Nat → Int32) → (Nat → Int32) → (Nat → Int32) → (Nat → Int32) → (Nat → Int32) → (Nat → Int32) → Prop} {x3 x4 x5 : Int32} {k : Nat}
    (hs : s < 176) (hf : f < 176) (hq : q < 176) (hne : f ≠ s) (hqs : q ≠ s) (hn : n ≤ 10) (ho : ru_ok i n l) (hoA : ru_ok i n A) (hr : r ∈ A) (hA : xr_Rep C E B G f A) (hoD : ru_ok r.1 n D) (hD : xr_Rep C E B G q D)
    (hJ : ∀ C' E' B' G', xr_Rep C' E' B' G' s (ru_add l (D.map (ru_cb r))) → xr_fr s C E B G C' E' B' G' → J (nI (k + 1)) bp he up tl bk bv bf bs bg st uk uv uf us tx C' E' B' G') :
    ∀ (d j : Nat) (C' E' B' G' : Nat → Int32), D.length < d + j → j ≤ D.length → xr_Rep C' E' B' G' s (ru_add l ((D.map (ru_cb r)).take j)) → xr_fr s C E B G C' E' B' G' → wX_addRunsOfBoth_64 post J (nI s) (nI f) x3 x4 x5 (nI k) (nI r.1) (nI q) (nI D.length) d (nI j) bp he up tl bk bv bf bs bg st uk uv uf us tx C' E' B' G' := by
  have hl := ru_len hoD
  have hbr := hoA.1 r hr
  intro d
  induction d with
  | zero => intro j C' E' B' G' h1 h2; omega
  | succ d ih =>
    intro j C' E' B' G' h1 h2 hR hfr
    rw [wX_addRunsOfBoth_64]
    by_cases w : j = D.length
    · subst w
      refine br_t (nI_le (Nat.le_refl _) (by omega)) (nm_r (nI_1 k) (hJ C' E' B' G' ?_ hfr))
      rw [List.take_of_length_le (by rw [List.length_map]; omega)] at hR
      exact hR
    · obtain ⟨t, ht, hm⟩ := ru_get (A := D) (k := j) (by omega)
      have hA' := xr_keep hfr hne hoA hn hA
      have hD' := xr_keep hfr hqs hoD hn hD
      have hb := hoD.1 t hm
      have hok : ru_ok i n (ru_add l ((D.map (ru_cb r)).take j)) := ru_ok_add _ _ ho (fun x hx => by
        obtain ⟨y, hy, e⟩ := List.mem_map.mp (List.mem_of_mem_take hx)
        have h3 := hoD.1 y hy
        have h4 : x.1 = y.1 := by rw [← e]; rfl
        omega)
      have ht2 : (D.map (ru_cb r))[j]? = some (ru_cb r t) := by
        rw [List.getElem?_map, ht]
        rfl
      refine br_f (nI_ge (by omega) (by omega)) ⟨xi_in (by omega) (by omega), nm_r (e' := nI t.1) (by rw [xi_cl (by omega)]; exact hD'.2.1 j t ht) ?_⟩
      refine xl_addRun (r := ru_cb r t) (A := some (f * 11 + r.1)) (L := some (q * 11 + t.1)) rfl (xi_11 f r.1) (xi_11 q t.1) hs hn hok hR ⟨Nat.le_trans hbr.1 hb.1, hb.2⟩ (fun a ha => ?_) (fun a ha => ?_) (fun g hg => ?_) (fun C2 E2 B2 G2 hR2 hfr2 => nm_r (nI_1 j) (ih (j + 1) C2 E2 B2 G2 (by omega) (by omega) ?_ (xr_fr_tr hfr hfr2)))
      · have := Option.some.inj ha
        have h3 : (ru_cb r t).1 = t.1 := rfl
        omega
      · have := Option.some.inj ha
        have h3 : (ru_cb r t).1 = t.1 := rfl
        omega
      · show (if t.2 g = -4 then r.2 g else t.2 g) = if G' ((q * 11 + t.1) * 3 + g) = -4 then G' ((f * 11 + r.1) * 3 + g) else G' ((q * 11 + t.1) * 3 + g)
        rw [hA'.2.2.2 r hr g hg, hD'.2.2.2 t hm g hg]
      · rw [ru_add_tk ht2]
        exact hR2
theorem xl_b11 {s f q i n lo : Nat} {l A : List ru_R} {T : Nat → List ru_R} (hs : s < 176) (hf : f < 176) (hq : q < 16) (hne : f ≠ s) (hn : n ≤ 10) (hlo : lo ≤ 11) (ho : ru_ok i n l) (hoA : ru_ok i n A) (hA : xr_Rep C E B G f A)
    (hT : ∀ k, lo ≤ k → k ≤ n → q * 11 + k ≠ s ∧ ru_ok k n (T k) ∧ xr_Rep C E B G (q * 11 + k) (T k)) (hT0 : ∀ k, k ≤ n → ru_ok k n (T k))
    (hp : ∀ C' E' B' G', xr_Rep C' E' B' G' s (ru_add l (ru_both A T lo)) → xr_fr s C E B G C' E' B' G' → post (bp, he, up, tl, bk, bv, bf, bs, bg, st, uk, uv, uf, us, tx, C', E', B', G')) :
    ∀ (d k : Nat) (C' E' B' G' : Nat → Int32), A.length < d + k → k ≤ A.length → xr_Rep C' E' B' G' s (ru_add l (ru_both (A.take k) T lo)) → xr_fr s C E B G C' E' B' G' → wX_addRunsOfBoth_11 post (nI s) (nI f) (nI q) (nI lo) (nI A.length) d (nI k) bp he up tl bk bv bf bs bg st uk uv uf us tx C' E' B' G' := by
  have hl := ru_len hoA
  intro d
  induction d with
  | zero => intro k C' E' B' G' h1 h2; omega
  | succ d ih =>
    intro k C' E' B' G' h1 h2 hR hfr
    rw [wX_addRunsOfBoth_11]
    by_cases w : k = A.length
    · subst w
      refine br_t (nI_le (Nat.le_refl _) (by omega)) (hp C' E' B' G' ?_ hfr)
      rw [List.take_length] at hR
      exact hR
    · obtain ⟨r, hr, hm⟩ := ru_get (A := A) (k := k) (by omega)
      have hA' := xr_keep hfr hne hoA hn hA
      have hb := hoA.1 r hm
      have hok : ru_ok i n (ru_add l (ru_both (A.take k) T lo)) := ru_ok_add _ _ ho (fun x hx => by
        obtain ⟨a, ha, _, b, hb2, e⟩ := ru_both_mem hx
        have h3 := hoA.1 a (List.mem_of_mem_take ha)
        have h4 := (hT0 a.1 h3.2).1 b hb2
        have h5 : x.1 = b.1 := by rw [e]; rfl
        omega)
      refine br_f (nI_ge (by omega) (by omega)) ⟨xi_in (by omega) (by omega), nm_r (e' := nI r.1) (by rw [xi_cl (by omega)]; exact hA'.2.1 k r hr) (nm_r (e' := nI (q * 11 + r.1)) (xi_11 q r.1) ?_)⟩
      by_cases z : lo ≤ r.1
      · obtain ⟨g1, g2, g3⟩ := hT r.1 z hb.2
        have g3' := xr_keep hfr g1 g2 hn g3
        refine br_f (nI_nlt z (by omega)) ⟨vp_in_nI (by omega) (by omega), nm_r (e' := nI (T r.1).length) (by rw [nI_clamp (by omega)]; exact g3'.1) ⟨(T r.1).length + 1, ?_⟩⟩
        refine xl_b64 hs hf (by omega) hne g1 hn hok hoA hm hA' g2 g3' (fun C2 E2 B2 G2 hR2 hfr2 => ih (k + 1) C2 E2 B2 G2 (by omega) (by omega) ?_ (xr_fr_tr hfr hfr2)) ((T r.1).length + 1) 0 C' E' B' G' (by omega) (by omega) hR xr_fr_rf
        rw [ru_both_tk hr, if_pos z, ru_add_app]
        exact hR2
      · refine br_t (nI_lt (by omega) (by omega)) ⟨1, ?_⟩
        rw [wX_addRunsOfBoth_64]
        refine br_t (by decide) (nm_r (nI_1 k) (ih (k + 1) C' E' B' G' (by omega) (by omega) ?_ hfr))
        rw [ru_both_tk hr, if_neg z, List.append_nil]
        exact hR
theorem xl_both {s f q i n lo : Nat} {l A : List ru_R} {T : Nat → List ru_R} {p1 p2 p3 : Int32} (e1 : p1 = nI f) (e2 : p2 = nI q) (e3 : p3 = nI lo) (hs : s < 176) (hf : f < 176) (hq : q < 16) (hne : f ≠ s) (hn : n ≤ 10) (hlo : lo ≤ 11) (ho : ru_ok i n l) (hR : xr_Rep C E B G s l) (hoA : ru_ok i n A) (hA : xr_Rep C E B G f A)
    (hT : ∀ k, lo ≤ k → k ≤ n → q * 11 + k ≠ s ∧ ru_ok k n (T k) ∧ xr_Rep C E B G (q * 11 + k) (T k)) (hT0 : ∀ k, k ≤ n → ru_ok k n (T k))
    (hp : ∀ C' E' B' G', xr_Rep C' E' B' G' s (ru_add l (ru_both A T lo)) → xr_fr s C E B G C' E' B' G' → post (bp, he, up, tl, bk, bv, bf, bs, bg, st, uk, uv, uf, us, tx, C', E', B', G')) : wpX_addRunsOfBoth post (bp, he, up, tl, bk, bv, bf, bs, bg, st, uk, uv, uf, us, tx, C, E, B, G) (nI s) p1 p2 p3 := by
  subst e1 e2 e3
  exact ⟨vp_in_nI hf (by omega), nm_r (e' := nI A.length) (by rw [nI_clamp (by omega)]; exact hA.1) ⟨A.length + 1, xl_b11 hs hf hq hne hn hlo ho hoA hA hT hT0 hp (A.length + 1) 0 C E B G (by omega) (by omega) hR xr_fr_rf⟩⟩
theorem xl_g11 {s g0 i n : Nat} {l : List ru_R} {G0 : Nat → Int32} (hs : s < 176) (hg0 : g0 < 3) (hn : n ≤ 10) (hi : i ≤ 10) (ho : ru_ok i n l) (hE : ∀ k r, l[k]? = some r → E (s * 11 + k) = nI r.1)
    (hp : ∀ G', (∀ e, e < 11 → ∀ h, h < 3 → G' ((s * 11 + e) * 3 + h) = if h = g0 ∧ ru_any l e = true then nI (16 * i + e) else G0 ((s * 11 + e) * 3 + h)) → (∀ q, q < s * 33 ∨ s * 33 + 33 ≤ q → G' q = G0 q) → post (bp, he, up, tl, bk, bv, bf, bs, bg, st, uk, uv, uf, us, tx, C, E, B, G')) :
    ∀ (d k : Nat) (G : Nat → Int32), l.length < d + k → k ≤ l.length → (∀ e, e < 11 → ∀ h, h < 3 → G ((s * 11 + e) * 3 + h) = if h = g0 ∧ ru_any (l.take k) e = true then nI (16 * i + e) else G0 ((s * 11 + e) * 3 + h)) → (∀ q, q < s * 33 ∨ s * 33 + 33 ≤ q → G q = G0 q) → wX_setGroup_11 post (nI s) (nI g0) (nI i) (nI l.length) bp he up tl d (nI k) bk bv bf bs bg st uk uv uf us tx C E B G := by
  have hl := ru_len ho
  intro d
  induction d with
  | zero => intro k G h1 h2; omega
  | succ d ih =>
    intro k G h1 h2 hG hk
    rw [wX_setGroup_11]
    by_cases w : k = l.length
    · subst w
      rw [List.take_length] at hG
      exact br_t (nI_le (Nat.le_refl _) (by omega)) (hp G hG hk)
    · obtain ⟨r, hr, hm⟩ := ru_get (A := l) (k := k) (by omega)
      have hb := ho.1 r hm
      have ei : (nI s * 11 + nI r.1) * 3 + nI g0 = nI ((s * 11 + r.1) * 3 + g0) := by rw [xi_11, xi_3]
      have ev : (16 : Int32) * nI i + nI r.1 = nI (16 * i + r.1) := by rw [show (16 : Int32) = nI 16 from rfl, pk_mul, nI_add]
      refine br_f (nI_ge (by omega) (by omega)) ⟨xi_in (by omega) (by omega), nm_r (e' := nI r.1) (by rw [xi_cl (by omega)]; exact hE k r hr) ⟨by rw [ei]; exact vp_in_nI (by omega) (by omega), nm_r (e' := upd G ((s * 11 + r.1) * 3 + g0) (nI (16 * i + r.1))) (by rw [ei, ev, nI_clamp (by omega)]) (nm_r (nI_1 k) (ih (k + 1) _ (by omega) (by omega) (fun e he h hh => ?_) (fun q hq => ?_)))⟩⟩
      · rw [ru_take hr, ru_any_app, ru_any_one]
        by_cases c : (s * 11 + e) * 3 + h = (s * 11 + r.1) * 3 + g0
        · have c1 : h = g0 := by omega
          have c2 : e = r.1 := by omega
          rw [c, pk_us, if_pos ⟨c1, by rw [c2]; simp⟩, c2]
        · rw [pk_un c, hG e he h hh]
          by_cases c1 : h = g0
          · have c2 : r.1 ≠ e := by omega
            rw [beq_eq_false_iff_ne.mpr c2, Bool.or_false]
          · rw [if_neg (fun q => c1 q.1), if_neg (fun q => c1 q.1)]
      · rw [pk_un (by omega)]
        exact hk q hq
theorem xl_setg {s g0 i n : Nat} {l : List ru_R} {p1 : Int32} (e1 : p1 = nI g0) (hs : s < 176) (hg0 : g0 < 3) (hn : n ≤ 10) (hi : i ≤ 10) (ho : ru_ok i n l) (hR : xr_Rep C E B G s l)
    (hp : ∀ G', xr_Rep C E B G' s (l.map (ru_set g0 i)) → xr_fr s C E B G C E B G' → post (bp, he, up, tl, bk, bv, bf, bs, bg, st, uk, uv, uf, us, tx, C, E, B, G')) : wpX_setGroup post (bp, he, up, tl, bk, bv, bf, bs, bg, st, uk, uv, uf, us, tx, C, E, B, G) (nI s) p1 (nI i) := by
  subst e1
  have hl := ru_len ho
  refine ⟨vp_in_nI hs (by omega), nm_r (e' := nI l.length) (by rw [nI_clamp (by omega)]; exact hR.1) ⟨l.length + 1, xl_g11 (G0 := G) hs hg0 hn hi ho hR.2.1 (fun G' h1 h2 => hp G' (xr_setg hn ho hR h1) (fun s' hs' => ⟨rfl, fun k hk => ⟨rfl, rfl, fun g hg => h2 _ (by omega)⟩⟩)) (l.length + 1) 0 G (by omega) (by omega) (fun e he h hh => ?_) (fun q hq => rfl)⟩⟩
  rw [List.take_zero, if_neg (fun q => Bool.noConfusion q.2)]
end
