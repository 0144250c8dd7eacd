/-! the component: clearRuns, addRun -/
theorem xi_c11 : (11 : Int32) = nI 11 := rfl
theorem xi_c3 : (3 : Int32) = nI 3 := rfl
theorem xi_11 (s e : Nat) : nI s * 11 + nI e = nI (s * 11 + e) := by rw [xi_c11, pk_mul, nI_add]
theorem xi_3 (s e : Nat) : nI s * 3 + nI e = nI (s * 3 + e) := by rw [xi_c3, pk_mul, nI_add]
theorem xi_in {s e N : Nat} (h : s * 11 + e < N) (hN : N < 2 ^ 31) : vp_in (nI s * 11 + nI e) N := by
  rw [xi_11]
  exact vp_in_nI h hN
theorem xi_cl {s e : Nat} (h : s * 11 + e < 2 ^ 31) : (nI s * 11 + nI e).toNatClampNeg = s * 11 + e := by
  rw [xi_11]
  exact nI_clamp h
theorem xi_in3 {s e N : Nat} (h : s * 3 + e < N) (hN : N < 2 ^ 31) : vp_in (nI s * 3 + nI e) N := by
  rw [xi_3]
  exact vp_in_nI h hN
theorem xi_cl3 {s e : Nat} (h : s * 3 + e < 2 ^ 31) : (nI s * 3 + nI e).toNatClampNeg = s * 3 + e := by
  rw [xi_3]
  exact nI_clamp h
theorem xi_b0 : vp_nar .boolean 0 = 0 := by decide
theorem xi_b1 : vp_nar .boolean 1 = 1 := by decide
theorem xi_m1 {a : Nat} (h : a < 2 ^ 31) : ¬ nI a = -1 := fun e => by
  have h1 := nI_pos h
  rw [e] at h1
  exact h1 (by decide)
def xo_i : Option Nat → Int32
  | none => -1
  | some a => nI a
def xo_g (G : Nat → Int32) : Option Nat → Nat → Int32
  | none, _ => -4
  | some a, g => G (a * 3 + g)
def xo_ok (o : Option Nat) (run : Nat) : Prop := ∀ a, o = some a → a < 1936 ∧ a ≠ run
section
variable {bp he up tl : Int32} {bk bv bf bs bg st uk uv uf us tx C E B G : Nat → Int32} {post : SX → Prop}
theorem xl_c17 {s : Nat} (hs : s < 176) {B0 : Nat → Int32} : ∀ (n e : Nat) (B : Nat → Int32), 11 < n + e → e ≤ 11 → (∀ e', e' < e → B (s * 11 + e') = 0) → (∀ q, q < s * 11 ∨ s * 11 + 11 ≤ q → B q = B0 q) →
    (∀ B', (∀ e', e' < 11 → B' (s * 11 + e') = 0) → (∀ q, q < s * 11 ∨ s * 11 + 11 ≤ q → B' q = B0 q) → post (bp, he, up, tl, bk, bv, bf, bs, bg, st, uk, uv, uf, us, tx, C, E, B', G)) → wX_clearRuns_17 post (nI s) bp he up tl n (nI e) bk bv bf bs bg st uk uv uf us tx C E B G := by
  intro n
  induction n with
  | zero => intro e B h1 h2; omega
  | succ n ih =>
    intro e B h1 h2 hb hk hp
    rw [wX_clearRuns_17]
    by_cases q : e = 11
    · subst q
      exact br_t (show (11 : Int32) ≤ nI 11 from by decide) (hp B hb hk)
    · refine br_f (show ¬ (11 : Int32) ≤ nI e from nI_ge (b := 11) (by omega) (by omega)) ⟨xi_in (by omega) (by omega), nm_r (e' := upd B (s * 11 + e) 0) (by rw [xi_cl (by omega), xi_b0]) (nm_r (nI_1 e) (ih (e + 1) _ (by omega) (by omega) (fun e' he' => ?_) (fun q hq => ?_) hp))⟩
      · by_cases w : e' = e
        · rw [w, pk_us]
        · rw [pk_un (by omega)]
          exact hb e' (by omega)
      · rw [pk_un (by omega)]
        exact hk q hq
theorem xl_clear {p i : Nat} (hp : p < 16) (hi : i ≤ 10) (h : ∀ C' B', xr_Rep C' E B' G (p * 11 + i) [] → xr_fr (p * 11 + i) C E B G C' E B' G → post (bp, he, up, tl, bk, bv, bf, bs, bg, st, uk, uv, uf, us, tx, C', E, B', G)) : wpX_clearRuns post (bp, he, up, tl, bk, bv, bf, bs, bg, st, uk, uv, uf, us, tx, C, E, B, G) (nI p) (nI i) := by
  refine nm_r (e' := nI (p * 11 + i)) (xi_11 p i) ⟨vp_in_nI (by omega) (by omega), nm_r (e' := upd C (p * 11 + i) 0) (by rw [nI_clamp (by omega)]) ⟨12, ?_⟩⟩
  refine xl_c17 (C := upd C (p * 11 + i) 0) (by omega) (B0 := B) 12 0 B (by omega) (by omega) (fun e' he' => by omega) (fun q hq => rfl) (fun B' h1 h2 => ?_)
  exact h _ B' (xr_clear h1) (fun s' hs => ⟨pk_un hs, fun k hk => ⟨rfl, h2 _ (by omega), fun g hg => rfl⟩⟩)
theorem xl_ar57 {A L : Option Nat} {v G0 : Nat → Int32} {run : Nat} (hrun : run < 1936) (hA : xo_ok A run) (hL : xo_ok L run) (hv : ∀ g, g < 3 → v g = if xo_g G0 L g = -4 then xo_g G0 A g else xo_g G0 L g) :
    ∀ (n g : Nat) (G : Nat → Int32), 3 < n + g → g ≤ 3 → (∀ h, h < g → G (run * 3 + h) = v h) → (∀ q, q < run * 3 ∨ run * 3 + 3 ≤ q → G q = G0 q) →
    (∀ G', (∀ h, h < 3 → G' (run * 3 + h) = v h) → (∀ q, q < run * 3 ∨ run * 3 + 3 ≤ q → G' q = G0 q) → post (bp, he, up, tl, bk, bv, bf, bs, bg, st, uk, uv, uf, us, tx, C, E, B, G')) → wX_addRun_57 post (xo_i A) (xo_i L) (nI run) bp he up tl n (nI g) bk bv bf bs bg st uk uv uf us tx C E B G := by
  intro n
  induction n with
  | zero => intro e B h1 h2; omega
  | succ n ih =>
    intro g G h1 h2 hb hk hp
    rw [wX_addRun_57]
    by_cases q : g = 3
    · subst q
      exact br_t (show (3 : Int32) ≤ nI 3 from by decide) (hp G hb hk)
    · have hg : g < 3 := by omega
      have rd : ∀ o : Option Nat, xo_ok o run → ∀ a, o = some a → G (nI a * 3 + nI g).toNatClampNeg = xo_g G0 o g ∧ vp_in (nI a * 3 + nI g) 5808 := by
        intro o ho a ha
        have := ho a ha
        subst ha
        rw [xi_cl3 (by omega), hk _ (by omega)]
        exact ⟨rfl, xi_in3 (by omega) (by omega)⟩
      have k112 : ∀ z : Int32, z = v g → wX_addRun_112 post (wX_addRun_57 post (xo_i A) (xo_i L) (nI run) bp he up tl n) (xo_i A) (xo_i L) (nI run) (nI g) z bp he up tl bk bv bf bs bg st uk uv uf us tx C E B G := by
        intro z hz
        refine ⟨xi_in3 (by omega) (by omega), nm_r (e' := upd G (run * 3 + g) (v g)) (by rw [xi_cl3 (by omega), hz]) (nm_r (nI_1 g) (ih (g + 1) _ (by omega) (by omega) (fun e' he' => ?_) (fun q hq => ?_) hp))⟩
        · by_cases w : e' = g
          · rw [w, pk_us]
          · rw [pk_un (by omega)]
            exact hb e' (by omega)
        · rw [pk_un (by omega)]
          exact hk q hq
      have k87 : ∀ z : Int32, z = xo_g G0 L g → wX_addRun_87 post (wX_addRun_57 post (xo_i A) (xo_i L) (nI run) bp he up tl n) (xo_i A) (xo_i L) (nI run) (nI g) z bp he up tl bk bv bf bs bg st uk uv uf us tx C E B G := by
        intro z hz
        have hvg := hv g hg
        by_cases w : z = -4
        · rw [if_pos (hz ▸ w)] at hvg
          refine br_t w ?_
          cases A with
          | none => exact br_t rfl (k112 z (w.trans hvg.symm))
          | some a =>
            have ha := rd (some a) hA a rfl
            exact br_f (xi_m1 (by have := (hA a rfl).1; omega)) ⟨ha.2, fun y hy => k112 y (hy.trans (ha.1.trans hvg.symm))⟩
        · rw [if_neg (fun e => w (hz.trans e))] at hvg
          exact br_f w (k112 z (hz.trans hvg.symm))
      refine br_f (show ¬ (3 : Int32) ≤ nI g from nI_ge (b := 3) (by omega) (by omega)) ?_
      cases L with
      | none => exact br_t rfl (k87 (-4) rfl)
      | some b =>
        have hb := rd (some b) hL b rfl
        exact br_f (xi_m1 (by have := (hL b rfl).1; omega)) ⟨hb.2, fun y hy => k87 y (hy.trans hb.1)⟩
theorem xl_addRun {s i n : Nat} {l : List ru_R} {r : ru_R} {A L : Option Nat} {p1 p2 p3 : Int32} (h1 : p1 = nI r.1) (h2 : p2 = xo_i A) (h3 : p3 = xo_i L) (hs : s < 176) (hn : n ≤ 10) (ho : ru_ok i n l) (hR : xr_Rep C E B G s l) (hb : i ≤ r.1 ∧ r.1 ≤ n) (hA : xo_ok A (s * 11 + r.1)) (hL : xo_ok L (s * 11 + r.1))
    (hv : ∀ g, g < 3 → r.2 g = if xo_g G L g = -4 then xo_g G A g else xo_g G L g)
    (hp : ∀ C' E' B' G', xr_Rep C' E' B' G' s (ru_ins l r) → xr_fr s C E B G C' E' B' G' → post (bp, he, up, tl, bk, bv, bf, bs, bg, st, uk, uv, uf, us, tx, C', E', B', G')) : wpX_addRun post (bp, he, up, tl, bk, bv, bf, bs, bg, st, uk, uv, uf, us, tx, C, E, B, G) (nI s) p1 p2 p3 := by
  subst h1 h2 h3
  have hB := hR.2.2.1 r.1 (by omega)
  have cr : (nI (s * 11 + r.1)).toNatClampNeg = s * 11 + r.1 := nI_clamp (by omega)
  have cs : (nI s).toNatClampNeg = s := nI_clamp (by omega)
  have vr : vp_in (nI (s * 11 + r.1)) 1936 := vp_in_nI (by omega) (by omega)
  have vs : vp_in (nI s) 176 := vp_in_nI hs (by omega)
  refine nm_r (e' := nI (s * 11 + r.1)) (xi_11 s r.1) ⟨vr, ?_⟩
  by_cases z : ru_any l r.1 = true
  · rw [if_pos z] at hB
    refine br_f (by rw [cr, hB]; decide) (hp C E B G ?_ xr_fr_rf)
    rw [show ru_ins l r = l from if_pos z]
    exact hR
  · rw [if_neg z] at hB
    have hl := ru_len_ins ho hb z
    have hc : C (nI s).toNatClampNeg = nI l.length := by rw [cs]; exact hR.1
    refine br_t (by rw [cr, hB]) ⟨vr, nm_r (e' := upd B (s * 11 + r.1) 1) (by rw [cr, xi_b1]) ⟨vs, by rw [hc]; exact xi_in (by omega) (by omega), nm_r (e' := upd E (s * 11 + l.length) (nI r.1)) (by rw [hc, xi_cl (by omega)]) ⟨vs, vs, nm_r (e' := upd C s (nI (l.length + 1))) (by rw [hc, cs, nI_1]) ⟨4, ?_⟩⟩⟩⟩
    refine xl_ar57 (v := r.2) (G0 := G) (C := upd C s (nI (l.length + 1))) (E := upd E (s * 11 + l.length) (nI r.1)) (B := upd B (s * 11 + r.1) 1) (by omega) hA hL hv 4 0 G (by omega) (by omega) (fun h hh => by omega) (fun q hq => rfl) (fun G' h1 h2 => ?_)
    have hx := xr_ins hn ho hR hb z h1 h2
    exact hp _ _ _ G' hx.1 hx.2
end
