/-! the stack of patterns: each side's steps -/
theorem ug_0 (x : Int32) : 0 ||| x = x := b_ext (fun i _ => by rw [b_or, b_0, Bool.false_or])
theorem ug_r (x : Int32) : x ||| 0 = x := b_ext (fun i _ => by rw [b_or, b_0, Bool.or_false])
theorem ug_c (x y : Int32) : x ||| y = y ||| x := b_ext (fun i _ => by rw [b_or, b_or, Bool.or_comm])
theorem ug_a (x : Int32) : x &&& 0 = 0 := b_ext (fun i _ => by rw [b_and, b_0, Bool.and_false])
section
variable {bp he up tl : Int32} {bk bv bf bs bg st uk uv uf us tx C E B G : Nat → Int32}
theorem xl_49 {post : SX → Prop} {s d : Nat} {x1 x2 x3 x4 x5 : Int32} (hs : s < 16) (hd : d < 6) (h : post (nI (s + 1), nI (d + 1), up, tl, upd bk s x1, upd bv s x2, upd bf s x3, upd bs s x4, upd bg s x5, upd st d (nI s), uk, uv, uf, us, tx, C, E, B, G)) : wX_addTopPart_49 post x1 x2 x3 x4 x5 (nI s) (nI (d + 1)) up tl bk bv bf bs bg st uk uv uf us tx C E B G := by
  have c : (nI s).toNatClampNeg = s := nI_clamp (by omega)
  have v : vp_in (nI s) 16 := vp_in_nI hs (by omega)
  refine ⟨v, nm_r (by rw [c]) ⟨v, nm_r (by rw [c]) ⟨v, nm_r (by rw [c]) ⟨v, nm_r (by rw [c]) ⟨v, nm_r (by rw [c]) ⟨by rw [nI_pred]; exact vp_in_nI hd (by omega), nm_r (e' := upd st d (nI s)) (by rw [nI_pred, nI_clamp (by omega)]) (nm_r (nI_1 s) h)⟩⟩⟩⟩⟩⟩
theorem xl_atp0 {post : SX → Prop} {s d : Nat} {x1 x2 : Int32} (hs : s < 16) (hd : d < 6) (h7 : ¬ x1 = 7) (h : post (nI (s + 1), nI (d + 1), up, tl, upd bk s x1, upd bv s x2, upd bf s (-1), upd bs s (-1), upd bg s 0, upd st d (nI s), uk, uv, uf, us, tx, C, E, B, G)) : wpX_addTopPart post (nI s, nI (d + 1), up, tl, bk, bv, bf, bs, bg, st, uk, uv, uf, us, tx, C, E, B, G) x1 x2 (-1) (-1) :=
  br_f h7 (br_t rfl (br_t rfl (xl_49 hs hd h)))
theorem xl_atp2 {post : SX → Prop} {s d a b : Nat} {x1 x2 x3 x4 : Int32} (e3 : x3 = nI a) (e4 : x4 = nI b) (hs : s < 16) (hd : d < 6) (ha : a < 16) (hb : b < 16) (h7 : ¬ x1 = 7) (h : post (nI (s + 1), nI (d + 1), up, tl, upd bk s x1, upd bv s x2, upd bf s (nI a), upd bs s (nI b), upd bg s (bg a ||| bg b), upd st d (nI s), uk, uv, uf, us, tx, C, E, B, G)) : wpX_addTopPart post (nI s, nI (d + 1), up, tl, bk, bv, bf, bs, bg, st, uk, uv, uf, us, tx, C, E, B, G) x1 x2 x3 x4 := by
  subst e3 e4
  exact br_f h7 (br_f (xi_m1 (by omega)) ⟨vp_in_nI ha (by omega), nm_r (e' := bg a) (by rw [nI_clamp (by omega), ug_0]) (br_f (xi_m1 (by omega)) ⟨vp_in_nI hb (by omega), nm_r (e' := bg a ||| bg b) (by rw [nI_clamp (by omega)]) (xl_49 hs hd h)⟩)⟩)
theorem xl_atp1 {post : SX → Prop} {s d a : Nat} {x1 x2 x3 z : Int32} (e3 : x3 = nI a) (hs : s < 16) (hd : d < 6) (ha : a < 16) (hz : (x1 = 7 → z = (1 : Int32) <<< (x2 &&& 31)) ∧ (¬ x1 = 7 → z = 0)) (h : post (nI (s + 1), nI (d + 1), up, tl, upd bk s x1, upd bv s x2, upd bf s (nI a), upd bs s (-1), upd bg s (bg a ||| z), upd st d (nI s), uk, uv, uf, us, tx, C, E, B, G)) : wpX_addTopPart post (nI s, nI (d + 1), up, tl, bk, bv, bf, bs, bg, st, uk, uv, uf, us, tx, C, E, B, G) x1 x2 x3 (-1) := by
  subst e3
  have k13 : ∀ w : Int32, w = z → wX_addTopPart_13 post x1 x2 (nI a) (-1) w (nI s) (nI (d + 1)) up tl bk bv bf bs bg st uk uv uf us tx C E B G := by
    intro w hw
    subst hw
    exact br_f (xi_m1 (by omega)) ⟨vp_in_nI ha (by omega), nm_r (e' := bg a ||| w) (by rw [nI_clamp (by omega), ug_c]) (br_t rfl (xl_49 hs hd h))⟩
  exact br_c (fun e => k13 _ (hz.1 e).symm) (fun e => k13 _ (hz.2 e).symm)
theorem xl_push {post : Int32 → SX → Prop} {s d : Nat} {x1 x2 : Int32} (hs : s ≤ 16) (hd : d ≤ 6) (h7 : ¬ x1 = 7) (h0 : s = 16 ∨ d = 6 → post (-2) (nI s, nI d, up, tl, bk, bv, bf, bs, bg, st, uk, uv, uf, us, tx, C, E, B, G))
    (h1 : s < 16 → d < 6 → post (nI (d + 1)) (nI (s + 1), nI (d + 1), up, tl, upd bk s x1, upd bv s x2, upd bf s (-1), upd bs s (-1), upd bg s 0, upd st d (nI s), uk, uv, uf, us, tx, C, E, B, G)) : wpX_push post (nI s, nI d, up, tl, bk, bv, bf, bs, bg, st, uk, uv, uf, us, tx, C, E, B, G) x1 x2 := by
  refine br_c (fun e => h0 (Or.inl ((nI_eq (b := 16) (by omega) (by decide)).mp e))) (fun e => br_c (fun e' => h0 (Or.inr ((nI_eq (b := 6) (by omega) (by decide)).mp e'))) (fun e' => ?_))
  have a1 : s < 16 := Nat.lt_of_le_of_ne hs (fun w => e (by rw [w]; rfl))
  have a2 : d < 6 := Nat.lt_of_le_of_ne hd (fun w => e' (by rw [w]; rfl))
  exact nm_r (nI_1 d) (xl_atp0 a1 a2 h7 (h1 a1 a2))
theorem xl_join {post : Int32 → SX → Prop} {s d : Nat} {x1 : Int32} (hs : s ≤ 16) (hd : d ≤ 6) (hq : ∀ q, q < d → ∃ t, t < s ∧ st q = nI t) (h7 : ¬ x1 = 7) (h0 : s = 16 → post (-2) (nI s, nI d, up, tl, bk, bv, bf, bs, bg, st, uk, uv, uf, us, tx, C, E, B, G)) (h2 : s < 16 → d < 2 → post (-3) (nI s, nI d, up, tl, bk, bv, bf, bs, bg, st, uk, uv, uf, us, tx, C, E, B, G))
    (h1 : ∀ e a b, s < 16 → d = e + 2 → a < s → b < s → st e = nI a → st (e + 1) = nI b → post (nI (e + 1)) (nI (s + 1), nI (e + 1), up, tl, upd bk s x1, upd bv s 0, upd bf s (nI a), upd bs s (nI b), upd bg s (bg a ||| bg b), upd st e (nI s), uk, uv, uf, us, tx, C, E, B, G)) : wpX_join post (nI s, nI d, up, tl, bk, bv, bf, bs, bg, st, uk, uv, uf, us, tx, C, E, B, G) x1 := by
  refine br_c (fun e => h0 ((nI_eq (b := 16) (by omega) (by decide)).mp e)) (fun e => ?_)
  have a1 : s < 16 := Nat.lt_of_le_of_ne hs (fun w => e (by rw [w]; rfl))
  by_cases c : 2 ≤ d
  · obtain ⟨e, rfl⟩ : ∃ e, d = e + 1 + 1 := ⟨d - 2, by omega⟩
    obtain ⟨a, ha, ea⟩ := hq e (by omega)
    obtain ⟨b, hb, eb⟩ := hq (e + 1) (by omega)
    refine br_t (nI_le (a := 2) (by omega) (by omega)) (nm_r (nI_pred (e + 1)) ⟨by rw [nI_pred]; exact vp_in_nI (by omega) (by omega), vp_in_nI (by omega) (by omega), ?_⟩)
    exact xl_atp2 (by rw [nI_pred, nI_clamp (by omega)]; exact ea) (by rw [nI_clamp (by omega)]; exact eb) a1 (by omega) (by omega) (by omega) h7 (h1 e a b a1 rfl ha hb ea eb)
  · exact br_f (nI_ge (b := 2) (by omega) (by decide)) (h2 a1 (by omega))
theorem xl_wrap {post : Int32 → SX → Prop} {s d : Nat} {x1 x2 z : Int32} (hs : s ≤ 16) (hd : d ≤ 6) (hq : ∀ q, q < d → ∃ t, t < s ∧ st q = nI t) (hz : (x1 = 7 → z = (1 : Int32) <<< (x2 &&& 31)) ∧ (¬ x1 = 7 → z = 0)) (h0 : s = 16 → post (-2) (nI s, nI d, up, tl, bk, bv, bf, bs, bg, st, uk, uv, uf, us, tx, C, E, B, G)) (h2 : s < 16 → d = 0 → post (-3) (nI s, nI d, up, tl, bk, bv, bf, bs, bg, st, uk, uv, uf, us, tx, C, E, B, G))
    (h1 : ∀ e a, s < 16 → d = e + 1 → a < s → st e = nI a → post (nI (e + 1)) (nI (s + 1), nI (e + 1), up, tl, upd bk s x1, upd bv s x2, upd bf s (nI a), upd bs s (-1), upd bg s (bg a ||| z), upd st e (nI s), uk, uv, uf, us, tx, C, E, B, G)) : wpX_wrap post (nI s, nI d, up, tl, bk, bv, bf, bs, bg, st, uk, uv, uf, us, tx, C, E, B, G) x1 x2 := by
  unfold wpX_wrap
  refine br_c (fun e => br_f (by decide) (h0 ((nI_eq (b := 16) (by omega) (by decide)).mp e))) (fun e => ?_)
  have a1 : s < 16 := Nat.lt_of_le_of_ne hs (fun w => e (by rw [w]; rfl))
  cases d with
  | zero => exact br_t rfl (br_f (by decide) (h2 a1 rfl))
  | succ e =>
    obtain ⟨a, ha, ea⟩ := hq e (by omega)
    refine br_f (nI_ne0 (by omega) (by omega)) (br_t rfl ⟨by rw [nI_pred]; exact vp_in_nI (by omega) (by omega), ?_⟩)
    exact xl_atp1 (by rw [nI_pred, nI_clamp (by omega)]; exact ea) a1 (by omega) (by omega) hz (h1 e a a1 rfl ha ea)
theorem xl_group {post : Int32 → SX → Prop} {s d : Nat} {x : Int32} (hs : s ≤ 16) (hd : d ≤ 6) (hq : ∀ q, q < d → ∃ t, t < s ∧ st q = nI t) (hb : x < 0 ∨ 2 < x → post (-1) (nI s, nI d, up, tl, bk, bv, bf, bs, bg, st, uk, uv, uf, us, tx, C, E, B, G)) (h0 : ∀ g, x = nI g → g < 3 → s = 16 → post (-2) (nI s, nI d, up, tl, bk, bv, bf, bs, bg, st, uk, uv, uf, us, tx, C, E, B, G)) (h2 : ∀ g, x = nI g → g < 3 → s < 16 → d = 0 → post (-3) (nI s, nI d, up, tl, bk, bv, bf, bs, bg, st, uk, uv, uf, us, tx, C, E, B, G))
    (h4 : ∀ g e a, x = nI g → g < 3 → s < 16 → d = e + 1 → a < s → st e = nI a → ¬ (bg a &&& ((1 : Int32) <<< (nI g &&& 31)) = 0) → post (-4) (nI s, nI d, up, tl, bk, bv, bf, bs, bg, st, uk, uv, uf, us, tx, C, E, B, G))
    (h1 : ∀ g e a, x = nI g → g < 3 → s < 16 → d = e + 1 → a < s → st e = nI a → bg a &&& ((1 : Int32) <<< (nI g &&& 31)) = 0 → post (nI (e + 1)) (nI (s + 1), nI (e + 1), up, tl, upd bk s 7, upd bv s (nI g), upd bf s (nI a), upd bs s (-1), upd bg s (bg a ||| ((1 : Int32) <<< (nI g &&& 31))), upd st e (nI s), uk, uv, uf, us, tx, C, E, B, G)) : wpX_group post (nI s, nI d, up, tl, bk, bv, bf, bs, bg, st, uk, uv, uf, us, tx, C, E, B, G) x := by
  unfold wpX_group
  refine br_c (fun z => br_t rfl (hb (Or.inl z))) (fun z => br_c (fun w => br_t rfl (hb (Or.inr (Int32.lt_of_lt_of_le (by decide) w)))) (fun w => br_f (by decide) ?_))
  obtain ⟨g, hg, rfl⟩ := nI_of z
  have hg3 : g < 3 := Nat.not_le.mp (fun q => w (nI_le (a := 3) q hg))
  refine br_c (fun e => br_f (by decide) (h0 g rfl hg3 ((nI_eq (b := 16) (by omega) (by decide)).mp e))) (fun e => ?_)
  have a1 : s < 16 := Nat.lt_of_le_of_ne hs (fun w => e (by rw [w]; rfl))
  cases d with
  | zero => exact br_t rfl (br_f (by decide) (h2 g rfl hg3 a1 rfl))
  | succ e =>
    obtain ⟨a, ha, ea⟩ := hq e (by omega)
    refine br_f (nI_ne0 (by omega) (by omega)) (br_t rfl ⟨by rw [nI_pred]; exact vp_in_nI (by omega) (by omega), ?_⟩)
    rw [nI_pred, nI_clamp (show e < 2 ^ 31 by omega), ea]
    refine ⟨vp_in_nI (by omega) (by omega), ?_⟩
    rw [nI_clamp (show a < 2 ^ 31 by omega), yb_grp (bg a) (show g < 32 by omega)]
    refine br_c (fun c => br_f (by decide) (h4 g e a rfl hg3 a1 rfl ha ea c)) (fun c => br_t rfl ?_)
    refine xl_wrap (z := (1 : Int32) <<< (nI g &&& 31)) hs hd hq ⟨fun _ => rfl, fun q => absurd rfl q⟩ (fun q => ?_) (fun _ q => ?_) (fun e' a' _ q1 q2 q3 => ?_)
    · omega
    · omega
    · obtain rfl : e = e' := by omega
      have e5 : a = a' := (nI_eq (by omega) (by omega)).mp (ea.symm.trans q3)
      subst e5
      exact h1 g e a rfl hg3 a1 rfl ha ea (Decidable.byContradiction c)
end
section
variable {sp de ro ln wa : Int32} {dk df ds dg sk ki fi se ty re ta wn gr : Nat → Int32} {post : Int32 → SY → Prop}
theorem yl_note {s d : Nat} {a b c e : Int32} (hs : s < 16) (hd : d < 6) (h : post (nI (d + 1)) (nI (s + 1), nI (d + 1), ro, ln, wa, upd dk s a, upd df s b, upd ds s c, upd dg s e, upd sk d (nI s), ki, fi, se, ty, re, ta, wn, gr)) : wpY_note post (nI s, nI d, ro, ln, wa, dk, df, ds, dg, sk, ki, fi, se, ty, re, ta, wn, gr) a b c e := by
  have cs : (nI s).toNatClampNeg = s := nI_clamp (by omega)
  have v : vp_in (nI s) 16 := vp_in_nI hs (by omega)
  exact ⟨v, nm_r (by rw [cs]) ⟨v, nm_r (by rw [cs]) ⟨v, nm_r (by rw [cs]) ⟨v, nm_r (by rw [cs]) ⟨vp_in_nI hd (by omega), nm_r (e' := upd sk d (nI s)) (by rw [nI_clamp (by omega)]) (nm_r (nI_1 s) (nm_r (nI_1 d) h))⟩⟩⟩⟩⟩
theorem yl_leaf {s d : Nat} {x : Int32} (hs : s ≤ 16) (hd : d ≤ 6) (h0 : s = 16 ∨ d = 6 → post (-2) (nI s, nI d, ro, ln, wa, dk, df, ds, dg, sk, ki, fi, se, ty, re, ta, wn, gr))
    (h1 : s < 16 → d < 6 → post (nI (d + 1)) (nI (s + 1), nI (d + 1), ro, ln, wa, upd dk s x, upd df s 0, upd ds s 0, upd dg s 0, upd sk d (nI s), ki, fi, se, ty, re, ta, wn, gr)) : wpY_leaf post (nI s, nI d, ro, ln, wa, dk, df, ds, dg, sk, ki, fi, se, ty, re, ta, wn, gr) x := by
  refine br_c (fun e => h0 (Or.inl ((nI_eq (b := 16) (by omega) (by decide)).mp e))) (fun e => br_c (fun e' => h0 (Or.inr ((nI_eq (b := 6) (by omega) (by decide)).mp e'))) (fun e' => ?_))
  have a1 : s < 16 := Nat.lt_of_le_of_ne hs (fun w => e (by rw [w]; rfl))
  have a2 : d < 6 := Nat.lt_of_le_of_ne hd (fun w => e' (by rw [w]; rfl))
  exact yl_note a1 a2 (h1 a1 a2)
theorem yl_pair {s d : Nat} {x : Int32} (hs : s ≤ 16) (hd : d ≤ 6) (hq : ∀ q, q < d → ∃ t, t < s ∧ sk q = nI t) (h0 : s = 16 → post (-2) (nI s, nI d, ro, ln, wa, dk, df, ds, dg, sk, ki, fi, se, ty, re, ta, wn, gr)) (h2 : s < 16 → d < 2 → post (-3) (nI s, nI d, ro, ln, wa, dk, df, ds, dg, sk, ki, fi, se, ty, re, ta, wn, gr))
    (h1 : ∀ e a b, s < 16 → d = e + 2 → a < s → b < s → sk e = nI a → sk (e + 1) = nI b → post (nI (e + 1)) (nI (s + 1), nI (e + 1), ro, ln, wa, upd dk s x, upd df s (nI a), upd ds s (nI b), upd dg s (dg a ||| dg b), upd sk e (nI s), ki, fi, se, ty, re, ta, wn, gr)) : wpY_pair post (nI s, nI d, ro, ln, wa, dk, df, ds, dg, sk, ki, fi, se, ty, re, ta, wn, gr) x := by
  refine br_c (fun e => h0 ((nI_eq (b := 16) (by omega) (by decide)).mp e)) (fun e => ?_)
  have a1 : s < 16 := Nat.lt_of_le_of_ne hs (fun w => e (by rw [w]; rfl))
  by_cases c : 2 ≤ d
  · obtain ⟨e, rfl⟩ : ∃ e, d = e + 2 := ⟨d - 2, by omega⟩
    obtain ⟨a, ha, ea⟩ := hq e (by omega)
    obtain ⟨b, hb, eb⟩ := hq (e + 1) (by omega)
    have e2 : nI (e + 2) - 2 = nI e := by
      rw [show (2 : Int32) = nI 2 from rfl, pk_sub (by omega)]
      exact congrArg nI (by omega)
    refine br_t (nI_le (a := 2) (by omega) (by omega)) (nm_r e2 ⟨vp_in_nI (by omega) (by omega), nm_r (e' := nI a) (by rw [nI_clamp (by omega)]; exact ea) ⟨by rw [nI_1]; exact vp_in_nI (by omega) (by omega), nm_r (e' := nI b) (by rw [nI_1, nI_clamp (by omega)]; exact eb) ⟨vp_in_nI (by omega) (by omega), vp_in_nI (by omega) (by omega), ?_⟩⟩⟩)
    rw [nI_clamp (show a < 2 ^ 31 by omega), nI_clamp (show b < 2 ^ 31 by omega)]
    exact yl_note a1 (by omega) (h1 e a b a1 rfl ha hb ea eb)
  · exact br_f (nI_ge (b := 2) (by omega) (by decide)) (h2 a1 (by omega))
theorem yl_single {s d : Nat} {x z : Int32} (hs : s ≤ 16) (hd : d ≤ 6) (hq : ∀ q, q < d → ∃ t, t < s ∧ sk q = nI t) (hz : (x ≤ 8 → z = 0) ∧ (¬ x ≤ 8 → z = (1 : Int32) <<< ((x - 9) &&& 31))) (h0 : s = 16 → post (-2) (nI s, nI d, ro, ln, wa, dk, df, ds, dg, sk, ki, fi, se, ty, re, ta, wn, gr)) (h2 : s < 16 → d = 0 → post (-3) (nI s, nI d, ro, ln, wa, dk, df, ds, dg, sk, ki, fi, se, ty, re, ta, wn, gr))
    (h4 : ∀ e a, s < 16 → d = e + 1 → a < s → sk e = nI a → ¬ (dg a &&& z = 0) → post (-4) (nI s, nI d, ro, ln, wa, dk, df, ds, dg, sk, ki, fi, se, ty, re, ta, wn, gr))
    (h1 : ∀ e a, s < 16 → d = e + 1 → a < s → sk e = nI a → dg a &&& z = 0 → post (nI (e + 1)) (nI (s + 1), nI (e + 1), ro, ln, wa, upd dk s x, upd df s (nI a), upd ds s 0, upd dg s (dg a ||| z), upd sk e (nI s), ki, fi, se, ty, re, ta, wn, gr)) : wpY_single post (nI s, nI d, ro, ln, wa, dk, df, ds, dg, sk, ki, fi, se, ty, re, ta, wn, gr) x := by
  refine br_c (fun e => h0 ((nI_eq (b := 16) (by omega) (by decide)).mp e)) (fun e => ?_)
  have a1 : s < 16 := Nat.lt_of_le_of_ne hs (fun w => e (by rw [w]; rfl))
  cases d with
  | zero => exact br_t rfl (h2 a1 rfl)
  | succ e =>
    obtain ⟨a, ha, ea⟩ := hq e (by omega)
    have k50 : ∀ w : Int32, w = z → wY_single_50 post x (nI a) w (nI s) (nI (e + 1)) ro ln wa dk df ds dg sk ki fi se ty re ta wn gr := by
      intro w hw
      subst hw
      refine ⟨vp_in_nI (by omega) (by omega), ?_⟩
      rw [nI_clamp (show a < 2 ^ 31 by omega)]
      refine br_c (fun c => nm_r (nI_pred e) ⟨vp_in_nI (by omega) (by omega), ?_⟩) (fun c => h4 e a a1 rfl ha ea c)
      exact yl_note a1 (by omega) (h1 e a a1 rfl ha ea c)
    refine br_f (nI_ne0 (by omega) (by omega)) ⟨by rw [nI_pred]; exact vp_in_nI (by omega) (by omega), nm_r (e' := nI a) (by rw [nI_pred, nI_clamp (by omega)]; exact ea) ?_⟩
    exact br_c (fun c => k50 _ (hz.1 c).symm) (fun c => k50 _ (hz.2 c).symm)
end
def rl_P (K F S : Nat → Nat) (m : Nat) (bk bv bf bs dk df ds : Nat → Int32) : Prop :=
  ru_wf K F S m ∧ ∀ p, p < m → pc_ok K F S p bk bv bf bs ∧ dk p = nI (K p) ∧ (5 ≤ K p → df p = nI (F p) ∧ ds p = nI (S p))
def rl_D (s d : Nat) (bk bv bf bs dk df ds sk : Nat → Int32) : Prop :=
  s ≤ 16 ∧ d ≤ 6 ∧ d ≤ s ∧ (∀ q, q < d → ∃ t, t < s ∧ sk q = nI t) ∧ (0 < d → sk (d - 1) = nI (s - 1)) ∧ ∃ K F S, rl_P K F S s bk bv bf bs dk df ds
def rl_U (r n : Nat) (uk uv uf us ki fi se tx C E B G : Nat → Int32) : Prop :=
  r < 16 ∧ n ≤ 10 ∧ ∃ K F S, rl_P K F S (r + 1) uk uv uf us ki fi se ∧ ∀ q, q < r + 1 → ∀ j, j ≤ n → xr_Rep C E B G (q * 11 + j) (ru_tb K F S tx n q j)
theorem rl_note {s d e : Nat} {bk bv bf bs dk df ds sk : Nat → Int32} {x1 x2 x3 x4 y1 y2 y3 : Int32} (k f g : Nat) (h : rl_D s d bk bv bf bs dk df ds sk) (hs : s < 16) (he : e ≤ d) (he6 : e < 6) (hk : k ≤ 11) (hf : 5 ≤ k → f < s ∧ g < s)
    (h1 : x1 = nI (pc_k k)) (h2 : x2 = nI (pc_v k)) (h3 : 5 ≤ k → x3 = nI f) (h4 : k = 5 ∨ k = 6 → x4 = nI g) (h5 : y1 = nI k) (h6 : 5 ≤ k → y2 = nI f ∧ y3 = nI g) :
    rl_D (s + 1) (e + 1) (upd bk s x1) (upd bv s x2) (upd bf s x3) (upd bs s x4) (upd dk s y1) (upd df s y2) (upd ds s y3) (upd sk e (nI s)) := by
  obtain ⟨_, hd, hds, hq, _, K, F, S, wf, hP⟩ := h
  refine ⟨by omega, by omega, by omega, fun q hq' => ?_, fun _ => ?_, (fun p => if p = s then k else K p), (fun p => if p = s then f else F p), (fun p => if p = s then g else S p), fun p hp => ?_, fun p hp => ?_⟩
  · by_cases c : q = e
    · exact ⟨s, by omega, by rw [c, pk_us]⟩
    · obtain ⟨t, ht, et⟩ := hq q (by omega)
      exact ⟨t, by omega, by rw [pk_un c]; exact et⟩
  · show upd sk e (nI s) e = nI s
    exact pk_us
  · by_cases c : p = s
    · simp only [if_pos c]
      exact ⟨hk, fun q => by have := hf q; omega⟩
    · simp only [if_neg c]
      exact wf p (by omega)
  · unfold pc_ok
    by_cases c : p = s
    · subst c
      simp only [pk_us, if_pos]
      exact ⟨⟨h1, h2, h3, h4⟩, h5, h6⟩
    · simp only [pk_un c, if_neg c]
      exact hP p (by omega)
