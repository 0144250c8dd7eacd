/-! the questions: each side answers by the table's row of the whole pattern -/
def qa_f (L : Nat → List ru_R) (n : Nat) (f : Int32) : Option Nat := if f < 0 ∨ nI n < f then none else qu_f L (n + 1 - f.toNatClampNeg) f.toNatClampNeg
theorem qa_lo {L : Nat → List ru_R} {n : Nat} {f : Int32} (h : f < 0) : qa_f L n f = none := if_pos (Or.inl h)
theorem qa_hi {L : Nat → List ru_R} {n : Nat} {f : Int32} (h : nI n < f) : qa_f L n f = none := if_pos (Or.inr h)
theorem qa_in {L : Nat → List ru_R} {n j : Nat} (hn : n ≤ 10) (hj : j ≤ n) : qa_f L n (nI j) = qu_f L (n + 1 - j) j := by
  unfold qa_f
  rw [if_neg (fun h => h.elim (nI_pos (by omega)) (nI_nlt hj (by omega))), nI_clamp (by omega)]
theorem qa_cs (n : Nat) (hn : n ≤ 10) (f : Int32) : f < 0 ∨ (¬ f < 0 ∧ nI n < f) ∨ ∃ j, j ≤ n ∧ f = nI j := by
  by_cases h : f < 0
  · exact Or.inl h
  · obtain ⟨j, hj, rfl⟩ := nI_of h
    by_cases z : j ≤ n
    · exact Or.inr (Or.inr ⟨j, z, rfl⟩)
    · exact Or.inr (Or.inl ⟨h, nI_lt (by omega) hj⟩)
theorem qa_some {L : Nat → List ru_R} {n i : Nat} {f : Int32} (hn : n ≤ 10) (h : qa_f L n f = some i) : i ≤ n ∧ ¬ (L i).isEmpty = true := by
  rcases qa_cs n hn f with a | a | ⟨j, hj, rfl⟩
  · rw [qa_lo a] at h; cases h
  · rw [qa_hi a.2] at h; cases h
  · rw [qa_in hn hj] at h
    have h1 := qu_f_some _ _ _ h
    exact ⟨by omega, by rw [h1.2.2]; decide⟩
theorem qa_z {R : Int32} {l : List ru_R} (hR : ∀ e, bt R e = ru_any l e) : R = 0 ↔ l.isEmpty = true := by
  cases l with
  | nil => exact ⟨fun _ => rfl, fun _ => b_ext (fun j _ => by rw [hR, b_0]; rfl)⟩
  | cons r l =>
    refine ⟨fun h => ?_, fun h => (nomatch h)⟩
    have h1 := hR r.1
    rw [h, b_0] at h1
    have h2 : ru_any (r :: l) r.1 = true := ru_any_iff.mpr ⟨r, List.mem_cons_self, rfl⟩
    rw [h2] at h1
    cases h1
section
variable {sp de ro ln wa : Int32} {dk df ds dg sk ki fi se ty re ta wn gr : Nat → Int32} {post : Int32 → SY → Prop} {K F S : Nat → Nat} {n r : Nat}
def yd_0 (K F S : Nat → Nat) (n r : Nat) (ki fi se : Nat → Int32) : Prop := ru_wf K F S (r + 1) ∧ r < 16 ∧ n ≤ 10 ∧ (∀ p, p < r + 1 → ki p = nI (K p) ∧ (5 ≤ K p → fi p = nI (F p) ∧ se p = nI (S p)))
theorem yd_1 (H : yd_0 K F S n r ki fi se) (hr : yr_ok re (ru_tb K F S ty n) n (r + 1)) : yd_ok K F S n (r + 1) ki fi se ty re := ⟨H.1, by have := H.2.1; omega, H.2.2.1, H.2.2.2, hr⟩
theorem yl_f6 (H : yd_ok K F S n (r + 1) ki fi se ty re) : ∀ (d j : Nat), j + d = n + 1 → post (qu_o (qu_f (ru_tb K F S ty n r) d j)) (sp, de, nI r, nI n, wa, dk, df, ds, dg, sk, ki, fi, se, ty, re, ta, wn, gr) → wY_find_6 post sp de (nI r) (nI n) wa dk df ds dg sk ki fi se ty re ta wn gr (d + 1) (nI j) := by
  have hn := H.2.2.1
  have hm := H.2.1
  intro d
  induction d with
  | zero =>
    intro j hj hp
    rw [wY_find_6]
    exact br_f (nI_pos (by omega)) (br_t (nI_lt (by omega) (by omega)) hp)
  | succ d ih =>
    intro j hj hp
    rw [wY_find_6]
    have hz := qa_z (H.2.2.2.2 r (by omega) j (by omega))
    refine br_f (nI_pos (by omega)) (br_f (nI_nlt (by omega) (by omega)) ⟨yi_in (by omega) (by omega), ?_⟩)
    rw [yi_cl (by omega)]
    refine br_c (fun z => nm_r (nI_1 j) (ih (j + 1) (by omega) ?_)) (fun z => ?_)
    · rw [show qu_f (ru_tb K F S ty n r) (d + 1) j = qu_f (ru_tb K F S ty n r) d (j + 1) from if_pos (hz.mp z)] at hp
      exact hp
    · rw [show qu_f (ru_tb K F S ty n r) (d + 1) j = some j from if_neg (fun e => z (hz.mpr e))] at hp
      exact hp
theorem yl_find {f : Int32} (H : yd_0 K F S n r ki fi se) (hp : ∀ re', yd_ok K F S n (r + 1) ki fi se ty re' → post (qu_o (qa_f (ru_tb K F S ty n r) n f)) (sp, de, nI r, nI n, wa, dk, df, ds, dg, sk, ki, fi, se, ty, re', ta, wn, gr)) : wpY_find post (sp, de, nI r, nI n, wa, dk, df, ds, dg, sk, ki, fi, se, ty, re, ta, wn, gr) f := by
  have hn := H.2.2.1
  refine yl_fill H.1 H.2.1 hn H.2.2.2 (fun re' hr => ?_)
  have hq := hp re' (yd_1 H hr)
  rcases qa_cs n hn f with a | a | ⟨j, hj, rfl⟩
  · rw [qa_lo a] at hq
    exact ⟨0 + 1, by rw [wY_find_6]; exact br_t a hq⟩
  · rw [qa_hi a.2] at hq
    exact ⟨0 + 1, by rw [wY_find_6]; exact br_f a.1 (br_t a.2 hq)⟩
  · rw [qa_in hn hj] at hq
    exact ⟨n + 1 - j + 1, yl_f6 (yd_1 H hr) (n + 1 - j) j (by omega) hq⟩
theorem yl_end {f : Int32} (H : yd_0 K F S n r ki fi se) (h0 : qa_f (ru_tb K F S ty n r) n f = none → ∀ re', post (-4) (sp, de, nI r, nI n, wa, dk, df, ds, dg, sk, ki, fi, se, ty, re', ta, wn, gr))
    (h1 : ∀ i, qa_f (ru_tb K F S ty n r) n f = some i → ∀ re' ta' wn' gr', (∀ g, g < 3 → gr' g = (qu_hd (ru_tb K F S ty n r i)).2 g) → post (nI (qu_hd (ru_tb K F S ty n r i)).1) (sp, de, nI r, nI n, nI 0, dk, df, ds, dg, sk, ki, fi, se, ty, re', ta', wn', gr')) : wpY_end post (sp, de, nI r, nI n, wa, dk, df, ds, dg, sk, ki, fi, se, ty, re, ta, wn, gr) f := by
  have hn := H.2.2.1
  refine yl_find H (fun re' H' => ?_)
  cases q : qa_f (ru_tb K F S ty n r) n f with
  | none => exact br_f (by decide) (h0 q re')
  | some i =>
    have hi := qa_some hn q
    have hs := qu_hd_sel (x := 2047) hi.2 (fun s hs => by
      have := (ru_tb_ok (K := K) (F := F) (S := S) (t := ty) (p := r) hi.1).1 s hs
      rw [yb_2047, decide_eq_true (by omega)])
    exact br_t (nI_pos' (by omega)) (yl_run rfl H' hi.1 hs.1 (fun ta' wn' gr' hg => h1 i q re' ta' wn' gr' hg))
theorem yl_groupIn {f g : Int32} (H : yd_0 K F S n r ki fi se) (h0 : (qa_f (ru_tb K F S ty n r) n f = none ∨ g < 0 ∨ 2 < g) → ∀ wa' re' ta' wn' gr', post (-4) (sp, de, nI r, nI n, wa', dk, df, ds, dg, sk, ki, fi, se, ty, re', ta', wn', gr'))
    (h1 : ∀ i g', qa_f (ru_tb K F S ty n r) n f = some i → g = nI g' → g' < 3 → ∀ re' ta' wn' gr', post ((qu_hd (ru_tb K F S ty n r i)).2 g') (sp, de, nI r, nI n, nI 0, dk, df, ds, dg, sk, ki, fi, se, ty, re', ta', wn', gr')) : wpY_groupIn post (sp, de, nI r, nI n, wa, dk, df, ds, dg, sk, ki, fi, se, ty, re, ta, wn, gr) f g := by
  have hn := H.2.2.1
  unfold wpY_groupIn
  refine yl_end H (fun q re' => ?_) (fun i q re' ta' wn' gr' hg => ?_)
  · exact br_t (by decide) (h0 (Or.inl q) _ _ _ _ _)
  have hi := qa_some hn q
  have hs := qu_hd_sel (x := 2047) hi.2 (fun s hs => by
      have := (ru_tb_ok (K := K) (F := F) (S := S) (t := ty) (p := r) hi.1).1 s hs
      rw [yb_2047, decide_eq_true (by omega)])
  have hb := (ru_tb_ok (K := K) (F := F) (S := S) (t := ty) (p := r) hi.1).1 _ hs.2.1
  refine br_f (nI_pos (by omega)) (br_c (fun z => h0 (Or.inr (Or.inl z)) _ _ _ _ _) (fun z => br_c (fun w => ?_) (fun w => h0 (Or.inr (Or.inr (Int32.not_le.mp w))) _ _ _ _ _)))
  obtain ⟨g', hg', rfl⟩ := nI_of2 (n := 2) (by decide) z w
  refine ⟨vp_in_nI (by omega) (by omega), ?_⟩
  rw [nI_clamp (by omega), hg g' (by omega)]
  exact h1 i g' q rfl (by omega) re' ta' wn' gr'
theorem yl_spans {i j : Int32} (H : yd_0 K F S n r ki fi se) (h0 : (i < 0 ∨ nI n < i ∨ j < 0 ∨ nI n < j) → post 0 (sp, de, nI r, nI n, wa, dk, df, ds, dg, sk, ki, fi, se, ty, re, ta, wn, gr))
    (h1 : ∀ i' j', i = nI i' → j = nI j' → i' ≤ n → j' ≤ n → ∀ re', yd_ok K F S n (r + 1) ki fi se ty re' → post (if ru_any (ru_tb K F S ty n r i') j' = true then 1 else 0) (sp, de, nI r, nI n, wa, dk, df, ds, dg, sk, ki, fi, se, ty, re', ta, wn, gr)) : wpY_spans post (sp, de, nI r, nI n, wa, dk, df, ds, dg, sk, ki, fi, se, ty, re, ta, wn, gr) i j := by
  have hn := H.2.2.1
  have hr := H.2.1
  refine br_c (fun z => h0 (Or.inl z)) (fun z => br_c (fun w => h0 (Or.inr (Or.inl w))) (fun w => br_c (fun z' => h0 (Or.inr (Or.inr (Or.inl z')))) (fun z' => br_c (fun w' => ?_) (fun w' => h0 (Or.inr (Or.inr (Or.inr (Int32.not_le.mp w'))))))))
  obtain ⟨i', hi1, rfl⟩ := nI_of z
  obtain ⟨j', hj1, rfl⟩ := nI_of z'
  have hi2 : i' ≤ n := Nat.not_lt.mp (fun e => w (nI_lt e hi1))
  have hj2 : j' ≤ n := (nI_leI hj1 (by omega)).mp w'
  refine yl_fill H.1 H.2.1 hn H.2.2.2 (fun re' hr' => ⟨yi_in (by omega) (by omega), ?_⟩)
  have hq := h1 i' j' rfl rfl hi2 hj2 re' (yd_1 H hr')
  rw [yi_cl (by omega)]
  have hb := yb_t (re' (11 * r + i')) (k := j') (by omega)
  rw [hr' r (by omega) i' hi2 j'] at hb
  refine br_c (fun e => ?_) (fun e => ?_)
  · rw [if_pos (hb.mp e)] at hq
    exact hq
  · rw [if_neg (fun c => e (hb.mpr c))] at hq
    exact hq
theorem yl_giw {g : Int32} (H : yd_0 K F S n r ki fi se) (h0 : (g < 0 ∨ 2 < g ∨ ru_any (ru_tb K F S ty n r 0) n = false) → ∀ wa' re' ta' wn' gr', post (-4) (sp, de, nI r, nI n, wa', dk, df, ds, dg, sk, ki, fi, se, ty, re', ta', wn', gr'))
    (h1 : ∀ g' s, g = nI g' → g' < 3 → s ∈ ru_tb K F S ty n r 0 → s.1 = n → ∀ re' ta' wn' gr', post (s.2 g') (sp, de, nI r, nI n, nI 0, dk, df, ds, dg, sk, ki, fi, se, ty, re', ta', wn', gr')) : wpY_groupInWhole post (sp, de, nI r, nI n, wa, dk, df, ds, dg, sk, ki, fi, se, ty, re, ta, wn, gr) g := by
  have hn := H.2.2.1
  refine br_c (fun z => h0 (Or.inl z) _ _ _ _ _) (fun z => br_c (fun w => h0 (Or.inr (Or.inl w)) _ _ _ _ _) (fun w => ?_))
  obtain ⟨g', hg', rfl⟩ := nI_of2 (n := 2) (M := 2) (by decide) z (Int32.not_lt.mp w)
  refine yl_spans H (fun q => ?_) (fun i' j' ei ej hi hj re' H' => ?_)
  · rcases q with q | q | q | q
    · exact absurd q (by decide)
    · exact absurd q (nI_nlt (a := n) (b := 0) (by omega) (by omega))
    · exact absurd q (nI_pos (by omega))
    · exact absurd q (nI_nlt (Nat.le_refl n) (by omega))
  · have e1 : 0 = i' := (nI_eq (a := 0) (by omega) (by omega)).mp ei
    have e2 : n = j' := (nI_eq (by omega) (by omega)).mp ej
    subst e1 e2
    by_cases c : ru_any (ru_tb K F S ty n r 0) n = true
    · rw [if_pos c]
      obtain ⟨a, ha, hb⟩ := ru_any_iff.mp c
      have hq : (ru_sel (bt ((1 : Int32) <<< (nI n &&& 31))) (ru_tb K F S ty n r 0)).isSome = true := ru_sel_is.mpr ⟨a, ha, by rw [yb_one (by omega), hb]; exact beq_self_eq_true n⟩
      obtain ⟨s, hs⟩ := Option.isSome_iff_exists.mp hq
      have h2 := ru_sel_some hs
      have h3 : s.1 = n := by
        have h4 := h2.2
        rw [yb_one (by omega)] at h4
        exact eq_of_beq h4
      refine br_f (by decide) (yl_run (i := 0) rfl H' (by omega) hs (fun ta' wn' gr' hg => ⟨vp_in_nI (by omega) (by omega), ?_⟩))
      rw [nI_clamp (by omega), hg g' (by omega)]
      exact h1 g' s rfl (by omega) h2.1 h3 re' ta' wn' gr'
    · rw [if_neg c]
      exact br_t rfl (h0 (Or.inr (Or.inr (by simpa using c))) _ _ _ _ _)
end
