/-! the component's four arrays hold a list of runs in row s -/
def xr_Rep (C E B G : Nat → Int32) (s : Nat) (l : List ru_R) : Prop :=
  C s = nI l.length ∧ (∀ k r, l[k]? = some r → E (s * 11 + k) = nI r.1) ∧ (∀ e, e < 11 → B (s * 11 + e) = if ru_any l e = true then 1 else 0) ∧ (∀ r, r ∈ l → ∀ g, g < 3 → G ((s * 11 + r.1) * 3 + g) = r.2 g)
def xr_fr (s : Nat) (C E B G C' E' B' G' : Nat → Int32) : Prop :=
  ∀ s', s' ≠ s → C' s' = C s' ∧ ∀ k, k < 11 → E' (s' * 11 + k) = E (s' * 11 + k) ∧ B' (s' * 11 + k) = B (s' * 11 + k) ∧ ∀ g, g < 3 → G' ((s' * 11 + k) * 3 + g) = G ((s' * 11 + k) * 3 + g)
section
variable {C E B G C' E' B' G' C2 E2 B2 G2 : Nat → Int32} {s : Nat} {l : List ru_R} {i n : Nat}
theorem xr_fr_rf : xr_fr s C E B G C E B G := fun _ _ => ⟨rfl, fun _ _ => ⟨rfl, rfl, fun _ _ => rfl⟩⟩
theorem xr_fr_tr (h : xr_fr s C E B G C' E' B' G') (h' : xr_fr s C' E' B' G' C2 E2 B2 G2) : xr_fr s C E B G C2 E2 B2 G2 := by
  intro s' hs
  have a := h s' hs
  have b := h' s' hs
  refine ⟨b.1.trans a.1, fun k hk => ⟨(b.2 k hk).1.trans (a.2 k hk).1, (b.2 k hk).2.1.trans (a.2 k hk).2.1, fun g hg => ((b.2 k hk).2.2 g hg).trans ((a.2 k hk).2.2 g hg)⟩⟩
theorem xr_keep {s' : Nat} (h : xr_fr s C E B G C' E' B' G') (hs : s' ≠ s) (ho : ru_ok i n l) (hn : n ≤ 10) (hr : xr_Rep C E B G s' l) : xr_Rep C' E' B' G' s' l := by
  have a := h s' hs
  have hl := ru_len ho
  refine ⟨a.1.trans hr.1, fun k r hk => ?_, fun e he => (a.2 e he).2.1.trans (hr.2.2.1 e he), fun r hm g hg => ?_⟩
  · have hk2 : k < l.length := (List.getElem?_eq_some_iff.mp hk).1
    exact (a.2 k (by omega)).1.trans (hr.2.1 k r hk)
  · have := (ho.1 r hm).2
    exact ((a.2 r.1 (by omega)).2.2 g hg).trans (hr.2.2.2 r hm g hg)
theorem xr_ins {r : ru_R} (hn : n ≤ 10) (ho : ru_ok i n l) (hr : xr_Rep C E B G s l) (hb : i ≤ r.1 ∧ r.1 ≤ n) (z : ¬ ru_any l r.1 = true)
    (hg : ∀ g, g < 3 → G' ((s * 11 + r.1) * 3 + g) = r.2 g) (hk : ∀ q, q < (s * 11 + r.1) * 3 ∨ (s * 11 + r.1) * 3 + 3 ≤ q → G' q = G q) :
    xr_Rep (upd C s (nI (l.length + 1))) (upd E (s * 11 + l.length) (nI r.1)) (upd B (s * 11 + r.1) 1) G' s (ru_ins l r) ∧ xr_fr s C E B G (upd C s (nI (l.length + 1))) (upd E (s * 11 + l.length) (nI r.1)) (upd B (s * 11 + r.1) 1) G' := by
  have hl := ru_len_ins ho hb z
  rw [show ru_ins l r = l ++ [r] from if_neg z]
  refine ⟨⟨?_, fun k r' hk' => ?_, fun e he => ?_, fun r' hm g hg' => ?_⟩, fun s' hs => ⟨pk_un hs, fun k hk' => ⟨pk_un (by omega), pk_un (by omega), fun g hg' => hk _ (by omega)⟩⟩⟩
  · rw [pk_us, List.length_append]
    rfl
  · by_cases q : k < l.length
    · rw [List.getElem?_append_left q] at hk'
      rw [pk_un (by omega)]
      exact hr.2.1 k r' hk'
    · rw [List.getElem?_append_right (by omega)] at hk'
      have h1 := (List.getElem?_eq_some_iff.mp hk').1
      have h2 : [r].length = 1 := rfl
      have h3 : k - l.length = 0 := by omega
      rw [h3] at hk'
      have h4 : r = r' := Option.some.inj hk'
      rw [← h4, show k = l.length by omega, pk_us]
  · rw [ru_any_app, ru_any_one]
    by_cases q : e = r.1
    · rw [q, pk_us, if_pos (by simp)]
    · rw [pk_un (by omega), hr.2.2.1 e he, beq_eq_false_iff_ne.mpr (fun w => q w.symm), Bool.or_false]
  · rcases List.mem_append.mp hm with hm | hm
    · have h1 : r'.1 ≠ r.1 := fun w => z (ru_any_iff.mpr ⟨r', hm, w⟩)
      rw [hk _ (by omega)]
      exact hr.2.2.2 r' hm g hg'
    · rw [List.mem_singleton] at hm
      rw [hm]
      exact hg g hg'
theorem xr_clear (hb : ∀ e, e < 11 → B' (s * 11 + e) = 0) : xr_Rep (upd C s 0) E B' G s [] :=
  ⟨pk_us, fun k r h => (nomatch h), fun e he => hb e he, fun r h => (nomatch h)⟩
theorem xr_setg {g0 : Nat} (hn : n ≤ 10) (ho : ru_ok i n l) (hr : xr_Rep C E B G s l)
    (hg : ∀ e, e < 11 → ∀ h, h < 3 → G' ((s * 11 + e) * 3 + h) = if h = g0 ∧ ru_any l e = true then nI (16 * i + e) else G ((s * 11 + e) * 3 + h))
    : xr_Rep C E B G' s (l.map (ru_set g0 i)) := by
  refine ⟨?_, fun k r hk => ?_, fun e he => ?_, fun r hm g hg' => ?_⟩
  · rw [List.length_map]
    exact hr.1
  · rw [List.getElem?_map] at hk
    obtain ⟨a, ha, e⟩ := Option.map_eq_some_iff.mp hk
    rw [← e]
    exact hr.2.1 k a ha
  · rw [ru_any_set]
    exact hr.2.2.1 e he
  · obtain ⟨a, ha, e⟩ := List.mem_map.mp hm
    have h1 := (ho.1 a ha).2
    rw [← e]
    show G' ((s * 11 + a.1) * 3 + g) = if g = g0 then nI (16 * i + a.1) else a.2 g
    rw [hg a.1 (by omega) g hg', hr.2.2.2 a ha g hg']
    by_cases q : g = g0
    · rw [if_pos q, if_pos ⟨q, ru_any_iff.mpr ⟨a, ha, rfl⟩⟩]
    · rw [if_neg q, if_neg (fun w => q w.1)]
end
theorem ru_add_app (l a b : List ru_R) : ru_add l (a ++ b) = ru_add (ru_add l a) b := List.foldl_append
theorem ru_add_one (l : List ru_R) (r : ru_R) : ru_add l [r] = ru_ins l r := rfl
theorem ru_take {A : List ru_R} {k : Nat} {r : ru_R} (h : A[k]? = some r) : A.take (k + 1) = A.take k ++ [r] := by
  rw [List.take_succ, h]
  rfl
theorem ru_add_tk {l A : List ru_R} {k : Nat} {r : ru_R} (h : A[k]? = some r) : ru_add l (A.take (k + 1)) = ru_ins (ru_add l (A.take k)) r := by
  rw [ru_take h, ru_add_app]
  rfl
theorem ru_both_app (A A' : List ru_R) (B : Nat → List ru_R) (lo : Nat) : ru_both (A ++ A') B lo = ru_both A B lo ++ ru_both A' B lo := List.flatMap_append
theorem ru_both_tk {A : List ru_R} {B : Nat → List ru_R} {lo k : Nat} {r : ru_R} (h : A[k]? = some r) : ru_both (A.take (k + 1)) B lo = ru_both (A.take k) B lo ++ (if lo ≤ r.1 then (B r.1).map (ru_cb r) else []) := by
  rw [ru_take h, ru_both_app, ru_both_cons]
  show _ ++ (_ ++ []) = _
  rw [List.append_nil]
theorem ru_get {A : List ru_R} {k : Nat} (h : k < A.length) : ∃ r, A[k]? = some r ∧ r ∈ A := ⟨A[k], List.getElem?_eq_getElem h, List.getElem_mem h⟩
