/-! runs: an end and the three groups; tables of the first run to each end -/
abbrev ru_R : Type := Nat × (Nat → Int32)
def ru_no : Nat → Int32 := fun _ => -4
def ru_cb (r s : ru_R) : ru_R := (s.1, fun g => if s.2 g = -4 then r.2 g else s.2 g)
def ru_set (g i : Nat) (r : ru_R) : ru_R := (r.1, fun h => if h = g then nI (16 * i + r.1) else r.2 h)
def ru_any (l : List ru_R) (e : Nat) : Bool := l.any (fun s => s.1 == e)
def ru_ins (l : List ru_R) (r : ru_R) : List ru_R := if ru_any l r.1 = true then l else l ++ [r]
def ru_add (l m : List ru_R) : List ru_R := m.foldl ru_ins l
def ru_sel (S : Nat → Bool) (l : List ru_R) : Option ru_R := l.find? (fun r => S r.1)
def ru_both (A : List ru_R) (B : Nat → List ru_R) (lo : Nat) : List ru_R := A.flatMap (fun r => if lo ≤ r.1 then (B r.1).map (ru_cb r) else [])
def ru_ok (i n : Nat) (l : List ru_R) : Prop := (∀ r, r ∈ l → i ≤ r.1 ∧ r.1 ≤ n) ∧ l.Pairwise (fun a b => a.1 ≠ b.1)
theorem ru_any_iff {l : List ru_R} {e : Nat} : ru_any l e = true ↔ ∃ r, r ∈ l ∧ r.1 = e := by
  unfold ru_any
  rw [List.any_eq_true]
  exact ⟨fun ⟨r, h, z⟩ => ⟨r, h, eq_of_beq z⟩, fun ⟨r, h, z⟩ => ⟨r, h, beq_iff_eq.mpr z⟩⟩
theorem ru_any_app (l m : List ru_R) (e : Nat) : ru_any (l ++ m) e = (ru_any l e || ru_any m e) := List.any_append
theorem ru_any_one (r : ru_R) (e : Nat) : ru_any [r] e = (r.1 == e) := by
  show (r.1 == e || false) = _
  rw [Bool.or_false]
theorem ru_any_nil (e : Nat) : ru_any [] e = false := rfl
theorem ru_any_ins (l : List ru_R) (r : ru_R) (e : Nat) : ru_any (ru_ins l r) e = (ru_any l e || r.1 == e) := by
  by_cases h : ru_any l r.1 = true
  · rw [show ru_ins l r = l from if_pos h]
    by_cases z : r.1 = e
    · rw [← z, h]
      rfl
    · rw [beq_eq_false_iff_ne.mpr z, Bool.or_false]
  · rw [show ru_ins l r = l ++ [r] from if_neg h, ru_any_app, ru_any_one]
theorem ru_any_add (m : List ru_R) : ∀ (l : List ru_R) (e : Nat), ru_any (ru_add l m) e = (ru_any l e || ru_any m e) := by
  induction m with
  | nil => intro l e; rw [ru_any_nil, Bool.or_false]; rfl
  | cons r m ih =>
    intro l e
    show ru_any (ru_add (ru_ins l r) m) e = _
    rw [ih, ru_any_ins, Bool.or_assoc]
    rfl
theorem ru_sel_neg {S : Nat → Bool} {r : ru_R} {l : List ru_R} (h : S r.1 = false) : ru_sel S (r :: l) = ru_sel S l := List.find?_cons_of_neg (by rw [h]; decide)
theorem ru_sel_pos {S : Nat → Bool} {r : ru_R} {l : List ru_R} (h : S r.1 = true) : ru_sel S (r :: l) = some r := List.find?_cons_of_pos h
theorem ru_sel_app (S : Nat → Bool) (l m : List ru_R) : ru_sel S (l ++ m) = (ru_sel S l).or (ru_sel S m) := List.find?_append
theorem ru_sel_add (S : Nat → Bool) (m : List ru_R) : ∀ l : List ru_R, ru_sel S (ru_add l m) = (ru_sel S l).or (ru_sel S m) := by
  induction m with
  | nil => intro l; show ru_sel S l = (ru_sel S l).or none; rw [Option.or_none]
  | cons r m ih =>
    intro l
    show ru_sel S (ru_add (ru_ins l r) m) = _
    rw [ih]
    by_cases h : ru_any l r.1 = true
    · rw [show ru_ins l r = l from if_pos h]
      cases hS : S r.1 with
      | false => rw [ru_sel_neg hS]
      | true =>
        obtain ⟨s, hs, hz⟩ := ru_any_iff.mp h
        have hq : (ru_sel S l).isSome = true := List.find?_isSome.mpr ⟨s, hs, by rw [hz, hS]⟩
        obtain ⟨x, hx⟩ := Option.isSome_iff_exists.mp hq
        rw [hx]
        rfl
    · rw [show ru_ins l r = l ++ [r] from if_neg h, ru_sel_app, Option.or_assoc, ← ru_sel_app]
      rfl
theorem ru_sel_map (S : Nat → Bool) (r : ru_R) (l : List ru_R) : ru_sel S (l.map (ru_cb r)) = (ru_sel S l).map (ru_cb r) := by
  unfold ru_sel
  rw [List.find?_map]
  rfl
theorem ru_sel_set (S : Nat → Bool) (g i : Nat) (l : List ru_R) : ru_sel S (l.map (ru_set g i)) = (ru_sel S l).map (ru_set g i) := by
  unfold ru_sel
  rw [List.find?_map]
  rfl
theorem ru_sel_some {S : Nat → Bool} {l : List ru_R} {r : ru_R} (h : ru_sel S l = some r) : r ∈ l ∧ S r.1 = true := ⟨List.mem_of_find?_eq_some h, List.find?_some (p := fun (s : ru_R) => S s.1) h⟩
theorem ru_sel_is {S : Nat → Bool} {l : List ru_R} : (ru_sel S l).isSome = true ↔ ∃ r, r ∈ l ∧ S r.1 = true := List.find?_isSome
theorem ru_both_cons (r : ru_R) (A : List ru_R) (B : Nat → List ru_R) (lo : Nat) : ru_both (r :: A) B lo = (if lo ≤ r.1 then (B r.1).map (ru_cb r) else []) ++ ru_both A B lo := List.flatMap_cons
theorem ru_sel_both (S : Nat → Bool) (B : Nat → List ru_R) (lo : Nat) (S' : Nat → Bool) (A : List ru_R) (h : ∀ r, r ∈ A → S' r.1 = (decide (lo ≤ r.1) && (ru_sel S (B r.1)).isSome)) : ru_sel S (ru_both A B lo) = (ru_sel S' A).bind (fun r => (ru_sel S (B r.1)).map (ru_cb r)) := by
  induction A with
  | nil => rfl
  | cons r A ih =>
    have ih := ih (fun s hs => h s (List.mem_cons_of_mem _ hs))
    have h0 := h r List.mem_cons_self
    rw [ru_both_cons, ru_sel_app]
    by_cases z : lo ≤ r.1
    · rw [if_pos z, ru_sel_map]
      cases q : ru_sel S (B r.1) with
      | none =>
        have hn : S' r.1 = false := by rw [h0, q]; simp
        rw [ru_sel_neg hn, ih]
        rfl
      | some x =>
        have hn : S' r.1 = true := by rw [h0, q]; simp [z]
        rw [ru_sel_pos hn]
        show _ = Option.map (ru_cb r) (ru_sel S (B r.1))
        rw [q]
        rfl
    · rw [if_neg z]
      have hn : S' r.1 = false := by rw [h0]; simp [z]
      rw [ru_sel_neg hn, ih]
      rfl
theorem ru_sel_cg {S S' : Nat → Bool} (l : List ru_R) (h : ∀ r, r ∈ l → S r.1 = S' r.1) : ru_sel S l = ru_sel S' l := by
  induction l with
  | nil => rfl
  | cons r l ih =>
    have ih := ih (fun s hs => h s (List.mem_cons_of_mem _ hs))
    have h0 := h r List.mem_cons_self
    cases q : S r.1 with
    | false => rw [ru_sel_neg q, ru_sel_neg (h0 ▸ q), ih]
    | true => rw [ru_sel_pos q, ru_sel_pos (h0 ▸ q)]
theorem ru_both_mem {A : List ru_R} {B : Nat → List ru_R} {lo : Nat} {r : ru_R} (h : r ∈ ru_both A B lo) : ∃ a, a ∈ A ∧ lo ≤ a.1 ∧ ∃ b, b ∈ B a.1 ∧ r = ru_cb a b := by
  obtain ⟨a, ha, hr⟩ := List.mem_flatMap.mp h
  by_cases z : lo ≤ a.1
  · rw [if_pos z] at hr
    obtain ⟨b, hb, e⟩ := List.mem_map.mp hr
    exact ⟨a, ha, z, b, hb, e.symm⟩
  · rw [if_neg z] at hr
    cases hr
theorem ru_both_cg {B B' : Nat → List ru_R} {lo : Nat} (A : List ru_R) (h : ∀ a, a ∈ A → lo ≤ a.1 → B a.1 = B' a.1) : ru_both A B lo = ru_both A B' lo := by
  induction A with
  | nil => rfl
  | cons r A ih =>
    rw [ru_both_cons, ru_both_cons, ih (fun s hs => h s (List.mem_cons_of_mem _ hs))]
    by_cases z : lo ≤ r.1
    · rw [if_pos z, if_pos z, h r List.mem_cons_self z]
    · rw [if_neg z, if_neg z]
theorem ru_ok_nil (i n : Nat) : ru_ok i n [] := ⟨fun r h => (nomatch h), List.Pairwise.nil⟩
theorem ru_ok_one {i n : Nat} {r : ru_R} (h : i ≤ r.1 ∧ r.1 ≤ n) : ru_ok i n [r] := ⟨fun s hs => by rw [List.mem_singleton] at hs; rw [hs]; exact h, List.pairwise_singleton _ _⟩
theorem ru_ok_ins {i n : Nat} {l : List ru_R} {r : ru_R} (h : ru_ok i n l) (hr : i ≤ r.1 ∧ r.1 ≤ n) : ru_ok i n (ru_ins l r) := by
  by_cases z : ru_any l r.1 = true
  · rw [show ru_ins l r = l from if_pos z]
    exact h
  · rw [show ru_ins l r = l ++ [r] from if_neg z]
    refine ⟨fun s hs => ?_, List.pairwise_append.mpr ⟨h.2, List.pairwise_singleton _ _, fun a ha b hb => ?_⟩⟩
    · rcases List.mem_append.mp hs with hs | hs
      · exact h.1 s hs
      · rw [List.mem_singleton] at hs
        rw [hs]
        exact hr
    · rw [List.mem_singleton] at hb
      rw [hb]
      exact fun e => z (ru_any_iff.mpr ⟨a, ha, e⟩)
theorem ru_ok_add {i n : Nat} (m : List ru_R) : ∀ l : List ru_R, ru_ok i n l → (∀ r, r ∈ m → i ≤ r.1 ∧ r.1 ≤ n) → ru_ok i n (ru_add l m) := by
  induction m with
  | nil => intro l h _; exact h
  | cons r m ih =>
    intro l h hm
    exact ih _ (ru_ok_ins h (hm r List.mem_cons_self)) (fun s hs => hm s (List.mem_cons_of_mem _ hs))
theorem ru_ok_set {i n : Nat} {l : List ru_R} (g j : Nat) (h : ru_ok i n l) : ru_ok i n (l.map (ru_set g j)) := by
  refine ⟨fun r hr => ?_, ?_⟩
  · obtain ⟨s, hs, e⟩ := List.mem_map.mp hr
    rw [← e]
    exact h.1 s hs
  · rw [List.pairwise_map]
    exact h.2
theorem ru_pg : ∀ (m : Nat) (l : List Nat), l.Nodup → (∀ x, x ∈ l → x < m) → l.length ≤ m := by
  intro m
  induction m with
  | zero =>
    intro l _ h
    cases l with
    | nil => exact Nat.le_refl 0
    | cons x l => exact absurd (h x List.mem_cons_self) (Nat.not_lt_zero x)
  | succ m ih =>
    intro l hd h
    by_cases z : m ∈ l
    · have h1 := List.length_erase_of_mem z
      have h2 := ih (l.erase m) (hd.erase m) (fun x hx => by
        have h3 := hd.mem_erase_iff.mp hx
        have h4 := h x h3.2
        have h5 := h3.1
        omega)
      omega
    · have h2 := ih l hd (fun x hx => by
        have h4 := h x hx
        have h5 : x ≠ m := fun e => z (e ▸ hx)
        omega)
      omega
theorem ru_len {i n : Nat} {l : List ru_R} (h : ru_ok i n l) : l.length ≤ n + 1 := by
  have h1 : (l.map Prod.fst).Nodup := List.pairwise_map.mpr h.2
  have h2 := ru_pg (n + 1) (l.map Prod.fst) h1 (fun x hx => by
    obtain ⟨s, hs, e⟩ := List.mem_map.mp hx
    have := (h.1 s hs).2
    omega)
  rw [List.length_map] at h2
  exact h2
theorem ru_len_ins {i n : Nat} {l : List ru_R} {r : ru_R} (h : ru_ok i n l) (hr : i ≤ r.1 ∧ r.1 ≤ n) (z : ¬ ru_any l r.1 = true) : l.length ≤ n := by
  have h1 := ru_len (ru_ok_ins h hr)
  rw [show ru_ins l r = l ++ [r] from if_neg z, List.length_append] at h1
  have h2 : [r].length = 1 := rfl
  omega
