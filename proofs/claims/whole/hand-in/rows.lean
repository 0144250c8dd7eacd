section
/-! runs: an end and the three groups; tables of the first run to each end -/
abbrev ru_R : Type := Nat × (Nat → Int32)
def ru_no : Nat → Int32 := fun _ => -4
def ru_cb (r s : ru_R) : ru_R := (s.1, fun g => if s.2 g = -4 then r.2 g else s.2 g)
def ru_set (g i : Nat) (r : ru_R) : ru_R := (r.1, fun h => if h = g then nI (16 * i + r.1) else r.2 h)
def ru_any (l : List ru_R) (e : Nat) : Bool := l.any (fun s => s.1 == e)
def ru_ins (l : List ru_R) (r : ru_R) : List ru_R := if ru_any l r.1 = true then l else l ++ [r]
def ru_add (l m : List ru_R) : List ru_R := m.foldl ru_ins l
def ru_sel (S : Nat → Bool) (l : List ru_R) : Option ru_R := l.find? (fun r => S r.1)
def ru_both (A : List ru_R) (B : Nat → List ru_R) (lo : Nat) : List ru_R := A.flatMap (fun r => if lo ≤ r.1 then (B r.1).map (ru_cb r) else [])
def ru_ok (i n : Nat) (l : List ru_R) : Prop := (∀ r, r ∈ l → i ≤ r.1 ∧ r.1 ≤ n) ∧ l.Pairwise (fun a b => a.1 ≠ b.1)
theorem ru_any_iff {l : List ru_R} {e : Nat} : ru_any l e = true ↔ ∃ r, r ∈ l ∧ r.1 = e := by
  unfold ru_any
  rw [List.any_eq_true]
  exact ⟨fun ⟨r, h, z⟩ => ⟨r, h, eq_of_beq z⟩, fun ⟨r, h, z⟩ => ⟨r, h, beq_iff_eq.mpr z⟩⟩
theorem ru_any_app (l m : List ru_R) (e : Nat) : ru_any (l ++ m) e = (ru_any l e || ru_any m e) := List.any_append
theorem ru_any_one (r : ru_R) (e : Nat) : ru_any [r] e = (r.1 == e) := by
  show (r.1 == e || false) = _
  rw [Bool.or_false]
theorem ru_any_nil (e : Nat) : ru_any [] e = false := rfl
theorem ru_any_ins (l : List ru_R) (r : ru_R) (e : Nat) : ru_any (ru_ins l r) e = (ru_any l e || r.1 == e) := by
  by_cases h : ru_any l r.1 = true
  · rw [show ru_ins l r = l from if_pos h]
    by_cases z : r.1 = e
    · rw [← z, h]
      rfl
    · rw [beq_eq_false_iff_ne.mpr z, Bool.or_false]
  · rw [show ru_ins l r = l ++ [r] from if_neg h, ru_any_app, ru_any_one]
theorem ru_any_add (m : List ru_R) : ∀ (l : List ru_R) (e : Nat), ru_any (ru_add l m) e = (ru_any l e || ru_any m e) := by
  induction m with
  | nil => intro l e; rw [ru_any_nil, Bool.or_false]; rfl
  | cons r m ih =>
    intro l e
    show ru_any (ru_add (ru_ins l r) m) e = _
    rw [ih, ru_any_ins, Bool.or_assoc]
    rfl
theorem ru_sel_neg {S : Nat → Bool} {r : ru_R} {l : List ru_R} (h : S r.1 = false) : ru_sel S (r :: l) = ru_sel S l := List.find?_cons_of_neg (by rw [h]; decide)
theorem ru_sel_pos {S : Nat → Bool} {r : ru_R} {l : List ru_R} (h : S r.1 = true) : ru_sel S (r :: l) = some r := List.find?_cons_of_pos h
theorem ru_sel_app (S : Nat → Bool) (l m : List ru_R) : ru_sel S (l ++ m) = (ru_sel S l).or (ru_sel S m) := List.find?_append
theorem ru_sel_add (S : Nat → Bool) (m : List ru_R) : ∀ l : List ru_R, ru_sel S (ru_add l m) = (ru_sel S l).or (ru_sel S m) := by
  induction m with
  | nil => intro l; show ru_sel S l = (ru_sel S l).or none; rw [Option.or_none]
  | cons r m ih =>
    intro l
    show ru_sel S (ru_add (ru_ins l r) m) = _
    rw [ih]
    by_cases h : ru_any l r.1 = true
    · rw [show ru_ins l r = l from if_pos h]
      cases hS : S r.1 with
      | false => rw [ru_sel_neg hS]
      | true =>
        obtain ⟨s, hs, hz⟩ := ru_any_iff.mp h
        have hq : (ru_sel S l).isSome = true := List.find?_isSome.mpr ⟨s, hs, by rw [hz, hS]⟩
        obtain ⟨x, hx⟩ := Option.isSome_iff_exists.mp hq
        rw [hx]
        rfl
    · rw [show ru_ins l r = l ++ [r] from if_neg h, ru_sel_app, Option.or_assoc, ← ru_sel_app]
      rfl
theorem ru_sel_map (S : Nat → Bool) (r : ru_R) (l : List ru_R) : ru_sel S (l.map (ru_cb r)) = (ru_sel S l).map (ru_cb r) := by
  unfold ru_sel
  rw [List.find?_map]
  rfl
theorem ru_sel_set (S : Nat → Bool) (g i : Nat) (l : List ru_R) : ru_sel S (l.map (ru_set g i)) = (ru_sel S l).map (ru_set g i) := by
  unfold ru_sel
  rw [List.find?_map]
  rfl
theorem ru_sel_some {S : Nat → Bool} {l : List ru_R} {r : ru_R} (h : ru_sel S l = some r) : r ∈ l ∧ S r.1 = true := ⟨List.mem_of_find?_eq_some h, List.find?_some (p := fun (s : ru_R) => S s.1) h⟩
theorem ru_sel_is {S : Nat → Bool} {l : List ru_R} : (ru_sel S l).isSome = true ↔ ∃ r, r ∈ l ∧ S r.1 = true := List.find?_isSome
theorem ru_both_cons (r : ru_R) (A : List ru_R) (B : Nat → List ru_R) (lo : Nat) : ru_both (r :: A) B lo = (if lo ≤ r.1 then (B r.1).map (ru_cb r) else []) ++ ru_both A B lo := List.flatMap_cons
theorem ru_sel_both (S : Nat → Bool) (B : Nat → List ru_R) (lo : Nat) (S' : Nat → Bool) (A : List ru_R) (h : ∀ r, r ∈ A → S' r.1 = (decide (lo ≤ r.1) && (ru_sel S (B r.1)).isSome)) : ru_sel S (ru_both A B lo) = (ru_sel S' A).bind (fun r => (ru_sel S (B r.1)).map (ru_cb r)) := by
  induction A with
  | nil => rfl
  | cons r A ih =>
    have ih := ih (fun s hs => h s (List.mem_cons_of_mem _ hs))
    have h0 := h r List.mem_cons_self
    rw [ru_both_cons, ru_sel_app]
    by_cases z : lo ≤ r.1
    · rw [if_pos z, ru_sel_map]
      cases q : ru_sel S (B r.1) with
      | none =>
        have hn : S' r.1 = false := by rw [h0, q]; simp
        rw [ru_sel_neg hn, ih]
        rfl
      | some x =>
        have hn : S' r.1 = true := by rw [h0, q]; simp [z]
        rw [ru_sel_pos hn]
        show _ = Option.map (ru_cb r) (ru_sel S (B r.1))
        rw [q]
        rfl
    · rw [if_neg z]
      have hn : S' r.1 = false := by rw [h0]; simp [z]
      rw [ru_sel_neg hn, ih]
      rfl
theorem ru_sel_cg {S S' : Nat → Bool} (l : List ru_R) (h : ∀ r, r ∈ l → S r.1 = S' r.1) : ru_sel S l = ru_sel S' l := by
  induction l with
  | nil => rfl
  | cons r l ih =>
    have ih := ih (fun s hs => h s (List.mem_cons_of_mem _ hs))
    have h0 := h r List.mem_cons_self
    cases q : S r.1 with
    | false => rw [ru_sel_neg q, ru_sel_neg (h0 ▸ q), ih]
    | true => rw [ru_sel_pos q, ru_sel_pos (h0 ▸ q)]
theorem ru_both_mem {A : List ru_R} {B : Nat → List ru_R} {lo : Nat} {r : ru_R} (h : r ∈ ru_both A B lo) : ∃ a, a ∈ A ∧ lo ≤ a.1 ∧ ∃ b, b ∈ B a.1 ∧ r = ru_cb a b := by
  obtain ⟨a, ha, hr⟩ := List.mem_flatMap.mp h
  by_cases z : lo ≤ a.1
  · rw [if_pos z] at hr
    obtain ⟨b, hb, e⟩ := List.mem_map.mp hr
    exact ⟨a, ha, z, b, hb, e.symm⟩
  · rw [if_neg z] at hr
    cases hr
theorem ru_both_cg {B B' : Nat → List ru_R} {lo : Nat} (A : List ru_R) (h : ∀ a, a ∈ A → lo ≤ a.1 → B a.1 = B' a.1) : ru_both A B lo = ru_both A B' lo := by
  induction A with
  | nil => rfl
  | cons r A ih =>
    rw [ru_both_cons, ru_both_cons, ih (fun s hs => h s (List.mem_cons_of_mem _ hs))]
    by_cases z : lo ≤ r.1
    · rw [if_pos z, if_pos z, h r List.mem_cons_self z]
    · rw [if_neg z, if_neg z]
theorem ru_ok_nil (i n : Nat) : ru_ok i n [] := ⟨fun r h => (nomatch h), List.Pairwise.nil⟩
theorem ru_ok_one {i n : Nat} {r : ru_R} (h : i ≤ r.1 ∧ r.1 ≤ n) : ru_ok i n [r] := ⟨fun s hs => by rw [List.mem_singleton] at hs; rw [hs]; exact h, List.pairwise_singleton _ _⟩
theorem ru_ok_ins {i n : Nat} {l : List ru_R} {r : ru_R} (h : ru_ok i n l) (hr : i ≤ r.1 ∧ r.1 ≤ n) : ru_ok i n (ru_ins l r) := by
  by_cases z : ru_any l r.1 = true
  · rw [show ru_ins l r = l from if_pos z]
    exact h
  · rw [show ru_ins l r = l ++ [r] from if_neg z]
    refine ⟨fun s hs => ?_, List.pairwise_append.mpr ⟨h.2, List.pairwise_singleton _ _, fun a ha b hb => ?_⟩⟩
    · rcases List.mem_append.mp hs with hs | hs
      · exact h.1 s hs
      · rw [List.mem_singleton] at hs
        rw [hs]
        exact hr
    · rw [List.mem_singleton] at hb
      rw [hb]
      exact fun e => z (ru_any_iff.mpr ⟨a, ha, e⟩)
theorem ru_ok_add {i n : Nat} (m : List ru_R) : ∀ l : List ru_R, ru_ok i n l → (∀ r, r ∈ m → i ≤ r.1 ∧ r.1 ≤ n) → ru_ok i n (ru_add l m) := by
  induction m with
  | nil => intro l h _; exact h
  | cons r m ih =>
    intro l h hm
    exact ih _ (ru_ok_ins h (hm r List.mem_cons_self)) (fun s hs => hm s (List.mem_cons_of_mem _ hs))
theorem ru_ok_set {i n : Nat} {l : List ru_R} (g j : Nat) (h : ru_ok i n l) : ru_ok i n (l.map (ru_set g j)) := by
  refine ⟨fun r hr => ?_, ?_⟩
  · obtain ⟨s, hs, e⟩ := List.mem_map.mp hr
    rw [← e]
    exact h.1 s hs
  · rw [List.pairwise_map]
    exact h.2
theorem ru_pg : ∀ (m : Nat) (l : List Nat), l.Nodup → (∀ x, x ∈ l → x < m) → l.length ≤ m := by
  intro m
  induction m with
  | zero =>
    intro l _ h
    cases l with
    | nil => exact Nat.le_refl 0
    | cons x l => exact absurd (h x List.mem_cons_self) (Nat.not_lt_zero x)
  | succ m ih =>
    intro l hd h
    by_cases z : m ∈ l
    · have h1 := List.length_erase_of_mem z
      have h2 := ih (l.erase m) (hd.erase m) (fun x hx => by
        have h3 := hd.mem_erase_iff.mp hx
        have h4 := h x h3.2
        have h5 := h3.1
        omega)
      omega
    · have h2 := ih l hd (fun x hx => by
        have h4 := h x hx
        have h5 : x ≠ m := fun e => z (e ▸ hx)
        omega)
      omega
theorem ru_len {i n : Nat} {l : List ru_R} (h : ru_ok i n l) : l.length ≤ n + 1 := by
  have h1 : (l.map Prod.fst).Nodup := List.pairwise_map.mpr h.2
  have h2 := ru_pg (n + 1) (l.map Prod.fst) h1 (fun x hx => by
    obtain ⟨s, hs, e⟩ := List.mem_map.mp hx
    have := (h.1 s hs).2
    omega)
  rw [List.length_map] at h2
  exact h2
theorem ru_len_ins {i n : Nat} {l : List ru_R} {r : ru_R} (h : ru_ok i n l) (hr : i ≤ r.1 ∧ r.1 ≤ n) (z : ¬ ru_any l r.1 = true) : l.length ≤ n := by
  have h1 := ru_len (ru_ok_ins h hr)
  rw [show ru_ins l r = l ++ [r] from if_neg z, List.length_append] at h1
  have h2 : [r].length = 1 := rfl
  omega
end
section
/-! one step of the table, and the table -/
def ru_step (K F S : Nat → Nat) (t : Nat → Int32) (n : Nat) (T : Nat → Nat → List ru_R) (p i : Nat) : List ru_R :=
  if K p < 3 then (if i < n ∧ t i = nI (K p) then ru_add [] [(i + 1, ru_no)] else [])
  else if K p = 3 then (if i < n then ru_add [] [(i + 1, ru_no)] else [])
  else if K p = 4 then ru_add [] [(i, ru_no)]
  else if K p = 5 then ru_add [] (ru_both (T (F p) i) (T (S p)) i)
  else if K p = 6 then ru_add (ru_add [] (T (F p) i)) (T (S p) i)
  else if K p = 7 then ru_add (ru_add [] (ru_both (T (F p) i) (T p) (i + 1))) [(i, ru_no)]
  else if K p = 8 then ru_add (ru_add [] [(i, ru_no)]) (ru_both (T (F p) i) (T p) (i + 1))
  else (ru_add [] (T (F p) i)).map (ru_set (K p - 9) i)
section
variable {K F S : Nat → Nat} {t : Nat → Int32} {n : Nat} {T : Nat → Nat → List ru_R} {p i : Nat}
theorem ru_st0 (h : K p < 3) : ru_step K F S t n T p i = if i < n ∧ t i = nI (K p) then ru_add [] [(i + 1, ru_no)] else [] := if_pos h
theorem ru_st3 (h : K p = 3) : ru_step K F S t n T p i = if i < n then ru_add [] [(i + 1, ru_no)] else [] := by
  unfold ru_step
  rw [if_neg (by omega), if_pos h]
theorem ru_st4 (h : K p = 4) : ru_step K F S t n T p i = ru_add [] [(i, ru_no)] := by
  unfold ru_step
  rw [if_neg (by omega), if_neg (by omega), if_pos h]
theorem ru_st5 (h : K p = 5) : ru_step K F S t n T p i = ru_add [] (ru_both (T (F p) i) (T (S p)) i) := by
  unfold ru_step
  rw [if_neg (by omega), if_neg (by omega), if_neg (by omega), if_pos h]
theorem ru_st6 (h : K p = 6) : ru_step K F S t n T p i = ru_add (ru_add [] (T (F p) i)) (T (S p) i) := by
  unfold ru_step
  rw [if_neg (by omega), if_neg (by omega), if_neg (by omega), if_neg (by omega), if_pos h]
theorem ru_st7 (h : K p = 7) : ru_step K F S t n T p i = ru_add (ru_add [] (ru_both (T (F p) i) (T p) (i + 1))) [(i, ru_no)] := by
  unfold ru_step
  rw [if_neg (by omega), if_neg (by omega), if_neg (by omega), if_neg (by omega), if_neg (by omega), if_pos h]
theorem ru_st8 (h : K p = 8) : ru_step K F S t n T p i = ru_add (ru_add [] [(i, ru_no)]) (ru_both (T (F p) i) (T p) (i + 1)) := by
  unfold ru_step
  rw [if_neg (by omega), if_neg (by omega), if_neg (by omega), if_neg (by omega), if_neg (by omega), if_neg (by omega), if_pos h]
theorem ru_st9 (h : 9 ≤ K p) : ru_step K F S t n T p i = (ru_add [] (T (F p) i)).map (ru_set (K p - 9) i) := by
  unfold ru_step
  rw [if_neg (by omega), if_neg (by omega), if_neg (by omega), if_neg (by omega), if_neg (by omega), if_neg (by omega), if_neg (by omega)]
theorem ru_kc (k : Nat) : k < 3 ∨ k = 3 ∨ k = 4 ∨ k = 5 ∨ k = 6 ∨ k = 7 ∨ k = 8 ∨ 9 ≤ k := by omega
theorem ru_both_bd {A : List ru_R} {B : Nat → List ru_R} {lo : Nat} (hA : ru_ok i n A) (hB : ∀ k, k ≤ n → ru_ok k n (B k)) : ∀ r, r ∈ ru_both A B lo → i ≤ r.1 ∧ r.1 ≤ n := by
  intro r hr
  obtain ⟨a, ha, _, b, hb, rfl⟩ := ru_both_mem hr
  have h1 := hA.1 a ha
  have h2 := (hB a.1 h1.2).1 b hb
  exact ⟨Nat.le_trans h1.1 h2.1, h2.2⟩
theorem ru_one_bd {e : Nat} {g : Nat → Int32} (h : i ≤ e ∧ e ≤ n) : ∀ r, r ∈ [((e, g) : ru_R)] → i ≤ r.1 ∧ r.1 ≤ n := by
  intro r hr
  rw [List.mem_singleton] at hr
  rw [hr]
  exact h
theorem ru_step_ok (hi : i ≤ n) (hT : ∀ q j, j ≤ n → ru_ok j n (T q j)) : ru_ok i n (ru_step K F S t n T p i) := by
  rcases ru_kc (K p) with h | h | h | h | h | h | h | h
  · rw [ru_st0 h]
    split
    · rename_i z
      exact ru_ok_add _ _ (ru_ok_nil i n) (ru_one_bd ⟨by omega, by omega⟩)
    · exact ru_ok_nil i n
  · rw [ru_st3 h]
    split
    · rename_i z
      exact ru_ok_add _ _ (ru_ok_nil i n) (ru_one_bd ⟨by omega, by omega⟩)
    · exact ru_ok_nil i n
  · rw [ru_st4 h]
    exact ru_ok_add _ _ (ru_ok_nil i n) (ru_one_bd ⟨Nat.le_refl i, hi⟩)
  · rw [ru_st5 h]
    exact ru_ok_add _ _ (ru_ok_nil i n) (ru_both_bd (hT _ _ hi) (hT _))
  · rw [ru_st6 h]
    exact ru_ok_add _ _ (ru_ok_add _ _ (ru_ok_nil i n) (hT _ _ hi).1) (hT _ _ hi).1
  · rw [ru_st7 h]
    exact ru_ok_add _ _ (ru_ok_add _ _ (ru_ok_nil i n) (ru_both_bd (hT _ _ hi) (hT _))) (ru_one_bd ⟨Nat.le_refl i, hi⟩)
  · rw [ru_st8 h]
    exact ru_ok_add _ _ (ru_ok_add _ _ (ru_ok_nil i n) (ru_one_bd ⟨Nat.le_refl i, hi⟩)) (ru_both_bd (hT _ _ hi) (hT _))
  · rw [ru_st9 h]
    exact ru_ok_set _ _ (ru_ok_add _ _ (ru_ok_nil i n) (hT _ _ hi).1)
theorem ru_step_cg {T' : Nat → Nat → List ru_R} (h5 : 5 ≤ K p → F p < p ∧ S p < p) (hi : i ≤ n) (hT : ∀ q j, j ≤ n → ru_ok j n (T q j)) (hlo : ∀ q, q < p → ∀ j, j ≤ n → T q j = T' q j) (hp : ∀ j, i < j → j ≤ n → T p j = T' p j) : ru_step K F S t n T p i = ru_step K F S t n T' p i := by
  have c1 : 5 ≤ K p → ru_both (T (F p) i) (T p) (i + 1) = ru_both (T' (F p) i) (T' p) (i + 1) := fun h => by
    rw [← hlo _ (h5 h).1 i hi]
    exact ru_both_cg _ (fun a ha hl => hp a.1 (by omega) ((hT _ _ hi).1 a ha).2)
  rcases ru_kc (K p) with h | h | h | h | h | h | h | h
  · rw [ru_st0 h, ru_st0 h]
  · rw [ru_st3 h, ru_st3 h]
  · rw [ru_st4 h, ru_st4 h]
  · rw [ru_st5 h, ru_st5 h, ← hlo _ (h5 (by omega)).1 i hi, ru_both_cg _ (fun a ha hl => hlo _ (h5 (by omega)).2 a.1 ((hT _ _ hi).1 a ha).2)]
  · rw [ru_st6 h, ru_st6 h, hlo _ (h5 (by omega)).1 i hi, hlo _ (h5 (by omega)).2 i hi]
  · rw [ru_st7 h, ru_st7 h, c1 (by omega)]
  · rw [ru_st8 h, ru_st8 h, c1 (by omega)]
  · rw [ru_st9 h, ru_st9 h, hlo _ (h5 (by omega)).1 i hi]
end
def ru_T (K F S : Nat → Nat) (t : Nat → Int32) (n : Nat) : Nat → Nat → Nat → List ru_R
  | 0, _, _ => []
  | f + 1, p, i => ru_step K F S t n (ru_T K F S t n f) p i
def ru_tb (K F S : Nat → Nat) (t : Nat → Int32) (n : Nat) (p i : Nat) : List ru_R := ru_T K F S t n 200 p i
def ru_wf (K F S : Nat → Nat) (m : Nat) : Prop := ∀ p, p < m → K p ≤ 11 ∧ (5 ≤ K p → F p < p ∧ S p < p)
section
variable {K F S : Nat → Nat} {t : Nat → Int32} {n m : Nat}
theorem ru_T_ok : ∀ f p i, i ≤ n → ru_ok i n (ru_T K F S t n f p i) := by
  intro f
  induction f with
  | zero => intro p i _; exact ru_ok_nil i n
  | succ f ih => intro p i hi; exact ru_step_ok hi ih
theorem ru_T_st (wf : ru_wf K F S m) (hn : n ≤ 10) : ∀ f f' p i, p < m → i ≤ n → 11 * p + (10 - i) < f → 11 * p + (10 - i) < f' → ru_T K F S t n f p i = ru_T K F S t n f' p i := by
  intro f
  induction f with
  | zero => intro f' p i _ _ h; omega
  | succ f ih =>
    intro f' p i hp hi h1 h2
    cases f' with
    | zero => omega
    | succ f' =>
      exact ru_step_cg (wf p hp).2 hi (ru_T_ok f) (fun q hq j hj => ih f' q j (by omega) hj (by omega) (by omega)) (fun j hj hjn => ih f' p j hp hjn (by omega) (by omega))
theorem ru_tb_ok {p i : Nat} (hi : i ≤ n) : ru_ok i n (ru_tb K F S t n p i) := ru_T_ok 200 p i hi
theorem ru_tb_eq (wf : ru_wf K F S m) (hn : n ≤ 10) (hm : m ≤ 16) {p i : Nat} (hp : p < m) (hi : i ≤ n) : ru_tb K F S t n p i = ru_step K F S t n (ru_tb K F S t n) p i :=
  ru_step_cg (wf p hp).2 hi (ru_T_ok 199) (fun q hq j hj => ru_T_st wf hn 199 200 q j (by omega) hj (by omega) (by omega)) (fun j hj hjn => ru_T_st wf hn 199 200 p j hp hjn (by omega) (by omega))
end
end
section
/-! numbers and bits (rows out of kit/rows, then my own) -/
theorem pk_us {f : Nat → Int32} {k : Nat} {x : Int32} : upd f k x k = x := if_pos rfl
theorem pk_un {f : Nat → Int32} {k j : Nat} {x : Int32} (h : j ≠ k) : upd f k x j = f j := if_neg h
theorem pk_sub {a b : Nat} (h : b ≤ a) : nI a - nI b = nI (a - b) := by
  obtain ⟨c, rfl⟩ : ∃ c, a = c + b := ⟨a - b, by omega⟩
  rw [← nI_add, Int32.add_sub_cancel, Nat.add_sub_cancel]
theorem pk_m1 (n : Nat) : nI (n + 1) + (-1) = nI n := by
  rw [← nI_1, Int32.add_assoc, show (1 : Int32) + (-1) = 0 from rfl, Int32.add_zero]
theorem pk_mul (a b : Nat) : nI a * nI b = nI (a * b) := (Int32.ofNat_mul a b).symm
theorem pk_div {a d : Nat} (ha : a < 2 ^ 31) (h0 : 0 < d) (hd : d < 2 ^ 31) : nI a / nI d = nI (a / d) := by
  apply Int32.toInt_inj.mp
  rw [lg_idiv_nonneg (by rw [nI_toInt ha]; omega) (by rw [nI_toInt hd]; omega), nI_toInt ha, nI_toInt hd, nI_toInt (Nat.lt_of_le_of_lt (Nat.div_le_self a d) ha)]
  first | rfl | exact (Int.natCast_ediv _ _).symm
theorem pk_rem {a d : Nat} (ha : a < 2 ^ 31) (h0 : 0 < d) (hd : d < 2 ^ 31) : nI a - nI a / nI d * nI d = nI (a % d) := by
  rw [pk_div ha h0 hd, pk_mul, pk_sub (Nat.div_mul_le_self a d)]
  exact congrArg nI (by have := Nat.div_add_mod' a d; omega)
theorem pk_sub_toInt {a b : Nat} (ha : a < 2 ^ 30) (hb : b < 2 ^ 30) : (nI a - nI b).toInt = (a : Int) - b := by
  rw [Int32.toInt_sub, nI_toInt (by omega), nI_toInt (by omega)]
  exact Int.bmod_eq_of_le (by omega) (by omega)
theorem pk_sneg {a b : Nat} (hb : b < 2 ^ 30) (h : a < b) : nI a - nI b < 0 := by
  rw [Int32.lt_iff_toInt_lt, pk_sub_toInt (by omega) hb, show (0 : Int32).toInt = 0 from by decide]
  omega
theorem pk_ix (x : Int32) {n : Nat} (hn : n < 2 ^ 31) : x < 0 ∨ nI n ≤ x ∨ ∃ j : Nat, j < n ∧ x = nI j := by
  by_cases h : x < 0
  · exact Or.inl h
  · obtain ⟨j, hj, rfl⟩ := nI_of h
    by_cases h2 : j < n
    · exact Or.inr (Or.inr ⟨j, h2, rfl⟩)
    · exact Or.inr (Or.inl (nI_le (by omega) hj))
theorem pk_le {x y : Int32} {A B : Prop} (a b : Nat) (f : a ≤ b → A) (g : b < a → B) (hx : x = nI a := by rfl) (hy : y = nI b := by rfl) (ha : a < 2 ^ 31 := by omega) (hb : b < 2 ^ 31 := by omega) : (x ≤ y → A) ∧ (¬ x ≤ y → B) := by
  subst hx hy
  rw [nI_leI ha hb]
  exact ⟨f, fun z => g (by omega)⟩
theorem pk_lt {x y : Int32} {A B : Prop} (a b : Nat) (f : a < b → A) (g : b ≤ a → B) (hx : x = nI a := by rfl) (hy : y = nI b := by rfl) (ha : a < 2 ^ 31 := by omega) (hb : b < 2 ^ 31 := by omega) : (x < y → A) ∧ (¬ x < y → B) := by
  subst hx hy
  rw [nI_ltI ha hb]
  exact ⟨f, fun z => g (by omega)⟩
theorem pk_eq {x y : Int32} {A B : Prop} (a b : Nat) (f : a = b → A) (g : a ≠ b → B) (hx : x = nI a := by rfl) (hy : y = nI b := by rfl) (ha : a < 2 ^ 31 := by omega) (hb : b < 2 ^ 31 := by omega) : (x = y → A) ∧ (¬ x = y → B) := by
  subst hx hy
  rw [nI_eq ha hb]
  exact ⟨f, g⟩
theorem pk_in {x : Int32} (n N : Nat) (h : n < N) (hx : x = nI n := by rfl) (hN : N < 2 ^ 31 := by omega) : vp_in x N := by
  subst hx
  exact vp_in_nI h hN
theorem pk_cl {x : Int32} (n : Nat) (hx : x = nI n := by rfl) (h : n < 2 ^ 31 := by omega) : x.toNatClampNeg = n := by
  subst hx
  exact nI_clamp h
theorem pk_loop {σ : Type} (W : Nat → Nat → σ → Prop) (I : Nat → σ → Prop) (e i0 : Nat) (s : σ) (hi : i0 ≤ e) (h0 : I i0 s) (hx : ∀ n s, I e s → W (n + 1) e s)
    (hs : ∀ n i s, i < e → I i s → (∀ s', I (i + 1) s' → W n (i + 1) s') → W (n + 1) i s) : ∃ n, W n i0 s :=
  ⟨e + 1, loop_i W I e hx hs (e + 1) i0 s hi (by omega) h0⟩
theorem pk_loopD {σ : Type} (W : Nat → Nat → σ → Prop) (I : Nat → σ → Prop) (hx : ∀ n s, I 0 s → W (n + 1) 0 s)
    (hs : ∀ n i s, I (i + 1) s → (∀ s', I i s' → W n i s') → W (n + 1) (i + 1) s) : ∀ (e : Nat) (s : σ), I e s → W (e + 1) e s := by
  intro e
  induction e with
  | zero => exact fun s h => hx 0 s h
  | succ e ih => exact fun s h => hs (e + 1) e s h (fun s' h' => ih s' h')
theorem ek_if {c d A B : Prop} (e : c ↔ d) (f : d → A) (g : ¬ d → B) : (c → A) ∧ (¬ c → B) :=
  ⟨fun z => f (e.mp z), fun z => g (fun y => z (e.mpr y))⟩
theorem sb_m1 {p : Nat} (h : 0 < p) : nI p + (-1) = nI (p - 1) := by
  obtain ⟨q, rfl⟩ : ∃ q, p = q + 1 := ⟨p - 1, by omega⟩
  exact pk_m1 q
def bt (x : Int32) (i : Nat) : Bool := x.toBitVec.getLsbD i
theorem b_ext {x y : Int32} (h : ∀ i, i < 32 → bt x i = bt y i) : x = y := Int32.toBitVec_inj.mp (BitVec.eq_of_getLsbD_eq (fun i hi => h i hi))
theorem b_or (x y : Int32) (i : Nat) : bt (x ||| y) i = (bt x i || bt y i) := by unfold bt; rw [Int32.toBitVec_or, BitVec.getLsbD_or]
theorem b_and (x y : Int32) (i : Nat) : bt (x &&& y) i = (bt x i && bt y i) := by unfold bt; rw [Int32.toBitVec_and, BitVec.getLsbD_and]
theorem b_big {x : Int32} {i : Nat} (h : 32 ≤ i) : bt x i = false := BitVec.getLsbD_of_ge _ _ h
theorem b_0 (i : Nat) : bt 0 i = false := BitVec.getLsbD_zero
theorem s_l : ∀ n, n < 32 → ((nI n &&& 31).toBitVec.smod 32).toNat = n := by decide +kernel
theorem b_shl (n : Nat) (hn : n < 32) (x : Int32) {i : Nat} (hi : i < 32) : bt (x <<< (nI n &&& 31)) i = (decide (n ≤ i) && bt x (i - n)) := by
  unfold bt
  rw [Int32.toBitVec_shiftLeft]
  show (x.toBitVec <<< ((nI n &&& 31).toBitVec.smod 32).toNat).getLsbD i = _
  rw [s_l n hn, BitVec.getLsbD_shiftLeft]
  rcases Nat.lt_or_ge i n with h | h
  · simp [h, Nat.not_le.mpr h]
  · simp [hi, h, Nat.not_lt.mpr h]
theorem b_sshr (n : Nat) (hn : n < 32) (x : Int32) {i : Nat} (hi : i < 32) : bt (x >>> (nI n &&& 31)) i = if n + i < 32 then bt x (n + i) else bt x 31 := by
  unfold bt
  rw [Int32.toBitVec_shiftRight]
  show (x.toBitVec.sshiftRight ((nI n &&& 31).toBitVec.smod 32).toNat).getLsbD i = _
  rw [s_l n hn, BitVec.getLsbD_sshiftRight, BitVec.msb_eq_getLsbD_last]
  simp [hi]
theorem yb_1 (e : Nat) : bt 1 e = (e == 0) := by
  rcases Nat.lt_or_ge e 32 with h | h
  · exact (by decide +kernel : ∀ e, e < 32 → bt 1 e = (e == 0)) e h
  · rw [b_big h, beq_eq_false_iff_ne.mpr (by omega)]
theorem yb_2 (e : Nat) : bt 2 e = (e == 1) := by
  rcases Nat.lt_or_ge e 32 with h | h
  · exact (by decide +kernel : ∀ e, e < 32 → bt 2 e = (e == 1)) e h
  · rw [b_big h, beq_eq_false_iff_ne.mpr (by omega)]
theorem yb_2047 (e : Nat) : bt 2047 e = decide (e < 11) := by
  rcases Nat.lt_or_ge e 32 with h | h
  · exact (by decide +kernel : ∀ e, e < 32 → bt 2047 e = decide (e < 11)) e h
  · rw [b_big h, decide_eq_false (by omega)]
theorem yb_one {k : Nat} (hk : k < 32) (e : Nat) : bt ((1 : Int32) <<< (nI k &&& 31)) e = (e == k) := by
  rcases Nat.lt_or_ge e 32 with h | h
  · rw [b_shl k hk 1 h, yb_1]
    by_cases z : e = k
    · subst z; simp
    · rw [beq_eq_false_iff_ne.mpr z]
      rcases Nat.lt_or_ge e k with q | q
      · rw [decide_eq_false (by omega)]; rfl
      · rw [beq_eq_false_iff_ne.mpr (by omega), Bool.and_false]
  · rw [b_big h, beq_eq_false_iff_ne.mpr (by omega)]
theorem yb_two {k : Nat} (hk : k < 31) (e : Nat) : bt ((2 : Int32) <<< (nI k &&& 31)) e = (e == k + 1) := by
  rcases Nat.lt_or_ge e 32 with h | h
  · rw [b_shl k (by omega) 2 h, yb_2]
    by_cases z : e = k + 1
    · subst z; simp
    · rw [beq_eq_false_iff_ne.mpr z]
      rcases Nat.lt_or_ge e k with q | q
      · rw [decide_eq_false (by omega)]; rfl
      · rw [beq_eq_false_iff_ne.mpr (by omega), Bool.and_false]
  · rw [b_big h, beq_eq_false_iff_ne.mpr (by omega)]
theorem yb_hi : ∀ k, k < 11 → ∀ e, e < 32 → bt ((((2 : Int32) <<< (nI k &&& 31)) - 1) ^^^ (-1)) e = decide (k < e) := by decide +kernel
theorem yb_tst (x : Int32) {k : Nat} (hk : k < 32) : (x >>> (nI k &&& 31)) &&& 1 = if bt x k = true then 1 else 0 := by
  apply b_ext
  intro i hi
  rw [b_and, yb_1, b_sshr k hk x hi]
  by_cases z : i = 0
  · subst z
    rw [if_pos (by omega), Nat.add_zero]
    cases bt x k <;> decide
  · rw [beq_eq_false_iff_ne.mpr z, Bool.and_false]
    split
    · rw [yb_1, beq_eq_false_iff_ne.mpr z]
    · rw [b_0]
theorem yb_t (x : Int32) {k : Nat} (hk : k < 32) : (x >>> (nI k &&& 31)) &&& 1 = 1 ↔ bt x k = true := by
  rw [yb_tst x hk]
  cases bt x k <;> decide
theorem yb_and (x y : Int32) : x &&& y = 0 ↔ ∀ e, ¬ (bt x e = true ∧ bt y e = true) := by
  constructor
  · intro h e z
    have h1 := b_and x y e
    rw [h, b_0, z.1, z.2] at h1
    cases h1
  · intro h
    apply b_ext
    intro i _
    rw [b_and, b_0]
    have h1 := h i
    cases hx : bt x i <;> cases hy : bt y i <;> first | rfl | exact absurd ⟨hx, hy⟩ h1
theorem yb_grp (b : Int32) {g : Nat} (hg : g < 32) : ((b >>> (nI g &&& 31)) &&& 1 = 1) ↔ ¬ (b &&& ((1 : Int32) <<< (nI g &&& 31)) = 0) := by
  rw [yb_t b hg, yb_and]
  constructor
  · intro h z
    exact z g ⟨h, by rw [yb_one hg]; exact beq_self_eq_true g⟩
  · intro h
    cases z : bt b g with
    | true => rfl
    | false =>
      refine absurd (fun e q => ?_) h
      rw [yb_one hg] at q
      rw [eq_of_beq q.2, z] at q
      exact absurd q.1 (by decide)
theorem yb_sel {x : Int32} {R : Int32} {l : List ru_R} (hR : ∀ e, bt R e = ru_any l e) : R &&& x = 0 ↔ ru_sel (bt x) l = none := by
  rw [yb_and]
  constructor
  · intro h
    cases q : ru_sel (bt x) l with
    | none => rfl
    | some r =>
      have h1 := ru_sel_some q
      exact absurd ⟨by rw [hR]; exact ru_any_iff.mpr ⟨r, h1.1, rfl⟩, h1.2⟩ (h r.1)
  · intro h e z
    rw [hR] at z
    obtain ⟨r, hr, rfl⟩ := ru_any_iff.mp z.1
    have h1 := ru_sel_is.mpr ⟨r, hr, z.2⟩
    rw [h] at h1
    cases h1
end
section
/-! what the reference's sets and its walk mean in the table -/
def ru_ov (gs : Nat → Int32) (r : ru_R) : Nat → Int32 := fun g => if r.2 g = -4 then gs g else r.2 g
theorem ru_ov_no (gs : Nat → Int32) (e : Nat) : ru_ov gs (e, ru_no) = gs := by
  funext g
  exact if_pos rfl
theorem ru_ov_cb (gs : Nat → Int32) (a b : ru_R) : ru_ov gs (ru_cb a b) = ru_ov (ru_ov gs a) b := by
  funext g
  unfold ru_ov ru_cb
  by_cases h : b.2 g = -4
  · simp only [if_pos h]
  · simp only [if_neg h]
theorem ru_ne4 {m : Nat} (h : m < 2 ^ 31) : ¬ nI m = -4 := fun e => by
  have h1 := nI_pos h
  rw [e] at h1
  exact h1 (by decide)
theorem ru_ov_set (gs : Nat → Int32) (a : ru_R) (g i : Nat) (h : 16 * i + a.1 < 2 ^ 31) : ru_ov gs (ru_set g i a) = upd (ru_ov gs a) g (nI (16 * i + a.1)) := by
  funext k
  unfold ru_ov ru_set upd
  by_cases z : k = g
  · simp only [if_pos z, if_neg (ru_ne4 h)]
  · simp only [if_neg z]
theorem ru_s_both {x y : Int32} {A : List ru_R} {B : Nat → List ru_R} {lo : Nat} (hy : ∀ a, a ∈ A → bt y a.1 = (decide (lo ≤ a.1) && (ru_sel (bt x) (B a.1)).isSome)) :
    (ru_sel (bt y) A = none → ru_sel (bt x) (ru_both A B lo) = none) ∧ (∀ a, ru_sel (bt y) A = some a → lo ≤ a.1 ∧ ∃ b, ru_sel (bt x) (B a.1) = some b ∧ ru_sel (bt x) (ru_both A B lo) = some (ru_cb a b)) := by
  rw [ru_sel_both (bt x) B lo (bt y) A hy]
  constructor
  · intro h
    rw [h]
    rfl
  · intro a h
    have h1 := ru_sel_some h
    have h2 := hy a h1.1
    rw [h1.2] at h2
    have h3 := (Bool.and_eq_true _ _).mp h2.symm
    obtain ⟨b, hb⟩ := Option.isSome_iff_exists.mp h3.2
    refine ⟨of_decide_eq_true h3.1, b, hb, ?_⟩
    rw [h]
    show Option.map (ru_cb a) (ru_sel (bt x) (B a.1)) = _
    rw [hb]
    rfl
theorem ru_any_both {A : List ru_R} {B : Nat → List ru_R} {lo e : Nat} : ru_any (ru_both A B lo) e = true ↔ ∃ k, ru_any A k = true ∧ lo ≤ k ∧ ru_any (B k) e = true := by
  rw [ru_any_iff]
  constructor
  · rintro ⟨r, hr, rfl⟩
    obtain ⟨a, ha, hl, b, hb, rfl⟩ := ru_both_mem hr
    exact ⟨a.1, ru_any_iff.mpr ⟨a, ha, rfl⟩, hl, ru_any_iff.mpr ⟨b, hb, rfl⟩⟩
  · rintro ⟨k, h1, hl, h2⟩
    obtain ⟨a, ha, rfl⟩ := ru_any_iff.mp h1
    obtain ⟨b, hb, rfl⟩ := ru_any_iff.mp h2
    refine ⟨ru_cb a b, List.mem_flatMap.mpr ⟨a, ha, ?_⟩, rfl⟩
    rw [if_pos hl]
    exact List.mem_map.mpr ⟨b, hb, rfl⟩
theorem ru_any_set (l : List ru_R) (g i e : Nat) : ru_any (l.map (ru_set g i)) e = ru_any l e := by
  unfold ru_any
  rw [List.any_map]
  rfl
theorem ru_bq {a b : Bool} (h : a = true ↔ b = true) : a = b := by
  cases a <;> cases b <;> simp_all
section
variable {K F S : Nat → Nat} {t : Nat → Int32} {n m p i : Nat}
theorem ru_sel_1 (x : Int32) (e : Nat) : ru_sel (bt x) [(e, ru_no)] = if bt x e = true then some (e, ru_no) else none := by
  cases h : bt x e with
  | true => rw [ru_sel_pos h]; rfl
  | false => rw [ru_sel_neg h]; rfl
theorem ru_w3 (wf : ru_wf K F S m) (hn : n ≤ 10) (hm : m ≤ 16) (hp : p < m) (hi : i ≤ n) (h : K p < 4) {x : Int32} {r : ru_R} (hr : ru_sel (bt x) (ru_tb K F S t n p i) = some r) : r = (i + 1, ru_no) ∧ i < n := by
  rw [ru_tb_eq wf hn hm hp hi] at hr
  have h1 := (ru_sel_some hr).1
  have h3 : K p < 3 ∨ K p = 3 := by omega
  rcases h3 with z | z
  · rw [ru_st0 z] at h1
    split at h1
    · rename_i q
      have h2 : r ∈ [((i + 1, ru_no) : ru_R)] := h1
      rw [List.mem_singleton] at h2
      exact ⟨h2, q.1⟩
    · cases h1
  · rw [ru_st3 z] at h1
    split at h1
    · rename_i q
      have h2 : r ∈ [((i + 1, ru_no) : ru_R)] := h1
      rw [List.mem_singleton] at h2
      exact ⟨h2, q⟩
    · cases h1
theorem ru_w4 (wf : ru_wf K F S m) (hn : n ≤ 10) (hm : m ≤ 16) (hp : p < m) (hi : i ≤ n) (h : K p = 4) {x : Int32} {r : ru_R} (hr : ru_sel (bt x) (ru_tb K F S t n p i) = some r) : r = (i, ru_no) := by
  rw [ru_tb_eq wf hn hm hp hi, ru_st4 h] at hr
  have h2 : r ∈ [((i, ru_no) : ru_R)] := (ru_sel_some hr).1
  rw [List.mem_singleton] at h2
  exact h2
theorem ru_w5 (wf : ru_wf K F S m) (hn : n ≤ 10) (hm : m ≤ 16) (hp : p < m) (hi : i ≤ n) (h : K p = 5) {x y : Int32} {r : ru_R} (hr : ru_sel (bt x) (ru_tb K F S t n p i) = some r)
    (hy : ∀ k, k ≤ n → bt y k = (ru_sel (bt x) (ru_tb K F S t n (S p) k)).isSome) : ∃ a b, ru_sel (bt y) (ru_tb K F S t n (F p) i) = some a ∧ ru_sel (bt x) (ru_tb K F S t n (S p) a.1) = some b ∧ r = ru_cb a b := by
  rw [ru_tb_eq wf hn hm hp hi, ru_st5 h, ru_sel_add] at hr
  have h0 : (ru_sel (bt x) []).or (ru_sel (bt x) (ru_both (ru_tb K F S t n (F p) i) (ru_tb K F S t n (S p)) i)) = ru_sel (bt x) (ru_both (ru_tb K F S t n (F p) i) (ru_tb K F S t n (S p)) i) := rfl
  rw [h0] at hr
  have hb := ru_s_both (x := x) (y := y) (A := ru_tb K F S t n (F p) i) (B := ru_tb K F S t n (S p)) (lo := i) (fun a ha => by
    have h1 := (ru_tb_ok (K := K) (F := F) (S := S) (t := t) (p := F p) hi).1 a ha
    rw [hy a.1 h1.2, decide_eq_true h1.1, Bool.true_and])
  cases q : ru_sel (bt y) (ru_tb K F S t n (F p) i) with
  | none => rw [hb.1 q] at hr; cases hr
  | some a =>
    obtain ⟨_, b, h2, h3⟩ := hb.2 a q
    rw [h3] at hr
    exact ⟨a, b, rfl, h2, (Option.some.inj hr).symm⟩
theorem ru_w6 (wf : ru_wf K F S m) (hn : n ≤ 10) (hm : m ≤ 16) (hp : p < m) (hi : i ≤ n) (h : K p = 6) {x : Int32} {r : ru_R} (hr : ru_sel (bt x) (ru_tb K F S t n p i) = some r) :
    (ru_sel (bt x) (ru_tb K F S t n (F p) i) = none → ru_sel (bt x) (ru_tb K F S t n (S p) i) = some r) ∧ (ru_sel (bt x) (ru_tb K F S t n (F p) i) ≠ none → ru_sel (bt x) (ru_tb K F S t n (F p) i) = some r) := by
  rw [ru_tb_eq wf hn hm hp hi, ru_st6 h, ru_sel_add, ru_sel_add] at hr
  have h0 : (ru_sel (bt x) []).or (ru_sel (bt x) (ru_tb K F S t n (F p) i)) = ru_sel (bt x) (ru_tb K F S t n (F p) i) := rfl
  rw [h0] at hr
  cases q : ru_sel (bt x) (ru_tb K F S t n (F p) i) with
  | none =>
    rw [q] at hr
    exact ⟨fun _ => hr, fun z => absurd rfl z⟩
  | some a =>
    rw [q] at hr
    exact ⟨fun z => (nomatch z), fun _ => hr⟩
theorem ru_w78 {x y : Int32} (hi : i ≤ n) (hy : ∀ k, k ≤ n → bt y k = (decide (i < k) && (ru_sel (bt x) (ru_tb K F S t n p k)).isSome)) :
    (ru_sel (bt y) (ru_tb K F S t n (F p) i) = none → ru_sel (bt x) (ru_both (ru_tb K F S t n (F p) i) (ru_tb K F S t n p) (i + 1)) = none) ∧
    (∀ a, ru_sel (bt y) (ru_tb K F S t n (F p) i) = some a → i + 1 ≤ a.1 ∧ ∃ b, ru_sel (bt x) (ru_tb K F S t n p a.1) = some b ∧ ru_sel (bt x) (ru_both (ru_tb K F S t n (F p) i) (ru_tb K F S t n p) (i + 1)) = some (ru_cb a b)) :=
  ru_s_both (x := x) (y := y) (A := ru_tb K F S t n (F p) i) (B := ru_tb K F S t n p) (lo := i + 1) (fun a ha => by
    have h1 := (ru_tb_ok (K := K) (F := F) (S := S) (t := t) (p := F p) hi).1 a ha
    rw [hy a.1 h1.2]
    rfl)
theorem ru_w7 (wf : ru_wf K F S m) (hn : n ≤ 10) (hm : m ≤ 16) (hp : p < m) (hi : i ≤ n) (h : K p = 7) {x y : Int32} {r : ru_R} (hr : ru_sel (bt x) (ru_tb K F S t n p i) = some r)
    (hy : ∀ k, k ≤ n → bt y k = (decide (i < k) && (ru_sel (bt x) (ru_tb K F S t n p k)).isSome)) :
    (ru_sel (bt y) (ru_tb K F S t n (F p) i) = none → r = (i, ru_no)) ∧ (ru_sel (bt y) (ru_tb K F S t n (F p) i) ≠ none → ∃ a b, ru_sel (bt y) (ru_tb K F S t n (F p) i) = some a ∧ i < a.1 ∧ ru_sel (bt x) (ru_tb K F S t n p a.1) = some b ∧ r = ru_cb a b) := by
  have hb := ru_w78 (K := K) (F := F) (S := S) (t := t) (p := p) hi hy
  rw [ru_tb_eq wf hn hm hp hi, ru_st7 h, ru_sel_add, ru_sel_add] at hr
  have h0 : (ru_sel (bt x) []).or (ru_sel (bt x) (ru_both (ru_tb K F S t n (F p) i) (ru_tb K F S t n p) (i + 1))) = ru_sel (bt x) (ru_both (ru_tb K F S t n (F p) i) (ru_tb K F S t n p) (i + 1)) := rfl
  rw [h0] at hr
  cases q : ru_sel (bt y) (ru_tb K F S t n (F p) i) with
  | none =>
    rw [hb.1 q] at hr
    have h2 : r ∈ [((i, ru_no) : ru_R)] := (ru_sel_some hr).1
    rw [List.mem_singleton] at h2
    exact ⟨fun _ => h2, fun z => absurd rfl z⟩
  | some a =>
    obtain ⟨h1, b, h2, h3⟩ := hb.2 a q
    rw [h3] at hr
    exact ⟨fun z => (nomatch z), fun _ => ⟨a, b, rfl, h1, h2, (Option.some.inj hr).symm⟩⟩
theorem ru_w8 (wf : ru_wf K F S m) (hn : n ≤ 10) (hm : m ≤ 16) (hp : p < m) (hi : i ≤ n) (h : K p = 8) {x : Int32} {r : ru_R} (hr : ru_sel (bt x) (ru_tb K F S t n p i) = some r) :
    (bt x i = true → r = (i, ru_no)) ∧ (bt x i = false → ∀ y : Int32, (∀ k, k ≤ n → bt y k = (decide (i < k) && (ru_sel (bt x) (ru_tb K F S t n p k)).isSome)) → ∃ a b, ru_sel (bt y) (ru_tb K F S t n (F p) i) = some a ∧ i < a.1 ∧ ru_sel (bt x) (ru_tb K F S t n p a.1) = some b ∧ r = ru_cb a b) := by
  rw [ru_tb_eq wf hn hm hp hi, ru_st8 h, ru_sel_add, ru_sel_add, ru_sel_1] at hr
  constructor
  · intro z
    rw [if_pos z] at hr
    exact (Option.some.inj hr).symm
  · intro z y hy
    have hb := ru_w78 (K := K) (F := F) (S := S) (t := t) (p := p) hi hy
    rw [if_neg (by rw [z]; decide)] at hr
    have h0 : ((ru_sel (bt x) []).or none).or (ru_sel (bt x) (ru_both (ru_tb K F S t n (F p) i) (ru_tb K F S t n p) (i + 1))) = ru_sel (bt x) (ru_both (ru_tb K F S t n (F p) i) (ru_tb K F S t n p) (i + 1)) := rfl
    rw [h0] at hr
    cases q : ru_sel (bt y) (ru_tb K F S t n (F p) i) with
    | none => rw [hb.1 q] at hr; cases hr
    | some a =>
      obtain ⟨h1, b, h2, h3⟩ := hb.2 a q
      rw [h3] at hr
      exact ⟨a, b, rfl, h1, h2, (Option.some.inj hr).symm⟩
theorem ru_w9 (wf : ru_wf K F S m) (hn : n ≤ 10) (hm : m ≤ 16) (hp : p < m) (hi : i ≤ n) (h : 9 ≤ K p) {x : Int32} {r : ru_R} (hr : ru_sel (bt x) (ru_tb K F S t n p i) = some r) :
    ∃ a, ru_sel (bt x) (ru_tb K F S t n (F p) i) = some a ∧ r = ru_set (K p - 9) i a := by
  rw [ru_tb_eq wf hn hm hp hi, ru_st9 h, ru_sel_set, ru_sel_add] at hr
  have h0 : (ru_sel (bt x) []).or (ru_sel (bt x) (ru_tb K F S t n (F p) i)) = ru_sel (bt x) (ru_tb K F S t n (F p) i) := rfl
  rw [h0] at hr
  obtain ⟨a, ha, e⟩ := Option.map_eq_some_iff.mp hr
  exact ⟨a, ha, e.symm⟩
end
end
section
/-! the reference's sets of ends are those of the table -/
section
variable {K F S : Nat → Nat} {t : Nat → Int32} {n m p i : Nat}
theorem ru_a1 (l : List ru_R) (r : ru_R) (e : Nat) : ru_any (ru_add l [r]) e = (ru_any l e || r.1 == e) := by
  rw [ru_any_add, ru_any_one]
theorem ru_q3 (wf : ru_wf K F S m) (hn : n ≤ 10) (hm : m ≤ 16) (hp : p < m) (hi : i ≤ n) (h : K p < 4) (e : Nat) :
    (i < n ∧ (K p = 3 ∨ t i = nI (K p)) → ru_any (ru_tb K F S t n p i) e = (e == i + 1)) ∧ (¬ (i < n ∧ (K p = 3 ∨ t i = nI (K p))) → ru_any (ru_tb K F S t n p i) e = false) := by
  have hc : ((i + 1 : Nat) == e) = (e == i + 1) := by
    by_cases z : e = i + 1
    · subst z; rfl
    · rw [beq_eq_false_iff_ne.mpr z, beq_eq_false_iff_ne.mpr (fun q => z q.symm)]
  rw [ru_tb_eq wf hn hm hp hi]
  have h3 : K p < 3 ∨ K p = 3 := by omega
  rcases h3 with z | z
  · rw [ru_st0 z]
    have h4 : ¬ K p = 3 := by omega
    constructor
    · rintro ⟨h1, h2⟩
      rw [if_pos ⟨h1, h2.resolve_left h4⟩, ru_a1, ru_any_nil, Bool.false_or]
      exact hc
    · intro h1
      rw [if_neg (fun q => h1 ⟨q.1, Or.inr q.2⟩)]
      rfl
  · rw [ru_st3 z]
    constructor
    · rintro ⟨h1, _⟩
      rw [if_pos h1, ru_a1, ru_any_nil, Bool.false_or]
      exact hc
    · intro h1
      rw [if_neg (fun q => h1 ⟨q, Or.inl z⟩)]
      rfl
theorem ru_eqc (e i : Nat) : (i == e) = (e == i) := by
  by_cases z : e = i
  · subst z; rfl
  · rw [beq_eq_false_iff_ne.mpr z, beq_eq_false_iff_ne.mpr (fun q => z q.symm)]
theorem ru_q4 (wf : ru_wf K F S m) (hn : n ≤ 10) (hm : m ≤ 16) (hp : p < m) (hi : i ≤ n) (h : K p = 4) (e : Nat) : ru_any (ru_tb K F S t n p i) e = (e == i) := by
  rw [ru_tb_eq wf hn hm hp hi, ru_st4 h, ru_a1, ru_any_nil, Bool.false_or]
  exact ru_eqc e i
theorem ru_le_n {q k e : Nat} (hk : k ≤ n) (h : ru_any (ru_tb K F S t n q k) e = true) : k ≤ e ∧ e ≤ n := by
  obtain ⟨r, hr, rfl⟩ := ru_any_iff.mp h
  exact (ru_tb_ok hk).1 r hr
theorem ru_q5 (wf : ru_wf K F S m) (hn : n ≤ 10) (hm : m ≤ 16) (hp : p < m) (hi : i ≤ n) (h : K p = 5) {x y : Int32} (hx : ∀ k, bt x k = ru_any (ru_tb K F S t n (F p) i) k)
    (hy : ∀ e, bt y e = true ↔ ∃ k, k ≤ n ∧ bt x k = true ∧ ru_any (ru_tb K F S t n (S p) k) e = true) (e : Nat) : bt y e = ru_any (ru_tb K F S t n p i) e := by
  rw [ru_tb_eq wf hn hm hp hi, ru_st5 h, ru_any_add, ru_any_nil, Bool.false_or]
  apply ru_bq
  rw [hy, ru_any_both]
  constructor
  · rintro ⟨k, _, h2, h3⟩
    rw [hx] at h2
    exact ⟨k, h2, (ru_le_n hi h2).1, h3⟩
  · rintro ⟨k, h2, _, h3⟩
    exact ⟨k, (ru_le_n hi h2).2, by rw [hx]; exact h2, h3⟩
theorem ru_q6 (wf : ru_wf K F S m) (hn : n ≤ 10) (hm : m ≤ 16) (hp : p < m) (hi : i ≤ n) (h : K p = 6) {x y : Int32} (hx : ∀ k, bt x k = ru_any (ru_tb K F S t n (F p) i) k) (hy : ∀ k, bt y k = ru_any (ru_tb K F S t n (S p) i) k) (e : Nat) : bt (x ||| y) e = ru_any (ru_tb K F S t n p i) e := by
  rw [ru_tb_eq wf hn hm hp hi, ru_st6 h, ru_any_add, ru_any_add, ru_any_nil, Bool.false_or, b_or, hx, hy]
theorem ru_q9 (wf : ru_wf K F S m) (hn : n ≤ 10) (hm : m ≤ 16) (hp : p < m) (hi : i ≤ n) (h : 9 ≤ K p) {x : Int32} (hx : ∀ k, bt x k = ru_any (ru_tb K F S t n (F p) i) k) (e : Nat) : bt x e = ru_any (ru_tb K F S t n p i) e := by
  rw [ru_tb_eq wf hn hm hp hi, ru_st9 h, ru_any_set, ru_any_add, ru_any_nil, Bool.false_or, hx]
theorem ru_q78 (wf : ru_wf K F S m) (hn : n ≤ 10) (hm : m ≤ 16) (hp : p < m) (hi : i ≤ n) (h : K p = 7 ∨ K p = 8) {x y z : Int32} (hz : ∀ e, bt z e = (e == i)) (hx : ∀ k, k < 32 → bt x k = (ru_any (ru_tb K F S t n (F p) i) k && decide (i < k)))
    (hy : ∀ e, bt y e = true ↔ ∃ k, k ≤ n ∧ bt x k = true ∧ ru_any (ru_tb K F S t n p k) e = true) (e : Nat) : bt (z ||| y) e = ru_any (ru_tb K F S t n p i) e := by
  have h1 : bt y e = ru_any (ru_both (ru_tb K F S t n (F p) i) (ru_tb K F S t n p) (i + 1)) e := by
    apply ru_bq
    rw [hy, ru_any_both]
    constructor
    · rintro ⟨k, h1, h2, h3⟩
      rw [hx k (by omega)] at h2
      have h4 := (Bool.and_eq_true _ _).mp h2
      exact ⟨k, h4.1, of_decide_eq_true h4.2, h3⟩
    · rintro ⟨k, h2, h4, h3⟩
      have h5 := (ru_le_n hi h2).2
      exact ⟨k, h5, by rw [hx k (by omega), h2, decide_eq_true (show i < k from h4)]; rfl, h3⟩
  rw [ru_tb_eq wf hn hm hp hi, b_or, hz, h1]
  rcases h with h | h
  · rw [ru_st7 h, ru_a1, ru_any_add, ru_any_nil, Bool.false_or, Bool.or_comm]
    exact congrArg (fun q => _ || q) (ru_eqc e i).symm
  · rw [ru_st8 h, ru_any_add, ru_a1, ru_any_nil, Bool.false_or]
    exact congrArg (fun q => q || _) (ru_eqc e i).symm
end
end
section
/-! the component's four arrays hold a list of runs in row s -/
def xr_Rep (C E B G : Nat → Int32) (s : Nat) (l : List ru_R) : Prop :=
  C s = nI l.length ∧ (∀ k r, l[k]? = some r → E (s * 11 + k) = nI r.1) ∧ (∀ e, e < 11 → B (s * 11 + e) = if ru_any l e = true then 1 else 0) ∧ (∀ r, r ∈ l → ∀ g, g < 3 → G ((s * 11 + r.1) * 3 + g) = r.2 g)
def xr_fr (s : Nat) (C E B G C' E' B' G' : Nat → Int32) : Prop :=
  ∀ s', s' ≠ s → C' s' = C s' ∧ ∀ k, k < 11 → E' (s' * 11 + k) = E (s' * 11 + k) ∧ B' (s' * 11 + k) = B (s' * 11 + k) ∧ ∀ g, g < 3 → G' ((s' * 11 + k) * 3 + g) = G ((s' * 11 + k) * 3 + g)
section
variable {C E B G C' E' B' G' C2 E2 B2 G2 : Nat → Int32} {s : Nat} {l : List ru_R} {i n : Nat}
theorem xr_fr_rf : xr_fr s C E B G C E B G := fun _ _ => ⟨rfl, fun _ _ => ⟨rfl, rfl, fun _ _ => rfl⟩⟩
theorem xr_fr_tr (h : xr_fr s C E B G C' E' B' G') (h' : xr_fr s C' E' B' G' C2 E2 B2 G2) : xr_fr s C E B G C2 E2 B2 G2 := by
  intro s' hs
  have a := h s' hs
  have b := h' s' hs
  refine ⟨b.1.trans a.1, fun k hk => ⟨(b.2 k hk).1.trans (a.2 k hk).1, (b.2 k hk).2.1.trans (a.2 k hk).2.1, fun g hg => ((b.2 k hk).2.2 g hg).trans ((a.2 k hk).2.2 g hg)⟩⟩
theorem xr_keep {s' : Nat} (h : xr_fr s C E B G C' E' B' G') (hs : s' ≠ s) (ho : ru_ok i n l) (hn : n ≤ 10) (hr : xr_Rep C E B G s' l) : xr_Rep C' E' B' G' s' l := by
  have a := h s' hs
  have hl := ru_len ho
  refine ⟨a.1.trans hr.1, fun k r hk => ?_, fun e he => (a.2 e he).2.1.trans (hr.2.2.1 e he), fun r hm g hg => ?_⟩
  · have hk2 : k < l.length := (List.getElem?_eq_some_iff.mp hk).1
    exact (a.2 k (by omega)).1.trans (hr.2.1 k r hk)
  · have := (ho.1 r hm).2
    exact ((a.2 r.1 (by omega)).2.2 g hg).trans (hr.2.2.2 r hm g hg)
theorem xr_ins {r : ru_R} (hn : n ≤ 10) (ho : ru_ok i n l) (hr : xr_Rep C E B G s l) (hb : i ≤ r.1 ∧ r.1 ≤ n) (z : ¬ ru_any l r.1 = true)
    (hg : ∀ g, g < 3 → G' ((s * 11 + r.1) * 3 + g) = r.2 g) (hk : ∀ q, q < (s * 11 + r.1) * 3 ∨ (s * 11 + r.1) * 3 + 3 ≤ q → G' q = G q) :
    xr_Rep (upd C s (nI (l.length + 1))) (upd E (s * 11 + l.length) (nI r.1)) (upd B (s * 11 + r.1) 1) G' s (ru_ins l r) ∧ xr_fr s C E B G (upd C s (nI (l.length + 1))) (upd E (s * 11 + l.length) (nI r.1)) (upd B (s * 11 + r.1) 1) G' := by
  have hl := ru_len_ins ho hb z
  rw [show ru_ins l r = l ++ [r] from if_neg z]
  refine ⟨⟨?_, fun k r' hk' => ?_, fun e he => ?_, fun r' hm g hg' => ?_⟩, fun s' hs => ⟨pk_un hs, fun k hk' => ⟨pk_un (by omega), pk_un (by omega), fun g hg' => hk _ (by omega)⟩⟩⟩
  · rw [pk_us, List.length_append]
    rfl
  · by_cases q : k < l.length
    · rw [List.getElem?_append_left q] at hk'
      rw [pk_un (by omega)]
      exact hr.2.1 k r' hk'
    · rw [List.getElem?_append_right (by omega)] at hk'
      have h1 := (List.getElem?_eq_some_iff.mp hk').1
      have h2 : [r].length = 1 := rfl
      have h3 : k - l.length = 0 := by omega
      rw [h3] at hk'
      have h4 : r = r' := Option.some.inj hk'
      rw [← h4, show k = l.length by omega, pk_us]
  · rw [ru_any_app, ru_any_one]
    by_cases q : e = r.1
    · rw [q, pk_us, if_pos (by simp)]
    · rw [pk_un (by omega), hr.2.2.1 e he, beq_eq_false_iff_ne.mpr (fun w => q w.symm), Bool.or_false]
  · rcases List.mem_append.mp hm with hm | hm
    · have h1 : r'.1 ≠ r.1 := fun w => z (ru_any_iff.mpr ⟨r', hm, w⟩)
      rw [hk _ (by omega)]
      exact hr.2.2.2 r' hm g hg'
    · rw [List.mem_singleton] at hm
      rw [hm]
      exact hg g hg'
theorem xr_clear (hb : ∀ e, e < 11 → B' (s * 11 + e) = 0) : xr_Rep (upd C s 0) E B' G s [] :=
  ⟨pk_us, fun k r h => (nomatch h), fun e he => hb e he, fun r h => (nomatch h)⟩
theorem xr_setg {g0 : Nat} (hn : n ≤ 10) (ho : ru_ok i n l) (hr : xr_Rep C E B G s l)
    (hg : ∀ e, e < 11 → ∀ h, h < 3 → G' ((s * 11 + e) * 3 + h) = if h = g0 ∧ ru_any l e = true then nI (16 * i + e) else G ((s * 11 + e) * 3 + h))
    : xr_Rep C E B G' s (l.map (ru_set g0 i)) := by
  refine ⟨?_, fun k r hk => ?_, fun e he => ?_, fun r hm g hg' => ?_⟩
  · rw [List.length_map]
    exact hr.1
  · rw [List.getElem?_map] at hk
    obtain ⟨a, ha, e⟩ := Option.map_eq_some_iff.mp hk
    rw [← e]
    exact hr.2.1 k a ha
  · rw [ru_any_set]
    exact hr.2.2.1 e he
  · obtain ⟨a, ha, e⟩ := List.mem_map.mp hm
    have h1 := (ho.1 a ha).2
    rw [← e]
    show G' ((s * 11 + a.1) * 3 + g) = if g = g0 then nI (16 * i + a.1) else a.2 g
    rw [hg a.1 (by omega) g hg', hr.2.2.2 a ha g hg']
    by_cases q : g = g0
    · rw [if_pos q, if_pos ⟨q, ru_any_iff.mpr ⟨a, ha, rfl⟩⟩]
    · rw [if_neg q, if_neg (fun w => q w.1)]
end
theorem ru_add_app (l a b : List ru_R) : ru_add l (a ++ b) = ru_add (ru_add l a) b := List.foldl_append
theorem ru_add_one (l : List ru_R) (r : ru_R) : ru_add l [r] = ru_ins l r := rfl
theorem ru_take {A : List ru_R} {k : Nat} {r : ru_R} (h : A[k]? = some r) : A.take (k + 1) = A.take k ++ [r] := by
  rw [List.take_succ, h]
  rfl
theorem ru_add_tk {l A : List ru_R} {k : Nat} {r : ru_R} (h : A[k]? = some r) : ru_add l (A.take (k + 1)) = ru_ins (ru_add l (A.take k)) r := by
  rw [ru_take h, ru_add_app]
  rfl
theorem ru_both_app (A A' : List ru_R) (B : Nat → List ru_R) (lo : Nat) : ru_both (A ++ A') B lo = ru_both A B lo ++ ru_both A' B lo := List.flatMap_append
theorem ru_both_tk {A : List ru_R} {B : Nat → List ru_R} {lo k : Nat} {r : ru_R} (h : A[k]? = some r) : ru_both (A.take (k + 1)) B lo = ru_both (A.take k) B lo ++ (if lo ≤ r.1 then (B r.1).map (ru_cb r) else []) := by
  rw [ru_take h, ru_both_app, ru_both_cons]
  show _ ++ (_ ++ []) = _
  rw [List.append_nil]
theorem ru_get {A : List ru_R} {k : Nat} (h : k < A.length) : ∃ r, A[k]? = some r ∧ r ∈ A := ⟨A[k], List.getElem?_eq_getElem h, List.getElem_mem h⟩
end
section
/-! what the calls ask of the whole pattern's row of lists L, L i the runs from i -/
def qu_hd (l : List ru_R) : ru_R := l.headD (0, ru_no)
def qu_f (L : Nat → List ru_R) : Nat → Nat → Option Nat
  | 0, _ => none
  | d + 1, j => if (L j).isEmpty = true then qu_f L d (j + 1) else some j
def qu_o : Option Nat → Int32
  | none => -4
  | some i => nI i
theorem qu_f_some {L : Nat → List ru_R} : ∀ (d j i : Nat), qu_f L d j = some i → j ≤ i ∧ i < j + d ∧ (L i).isEmpty = false := by
  intro d
  induction d with
  | zero => intro j i h; cases h
  | succ d ih =>
    intro j i h
    unfold qu_f at h
    by_cases z : (L j).isEmpty = true
    · rw [if_pos z] at h
      have h1 := ih (j + 1) i h
      exact ⟨by omega, by omega, h1.2.2⟩
    · rw [if_neg z] at h
      have h1 := Option.some.inj h
      subst h1
      exact ⟨Nat.le_refl _, by omega, by simpa using z⟩
def qu_nx (j e : Nat) : Nat := if e ≤ j then j + 1 else e
theorem qu_nx_gt (j e : Nat) : j < qu_nx j e := by
  unfold qu_nx
  split <;> omega
def qu_c (L : Nat → List ru_R) (n : Nat) (h : Int32 → Nat → Nat → Int32) : Nat → Nat → Int32 → Int32
  | 0, _, a => a
  | d + 1, j, a => if n < j then a else if (L j).isEmpty = true then qu_c L n h d (j + 1) a else qu_c L n h d (qu_nx j (qu_hd (L j)).1) (h a j (qu_hd (L j)).1)
theorem qu_c_st (L : Nat → List ru_R) (n : Nat) (h : Int32 → Nat → Nat → Int32) : ∀ (d d' j : Nat) (a : Int32), n + 1 ≤ j + d → n + 1 ≤ j + d' → qu_c L n h d j a = qu_c L n h d' j a := by
  intro d
  induction d with
  | zero =>
    intro d' j a h1 h2
    cases d' with
    | zero => rfl
    | succ d' =>
      show a = qu_c L n h (d' + 1) j a
      unfold qu_c
      rw [if_pos (by omega)]
  | succ d ih =>
    intro d' j a h1 h2
    cases d' with
    | zero =>
      show qu_c L n h (d + 1) j a = a
      unfold qu_c
      rw [if_pos (by omega)]
    | succ d' =>
      unfold qu_c
      have h3 := qu_nx_gt j (qu_hd (L j)).1
      rw [ih d' (j + 1) a (by omega) (by omega), ih d' (qu_nx j (qu_hd (L j)).1) (h a j (qu_hd (L j)).1) (by omega) (by omega)]
def qu_all (L : Nat → List ru_R) (n : Nat) (h : Int32 → Nat → Nat → Int32) (j : Nat) (a : Int32) : Int32 := qu_c L n h (n + 1) j a
section
variable {L : Nat → List ru_R} {n : Nat} {h : Int32 → Nat → Nat → Int32}
theorem qu_all_gt {j : Nat} {a : Int32} (hj : n < j) : qu_all L n h j a = a := by
  unfold qu_all qu_c
  rw [if_pos hj]
theorem qu_all_em {j : Nat} {a : Int32} (hj : j ≤ n) (he : (L j).isEmpty = true) : qu_all L n h j a = qu_all L n h (j + 1) a := by
  have h1 : qu_all L n h j a = qu_c L n h n (j + 1) a := by
    unfold qu_all
    rw [qu_c, if_neg (by omega), if_pos he]
  rw [h1]
  exact qu_c_st L n h n (n + 1) (j + 1) a (by omega) (by omega)
theorem qu_all_ne {j : Nat} {a : Int32} (hj : j ≤ n) (he : ¬ (L j).isEmpty = true) : qu_all L n h j a = qu_all L n h (qu_nx j (qu_hd (L j)).1) (h a j (qu_hd (L j)).1) := by
  have h1 : qu_all L n h j a = qu_c L n h n (qu_nx j (qu_hd (L j)).1) (h a j (qu_hd (L j)).1) := by
    unfold qu_all
    rw [qu_c, if_neg (by omega), if_neg he]
  rw [h1]
  have h3 := qu_nx_gt j (qu_hd (L j)).1
  exact qu_c_st L n h n (n + 1) _ _ (by omega) (by omega)
theorem qu_all_f (a : Int32) : ∀ (d j : Nat), j + d = n + 1 → (qu_f L d j = none → qu_all L n h j a = a) ∧ (∀ i, qu_f L d j = some i → qu_all L n h j a = qu_all L n h i a) := by
  intro d
  induction d with
  | zero => intro j hj; exact ⟨fun _ => qu_all_gt (by omega), fun i z => (nomatch z)⟩
  | succ d ih =>
    intro j hj
    by_cases z : (L j).isEmpty = true
    · rw [show qu_f L (d + 1) j = qu_f L d (j + 1) from if_pos z, qu_all_em (by omega) z]
      exact ih (j + 1) (by omega)
    · rw [show qu_f L (d + 1) j = some j from if_neg z]
      exact ⟨fun q => (nomatch q), fun i q => by rw [Option.some.inj q]⟩
end
theorem qu_hd_sel {l : List ru_R} {x : Int32} (h : ¬ l.isEmpty = true) (hx : ∀ r, r ∈ l → bt x r.1 = true) : ru_sel (bt x) l = some (qu_hd l) ∧ qu_hd l ∈ l ∧ l[0]? = some (qu_hd l) := by
  cases l with
  | nil => exact absurd rfl h
  | cons r l => exact ⟨ru_sel_pos (hx r List.mem_cons_self), List.mem_cons_self, rfl⟩
end
section
/-! the reference's machine of tasks, by its step rules alone -/
def ym_go (L : Nat → Nat → Nat → (Nat → Int32) → (Nat → Int32) → (Nat → Int32) → Prop) (i w : Nat) (tk wt gs : Nat → Int32) (i' w' : Nat) (tk' wt' gs' : Nat → Int32) : Prop :=
  ∃ c, ∀ n, L n i' w' tk' wt' gs' → L (n + c) i w tk wt gs
theorem ym_tr {L : Nat → Nat → Nat → (Nat → Int32) → (Nat → Int32) → (Nat → Int32) → Prop} {i w i' w' i2 w2 : Nat} {tk wt gs tk' wt' gs' tk2 wt2 gs2 : Nat → Int32}
    (h : ym_go L i w tk wt gs i' w' tk' wt' gs') (h' : ym_go L i' w' tk' wt' gs' i2 w2 tk2 wt2 gs2) : ym_go L i w tk wt gs i2 w2 tk2 wt2 gs2 := by
  obtain ⟨c, hc⟩ := h
  obtain ⟨d, hd⟩ := h'
  refine ⟨d + c, fun n z => ?_⟩
  rw [← Nat.add_assoc]
  exact hc (n + d) (hd n z)
def ym_R (L : Nat → Nat → Nat → (Nat → Int32) → (Nat → Int32) → (Nat → Int32) → Prop) (K F S : Nat → Nat) (t : Nat → Int32) (n m : Nat) : Prop :=
  ∀ (p i w : Nat) (tk wt gs : Nat → Int32), p < m → i ≤ n → w + 1 < 64 → tk w = nI p →
    (K p < 4 → ym_go L i (w + 1) tk wt gs (i + 1) w tk wt gs) ∧
    (K p = 4 → ym_go L i (w + 1) tk wt gs i w tk wt gs) ∧
    (K p = 5 → ∃ y : Int32, (∀ k, k ≤ n → bt y k = (ru_sel (bt (wt w)) (ru_tb K F S t n (S p) k)).isSome) ∧ ym_go L i (w + 1) tk wt gs i (w + 1 + 1) (upd (upd tk w (nI (S p))) (w + 1) (nI (F p))) (upd (upd wt w (wt w)) (w + 1) y) gs) ∧
    (K p = 6 → (ru_sel (bt (wt w)) (ru_tb K F S t n (F p) i) = none → ym_go L i (w + 1) tk wt gs i (w + 1) (upd tk w (nI (S p))) (upd wt w (wt w)) gs) ∧ (ru_sel (bt (wt w)) (ru_tb K F S t n (F p) i) ≠ none → ym_go L i (w + 1) tk wt gs i (w + 1) (upd tk w (nI (F p))) (upd wt w (wt w)) gs)) ∧
    (K p = 7 ∨ (K p = 8 ∧ bt (wt w) i = false) → ∃ y : Int32, (∀ k, k ≤ n → bt y k = (decide (i < k) && (ru_sel (bt (wt w)) (ru_tb K F S t n p k)).isSome)) ∧ (ru_sel (bt y) (ru_tb K F S t n (F p) i) = none → ym_go L i (w + 1) tk wt gs i w tk wt gs) ∧ (ru_sel (bt y) (ru_tb K F S t n (F p) i) ≠ none → ym_go L i (w + 1) tk wt gs i (w + 1 + 1) (upd (upd tk w (nI p)) (w + 1) (nI (F p))) (upd (upd wt w (wt w)) (w + 1) y) gs)) ∧
    (K p = 8 → bt (wt w) i = true → ym_go L i (w + 1) tk wt gs i w tk wt gs) ∧
    (9 ≤ K p → ym_go L i (w + 1) tk wt gs i (w + 1 + 1) (upd (upd tk w (nI (100 + 16 * (K p - 9) + i))) (w + 1) (nI (F p))) (upd (upd wt w 0) (w + 1) (wt w)) gs)
def ym_G (L : Nat → Nat → Nat → (Nat → Int32) → (Nat → Int32) → (Nat → Int32) → Prop) : Prop :=
  ∀ (g i j w : Nat) (tk wt gs : Nat → Int32), g < 3 → i ≤ 10 → j ≤ 10 → w < 64 → tk w = nI (100 + 16 * g + i) → ym_go L j (w + 1) tk wt gs j w tk wt (upd gs g (nI (16 * i + j)))
theorem ym_u2 (tk : Nat → Int32) (w : Nat) (a b : Int32) : upd (upd tk w a) (w + 1) b (w + 1) = b ∧ upd (upd tk w a) (w + 1) b w = a ∧ ∀ q, q < w → upd (upd tk w a) (w + 1) b q = tk q :=
  ⟨pk_us, (pk_un (by omega)).trans pk_us, fun q hq => (pk_un (by omega)).trans (pk_un (by omega))⟩
section
variable {L : Nat → Nat → Nat → (Nat → Int32) → (Nat → Int32) → (Nat → Int32) → Prop} {K F S : Nat → Nat} {t : Nat → Int32} {n m : Nat}
def ym_Q (L : Nat → Nat → Nat → (Nat → Int32) → (Nat → Int32) → (Nat → Int32) → Prop) (K F S : Nat → Nat) (t : Nat → Int32) (n m f : Nat) : Prop :=
  ∀ (p i w : Nat) (tk wt gs : Nat → Int32) (r : ru_R), 11 * p + (10 - i) < f → p < m → i ≤ n → w + p + 1 < 64 → tk w = nI p → ru_sel (bt (wt w)) (ru_tb K F S t n p i) = some r →
    ∃ tk' wt', (∀ q, q < w → tk' q = tk q ∧ wt' q = wt q) ∧ ym_go L i (w + 1) tk wt gs r.1 w tk' wt' (ru_ov gs r)
theorem ym_two {f : Nat} (ih : ym_Q L K F S t n m f) {p q i w : Nat} {tk wt gs : Nat → Int32} {a b : ru_R} {x y : Int32} (hn : n ≤ 10) (h1 : 11 * p + (10 - i) < f) (h2 : 11 * q + (10 - a.1) < f) (hp : p < m) (hq : q < m) (hi : i ≤ n) (hw : w + 1 + p + 1 < 64) (hw2 : w + q + 1 < 64)
    (ha : ru_sel (bt y) (ru_tb K F S t n p i) = some a) (hb : ru_sel (bt x) (ru_tb K F S t n q a.1) = some b)
    (hg : ym_go L i (w + 1) tk wt gs i (w + 1 + 1) (upd (upd tk w (nI q)) (w + 1) (nI p)) (upd (upd wt w x) (w + 1) y) gs) :
    ∃ tk' wt', (∀ q, q < w → tk' q = tk q ∧ wt' q = wt q) ∧ ym_go L i (w + 1) tk wt gs (ru_cb a b).1 w tk' wt' (ru_ov gs (ru_cb a b)) := by
  have hbd := (ru_tb_ok (K := K) (F := F) (S := S) (t := t) (p := p) hi).1 a (ru_sel_some ha).1
  obtain ⟨u1, u2, u3⟩ := ym_u2 tk w (nI q) (nI p)
  obtain ⟨v1, v2, v3⟩ := ym_u2 wt w x y
  obtain ⟨tk2, wt2, hk2, go2⟩ := ih p i (w + 1) (upd (upd tk w (nI q)) (w + 1) (nI p)) (upd (upd wt w x) (w + 1) y) gs a h1 hp hi hw u1 (by rw [v1]; exact ha)
  have e1 := hk2 w (by omega)
  obtain ⟨tk3, wt3, hk3, go3⟩ := ih q a.1 w tk2 wt2 (ru_ov gs a) b h2 hq hbd.2 hw2 (e1.1.trans u2) (by rw [e1.2, v2]; exact hb)
  refine ⟨tk3, wt3, fun k hk => ⟨?_, ?_⟩, ?_⟩
  · rw [(hk3 k hk).1, (hk2 k (by omega)).1, u3 k hk]
  · rw [(hk3 k hk).2, (hk2 k (by omega)).2, v3 k hk]
  · rw [ru_ov_cb]
    exact ym_tr hg (ym_tr go2 go3)
theorem ym_run (hR : ym_R L K F S t n m) (hG : ym_G L) (wf : ru_wf K F S m) (hn : n ≤ 10) (hm : m ≤ 16) : ∀ f, ym_Q L K F S t n m f := by
  intro f
  induction f with
  | zero => intro p i w tk wt gs r h; omega
  | succ f ih =>
    intro p i w tk wt gs r hf hp hi hw ht hr
    obtain ⟨R3, R4, R5, R6, R7, R8, R9⟩ := hR p i w tk wt gs hp hi (by omega) ht
    have h5 := (wf p hp).2
    have hK := (wf p hp).1
    rcases (by omega : K p < 4 ∨ K p = 4 ∨ K p = 5 ∨ K p = 6 ∨ K p = 7 ∨ K p = 8 ∨ 9 ≤ K p) with h | h | h | h | h | h | h
    · obtain ⟨rfl, _⟩ := ru_w3 wf hn hm hp hi h hr
      exact ⟨tk, wt, fun _ _ => ⟨rfl, rfl⟩, by rw [ru_ov_no]; exact R3 h⟩
    · obtain rfl := ru_w4 wf hn hm hp hi h hr
      exact ⟨tk, wt, fun _ _ => ⟨rfl, rfl⟩, by rw [ru_ov_no]; exact R4 h⟩
    · have h5 := h5 (by omega)
      obtain ⟨y, hy, hg⟩ := R5 h
      obtain ⟨a, b, ha, hb, rfl⟩ := ru_w5 wf hn hm hp hi h hr hy
      exact ym_two ih hn (by omega) (by omega) (by omega) (by omega) hi (by omega) (by omega) ha hb hg
    · have h5 := h5 (by omega)
      have h6 := ru_w6 wf hn hm hp hi h hr
      by_cases z : ru_sel (bt (wt w)) (ru_tb K F S t n (F p) i) = none
      · obtain ⟨tk2, wt2, hk2, go2⟩ := ih (S p) i w (upd tk w (nI (S p))) (upd wt w (wt w)) gs r (by omega) (by omega) hi (by omega) pk_us (by rw [pk_us]; exact h6.1 z)
        exact ⟨tk2, wt2, fun k hk => ⟨(hk2 k hk).1.trans (pk_un (by omega)), (hk2 k hk).2.trans (pk_un (by omega))⟩, ym_tr ((R6 h).1 z) go2⟩
      · obtain ⟨tk2, wt2, hk2, go2⟩ := ih (F p) i w (upd tk w (nI (F p))) (upd wt w (wt w)) gs r (by omega) (by omega) hi (by omega) pk_us (by rw [pk_us]; exact h6.2 z)
        exact ⟨tk2, wt2, fun k hk => ⟨(hk2 k hk).1.trans (pk_un (by omega)), (hk2 k hk).2.trans (pk_un (by omega))⟩, ym_tr ((R6 h).2 z) go2⟩
    · have h5 := h5 (by omega)
      obtain ⟨y, hy, hg0, hg1⟩ := R7 (Or.inl h)
      have h7 := ru_w7 wf hn hm hp hi h hr hy
      by_cases z : ru_sel (bt y) (ru_tb K F S t n (F p) i) = none
      · obtain rfl := h7.1 z
        exact ⟨tk, wt, fun _ _ => ⟨rfl, rfl⟩, by rw [ru_ov_no]; exact hg0 z⟩
      · obtain ⟨a, b, ha, hia, hb, rfl⟩ := h7.2 z
        have hbd := (ru_tb_ok (K := K) (F := F) (S := S) (t := t) (p := F p) hi).1 a (ru_sel_some ha).1
        exact ym_two ih hn (by omega) (by omega) (by omega) (by omega) hi (by omega) (by omega) ha hb (hg1 z)
    · have h5 := h5 (by omega)
      have h8 := ru_w8 wf hn hm hp hi h hr
      cases z : bt (wt w) i with
      | true =>
        obtain rfl := h8.1 z
        exact ⟨tk, wt, fun _ _ => ⟨rfl, rfl⟩, by rw [ru_ov_no]; exact R8 h z⟩
      | false =>
        obtain ⟨y, hy, hg0, hg1⟩ := R7 (Or.inr ⟨h, z⟩)
        obtain ⟨a, b, ha, hia, hb, rfl⟩ := h8.2 z y hy
        have hbd := (ru_tb_ok (K := K) (F := F) (S := S) (t := t) (p := F p) hi).1 a (ru_sel_some ha).1
        exact ym_two ih hn (by omega) (by omega) (by omega) (by omega) hi (by omega) (by omega) ha hb (hg1 (by rw [ha]; exact Option.some_ne_none a))
    · have h5 := h5 (by omega)
      obtain ⟨a, ha, rfl⟩ := ru_w9 wf hn hm hp hi h hr
      have hbd := (ru_tb_ok (K := K) (F := F) (S := S) (t := t) (p := F p) hi).1 a (ru_sel_some ha).1
      obtain ⟨u1, u2, u3⟩ := ym_u2 tk w (nI (100 + 16 * (K p - 9) + i)) (nI (F p))
      obtain ⟨v1, v2, v3⟩ := ym_u2 wt w 0 (wt w)
      obtain ⟨tk2, wt2, hk2, go2⟩ := ih (F p) i (w + 1) (upd (upd tk w (nI (100 + 16 * (K p - 9) + i))) (w + 1) (nI (F p))) (upd (upd wt w 0) (w + 1) (wt w)) gs a (by omega) (by omega) hi (by omega) u1 (by rw [v1]; exact ha)
      have e1 := hk2 w (by omega)
      refine ⟨tk2, wt2, fun k hk => ⟨(hk2 k (by omega)).1.trans (u3 k hk), (hk2 k (by omega)).2.trans (v3 k hk)⟩, ?_⟩
      rw [ru_ov_set gs a _ i (by omega)]
      exact ym_tr (R9 h) (ym_tr go2 (hG (K p - 9) i a.1 w tk2 wt2 (ru_ov gs a) (by omega) (by omega) (by omega) (by omega) (e1.1.trans u2)))
end
end
section
/-! the component: clearRuns, addRun -/
theorem xi_c11 : (11 : Int32) = nI 11 := rfl
theorem xi_c3 : (3 : Int32) = nI 3 := rfl
theorem xi_11 (s e : Nat) : nI s * 11 + nI e = nI (s * 11 + e) := by rw [xi_c11, pk_mul, nI_add]
theorem xi_3 (s e : Nat) : nI s * 3 + nI e = nI (s * 3 + e) := by rw [xi_c3, pk_mul, nI_add]
theorem xi_in {s e N : Nat} (h : s * 11 + e < N) (hN : N < 2 ^ 31) : vp_in (nI s * 11 + nI e) N := by
  rw [xi_11]
  exact vp_in_nI h hN
theorem xi_cl {s e : Nat} (h : s * 11 + e < 2 ^ 31) : (nI s * 11 + nI e).toNatClampNeg = s * 11 + e := by
  rw [xi_11]
  exact nI_clamp h
theorem xi_in3 {s e N : Nat} (h : s * 3 + e < N) (hN : N < 2 ^ 31) : vp_in (nI s * 3 + nI e) N := by
  rw [xi_3]
  exact vp_in_nI h hN
theorem xi_cl3 {s e : Nat} (h : s * 3 + e < 2 ^ 31) : (nI s * 3 + nI e).toNatClampNeg = s * 3 + e := by
  rw [xi_3]
  exact nI_clamp h
theorem xi_b0 : vp_nar .boolean 0 = 0 := by decide
theorem xi_b1 : vp_nar .boolean 1 = 1 := by decide
theorem xi_m1 {a : Nat} (h : a < 2 ^ 31) : ¬ nI a = -1 := fun e => by
  have h1 := nI_pos h
  rw [e] at h1
  exact h1 (by decide)
def xo_i : Option Nat → Int32
  | none => -1
  | some a => nI a
def xo_g (G : Nat → Int32) : Option Nat → Nat → Int32
  | none, _ => -4
  | some a, g => G (a * 3 + g)
def xo_ok (o : Option Nat) (run : Nat) : Prop := ∀ a, o = some a → a < 1936 ∧ a ≠ run
section
variable {bp he up tl : Int32} {bk bv bf bs bg st uk uv uf us tx C E B G : Nat → Int32} {post : SX → Prop}
theorem xl_c17 {s : Nat} (hs : s < 176) {B0 : Nat → Int32} : ∀ (n e : Nat) (B : Nat → Int32), 11 < n + e → e ≤ 11 → (∀ e', e' < e → B (s * 11 + e') = 0) → (∀ q, q < s * 11 ∨ s * 11 + 11 ≤ q → B q = B0 q) →
    (∀ B', (∀ e', e' < 11 → B' (s * 11 + e') = 0) → (∀ q, q < s * 11 ∨ s * 11 + 11 ≤ q → B' q = B0 q) → post (bp, he, up, tl, bk, bv, bf, bs, bg, st, uk, uv, uf, us, tx, C, E, B', G)) → wX_clearRuns_17 post (nI s) bp he up tl n (nI e) bk bv bf bs bg st uk uv uf us tx C E B G := by
  intro n
  induction n with
  | zero => intro e B h1 h2; omega
  | succ n ih =>
    intro e B h1 h2 hb hk hp
    rw [wX_clearRuns_17]
    by_cases q : e = 11
    · subst q
      exact br_t (show (11 : Int32) ≤ nI 11 from by decide) (hp B hb hk)
    · refine br_f (show ¬ (11 : Int32) ≤ nI e from nI_ge (b := 11) (by omega) (by omega)) ⟨xi_in (by omega) (by omega), nm_r (e' := upd B (s * 11 + e) 0) (by rw [xi_cl (by omega), xi_b0]) (nm_r (nI_1 e) (ih (e + 1) _ (by omega) (by omega) (fun e' he' => ?_) (fun q hq => ?_) hp))⟩
      · by_cases w : e' = e
        · rw [w, pk_us]
        · rw [pk_un (by omega)]
          exact hb e' (by omega)
      · rw [pk_un (by omega)]
        exact hk q hq
theorem xl_clear {p i : Nat} (hp : p < 16) (hi : i ≤ 10) (h : ∀ C' B', xr_Rep C' E B' G (p * 11 + i) [] → xr_fr (p * 11 + i) C E B G C' E B' G → post (bp, he, up, tl, bk, bv, bf, bs, bg, st, uk, uv, uf, us, tx, C', E, B', G)) : wpX_clearRuns post (bp, he, up, tl, bk, bv, bf, bs, bg, st, uk, uv, uf, us, tx, C, E, B, G) (nI p) (nI i) := by
  refine nm_r (e' := nI (p * 11 + i)) (xi_11 p i) ⟨vp_in_nI (by omega) (by omega), nm_r (e' := upd C (p * 11 + i) 0) (by rw [nI_clamp (by omega)]) ⟨12, ?_⟩⟩
  refine xl_c17 (C := upd C (p * 11 + i) 0) (by omega) (B0 := B) 12 0 B (by omega) (by omega) (fun e' he' => by omega) (fun q hq => rfl) (fun B' h1 h2 => ?_)
  exact h _ B' (xr_clear h1) (fun s' hs => ⟨pk_un hs, fun k hk => ⟨rfl, h2 _ (by omega), fun g hg => rfl⟩⟩)
theorem xl_ar57 {A L : Option Nat} {v G0 : Nat → Int32} {run : Nat} (hrun : run < 1936) (hA : xo_ok A run) (hL : xo_ok L run) (hv : ∀ g, g < 3 → v g = if xo_g G0 L g = -4 then xo_g G0 A g else xo_g G0 L g) :
    ∀ (n g : Nat) (G : Nat → Int32), 3 < n + g → g ≤ 3 → (∀ h, h < g → G (run * 3 + h) = v h) → (∀ q, q < run * 3 ∨ run * 3 + 3 ≤ q → G q = G0 q) →
    (∀ G', (∀ h, h < 3 → G' (run * 3 + h) = v h) → (∀ q, q < run * 3 ∨ run * 3 + 3 ≤ q → G' q = G0 q) → post (bp, he, up, tl, bk, bv, bf, bs, bg, st, uk, uv, uf, us, tx, C, E, B, G')) → wX_addRun_57 post (xo_i A) (xo_i L) (nI run) bp he up tl n (nI g) bk bv bf bs bg st uk uv uf us tx C E B G := by
  intro n
  induction n with
  | zero => intro e B h1 h2; omega
  | succ n ih =>
    intro g G h1 h2 hb hk hp
    rw [wX_addRun_57]
    by_cases q : g = 3
    · subst q
      exact br_t (show (3 : Int32) ≤ nI 3 from by decide) (hp G hb hk)
    · have hg : g < 3 := by omega
      have rd : ∀ o : Option Nat, xo_ok o run → ∀ a, o = some a → G (nI a * 3 + nI g).toNatClampNeg = xo_g G0 o g ∧ vp_in (nI a * 3 + nI g) 5808 := by
        intro o ho a ha
        have := ho a ha
        subst ha
        rw [xi_cl3 (by omega), hk _ (by omega)]
        exact ⟨rfl, xi_in3 (by omega) (by omega)⟩
      have k112 : ∀ z : Int32, z = v g → wX_addRun_112 post (wX_addRun_57 post (xo_i A) (xo_i L) (nI run) bp he up tl n) (xo_i A) (xo_i L) (nI run) (nI g) z bp he up tl bk bv bf bs bg st uk uv uf us tx C E B G := by
        intro z hz
        refine ⟨xi_in3 (by omega) (by omega), nm_r (e' := upd G (run * 3 + g) (v g)) (by rw [xi_cl3 (by omega), hz]) (nm_r (nI_1 g) (ih (g + 1) _ (by omega) (by omega) (fun e' he' => ?_) (fun q hq => ?_) hp))⟩
        · by_cases w : e' = g
          · rw [w, pk_us]
          · rw [pk_un (by omega)]
            exact hb e' (by omega)
        · rw [pk_un (by omega)]
          exact hk q hq
      have k87 : ∀ z : Int32, z = xo_g G0 L g → wX_addRun_87 post (wX_addRun_57 post (xo_i A) (xo_i L) (nI run) bp he up tl n) (xo_i A) (xo_i L) (nI run) (nI g) z bp he up tl bk bv bf bs bg st uk uv uf us tx C E B G := by
        intro z hz
        have hvg := hv g hg
        by_cases w : z = -4
        · rw [if_pos (hz ▸ w)] at hvg
          refine br_t w ?_
          cases A with
          | none => exact br_t rfl (k112 z (w.trans hvg.symm))
          | some a =>
            have ha := rd (some a) hA a rfl
            exact br_f (xi_m1 (by have := (hA a rfl).1; omega)) ⟨ha.2, fun y hy => k112 y (hy.trans (ha.1.trans hvg.symm))⟩
        · rw [if_neg (fun e => w (hz.trans e))] at hvg
          exact br_f w (k112 z (hz.trans hvg.symm))
      refine br_f (show ¬ (3 : Int32) ≤ nI g from nI_ge (b := 3) (by omega) (by omega)) ?_
      cases L with
      | none => exact br_t rfl (k87 (-4) rfl)
      | some b =>
        have hb := rd (some b) hL b rfl
        exact br_f (xi_m1 (by have := (hL b rfl).1; omega)) ⟨hb.2, fun y hy => k87 y (hy.trans hb.1)⟩
theorem xl_addRun {s i n : Nat} {l : List ru_R} {r : ru_R} {A L : Option Nat} {p1 p2 p3 : Int32} (h1 : p1 = nI r.1) (h2 : p2 = xo_i A) (h3 : p3 = xo_i L) (hs : s < 176) (hn : n ≤ 10) (ho : ru_ok i n l) (hR : xr_Rep C E B G s l) (hb : i ≤ r.1 ∧ r.1 ≤ n) (hA : xo_ok A (s * 11 + r.1)) (hL : xo_ok L (s * 11 + r.1))
    (hv : ∀ g, g < 3 → r.2 g = if xo_g G L g = -4 then xo_g G A g else xo_g G L g)
    (hp : ∀ C' E' B' G', xr_Rep C' E' B' G' s (ru_ins l r) → xr_fr s C E B G C' E' B' G' → post (bp, he, up, tl, bk, bv, bf, bs, bg, st, uk, uv, uf, us, tx, C', E', B', G')) : wpX_addRun post (bp, he, up, tl, bk, bv, bf, bs, bg, st, uk, uv, uf, us, tx, C, E, B, G) (nI s) p1 p2 p3 := by
  subst h1 h2 h3
  have hB := hR.2.2.1 r.1 (by omega)
  have cr : (nI (s * 11 + r.1)).toNatClampNeg = s * 11 + r.1 := nI_clamp (by omega)
  have cs : (nI s).toNatClampNeg = s := nI_clamp (by omega)
  have vr : vp_in (nI (s * 11 + r.1)) 1936 := vp_in_nI (by omega) (by omega)
  have vs : vp_in (nI s) 176 := vp_in_nI hs (by omega)
  refine nm_r (e' := nI (s * 11 + r.1)) (xi_11 s r.1) ⟨vr, ?_⟩
  by_cases z : ru_any l r.1 = true
  · rw [if_pos z] at hB
    refine br_f (by rw [cr, hB]; decide) (hp C E B G ?_ xr_fr_rf)
    rw [show ru_ins l r = l from if_pos z]
    exact hR
  · rw [if_neg z] at hB
    have hl := ru_len_ins ho hb z
    have hc : C (nI s).toNatClampNeg = nI l.length := by rw [cs]; exact hR.1
    refine br_t (by rw [cr, hB]) ⟨vr, nm_r (e' := upd B (s * 11 + r.1) 1) (by rw [cr, xi_b1]) ⟨vs, by rw [hc]; exact xi_in (by omega) (by omega), nm_r (e' := upd E (s * 11 + l.length) (nI r.1)) (by rw [hc, xi_cl (by omega)]) ⟨vs, vs, nm_r (e' := upd C s (nI (l.length + 1))) (by rw [hc, cs, nI_1]) ⟨4, ?_⟩⟩⟩⟩
    refine xl_ar57 (v := r.2) (G0 := G) (C := upd C s (nI (l.length + 1))) (E := upd E (s * 11 + l.length) (nI r.1)) (B := upd B (s * 11 + r.1) 1) (by omega) hA hL hv 4 0 G (by omega) (by omega) (fun h hh => by omega) (fun q hq => rfl) (fun G' h1 h2 => ?_)
    have hx := xr_ins hn ho hR hb z h1 h2
    exact hp _ _ _ G' hx.1 hx.2
end
end
section
/-! the component: addSameRuns, addRunsOfBoth, setGroup -/
section
variable {bp he up tl : Int32} {bk bv bf bs bg st uk uv uf us tx C E B G : Nat → Int32} {post : SX → Prop}
theorem xl_s10 {s f i n : Nat} {l A : List ru_R} (hs : s < 176) (hf : f < 176) (hne : f ≠ s) (hn : n ≤ 10) (ho : ru_ok i n l) (hoA : ru_ok i n A) (hA : xr_Rep C E B G f A)
    (hp : ∀ C' E' B' G', xr_Rep C' E' B' G' s (ru_add l A) → xr_fr s C E B G C' E' B' G' → post (bp, he, up, tl, bk, bv, bf, bs, bg, st, uk, uv, uf, us, tx, C', E', B', G')) :
    ∀ (d k : Nat) (C' E' B' G' : Nat → Int32), A.length < d + k → k ≤ A.length → xr_Rep C' E' B' G' s (ru_add l (A.take k)) → xr_fr s C E B G C' E' B' G' → wX_addSameRuns_10 post (nI s) (nI f) (nI A.length) d (nI k) bp he up tl bk bv bf bs bg st uk uv uf us tx C' E' B' G' := by
  have hl := ru_len hoA
  intro d
  induction d with
  | zero => intro k C' E' B' G' h1 h2; omega
  | succ d ih =>
    intro k C' E' B' G' h1 h2 hR hfr
    rw [wX_addSameRuns_10]
    by_cases q : k = A.length
    · subst q
      refine br_t (nI_le (Nat.le_refl _) (by omega)) (hp C' E' B' G' ?_ hfr)
      rw [List.take_length] at hR
      exact hR
    · obtain ⟨r, hr, hm⟩ := ru_get (A := A) (k := k) (by omega)
      have hA' := xr_keep hfr hne hoA hn hA
      have hb := hoA.1 r hm
      have hok : ru_ok i n (ru_add l (A.take k)) := ru_ok_add _ _ ho (fun x hx => hoA.1 x (List.mem_of_mem_take hx))
      refine br_f (nI_ge (by omega) (by omega)) ⟨xi_in (by omega) (by omega), nm_r (e' := nI r.1) (by rw [xi_cl (by omega)]; exact hA'.2.1 k r hr) ?_⟩
      refine xl_addRun (A := some (f * 11 + r.1)) (L := none) rfl (xi_11 f r.1) rfl hs hn hok hR hb (fun a ha => ?_) (fun a ha => (nomatch ha)) (fun g hg => ?_) (fun C2 E2 B2 G2 hR2 hfr2 => nm_r (nI_1 k) (ih (k + 1) C2 E2 B2 G2 (by omega) (by omega) ?_ (xr_fr_tr hfr hfr2)))
      · have := Option.some.inj ha
        omega
      · rw [if_pos (show xo_g G' none g = -4 from rfl)]
        exact (hA'.2.2.2 r hm g hg).symm
      · rw [ru_add_tk hr]
        exact hR2
theorem xl_same {s f i n : Nat} {l A : List ru_R} {p1 : Int32} (h1 : p1 = nI f) (hs : s < 176) (hf : f < 176) (hne : f ≠ s) (hn : n ≤ 10) (ho : ru_ok i n l) (hR : xr_Rep C E B G s l) (hoA : ru_ok i n A) (hA : xr_Rep C E B G f A)
    (hp : ∀ C' E' B' G', xr_Rep C' E' B' G' s (ru_add l A) → xr_fr s C E B G C' E' B' G' → post (bp, he, up, tl, bk, bv, bf, bs, bg, st, uk, uv, uf, us, tx, C', E', B', G')) : wpX_addSameRuns post (bp, he, up, tl, bk, bv, bf, bs, bg, st, uk, uv, uf, us, tx, C, E, B, G) (nI s) p1 := by
  subst h1
  exact ⟨vp_in_nI hf (by omega), nm_r (e' := nI A.length) (by rw [nI_clamp (by omega)]; exact hA.1) ⟨A.length + 1, xl_s10 hs hf hne hn ho hoA hA hp (A.length + 1) 0 C E B G (by omega) (by omega) hR xr_fr_rf⟩⟩
theorem xl_b64 {s f q i n : Nat} {l A D : List ru_R} {r : ru_R} {J : Int32 → Int32 → Int32 → Int32 → Int32 → (Nat → Int32) → (Nat → Int32) → (Nat → Int32) → (Nat → Int32) → (Nat → Int32) → (Nat → Int32) → (Nat → Int32) → (Nat → Int32) → (Nat → Int32) → (Nat → Int32) → (Nat → Int32) → (Nat → Int32) → (Nat → Int32) → (Nat → Int32) → (Nat → Int32) → Prop} {x3 x4 x5 : Int32} {k : Nat}
    (hs : s < 176) (hf : f < 176) (hq : q < 176) (hne : f ≠ s) (hqs : q ≠ s) (hn : n ≤ 10) (ho : ru_ok i n l) (hoA : ru_ok i n A) (hr : r ∈ A) (hA : xr_Rep C E B G f A) (hoD : ru_ok r.1 n D) (hD : xr_Rep C E B G q D)
    (hJ : ∀ C' E' B' G', xr_Rep C' E' B' G' s (ru_add l (D.map (ru_cb r))) → xr_fr s C E B G C' E' B' G' → J (nI (k + 1)) bp he up tl bk bv bf bs bg st uk uv uf us tx C' E' B' G') :
    ∀ (d j : Nat) (C' E' B' G' : Nat → Int32), D.length < d + j → j ≤ D.length → xr_Rep C' E' B' G' s (ru_add l ((D.map (ru_cb r)).take j)) → xr_fr s C E B G C' E' B' G' → wX_addRunsOfBoth_64 post J (nI s) (nI f) x3 x4 x5 (nI k) (nI r.1) (nI q) (nI D.length) d (nI j) bp he up tl bk bv bf bs bg st uk uv uf us tx C' E' B' G' := by
  have hl := ru_len hoD
  have hbr := hoA.1 r hr
  intro d
  induction d with
  | zero => intro j C' E' B' G' h1 h2; omega
  | succ d ih =>
    intro j C' E' B' G' h1 h2 hR hfr
    rw [wX_addRunsOfBoth_64]
    by_cases w : j = D.length
    · subst w
      refine br_t (nI_le (Nat.le_refl _) (by omega)) (nm_r (nI_1 k) (hJ C' E' B' G' ?_ hfr))
      rw [List.take_of_length_le (by rw [List.length_map]; omega)] at hR
      exact hR
    · obtain ⟨t, ht, hm⟩ := ru_get (A := D) (k := j) (by omega)
      have hA' := xr_keep hfr hne hoA hn hA
      have hD' := xr_keep hfr hqs hoD hn hD
      have hb := hoD.1 t hm
      have hok : ru_ok i n (ru_add l ((D.map (ru_cb r)).take j)) := ru_ok_add _ _ ho (fun x hx => by
        obtain ⟨y, hy, e⟩ := List.mem_map.mp (List.mem_of_mem_take hx)
        have h3 := hoD.1 y hy
        have h4 : x.1 = y.1 := by rw [← e]; rfl
        omega)
      have ht2 : (D.map (ru_cb r))[j]? = some (ru_cb r t) := by
        rw [List.getElem?_map, ht]
        rfl
      refine br_f (nI_ge (by omega) (by omega)) ⟨xi_in (by omega) (by omega), nm_r (e' := nI t.1) (by rw [xi_cl (by omega)]; exact hD'.2.1 j t ht) ?_⟩
      refine xl_addRun (r := ru_cb r t) (A := some (f * 11 + r.1)) (L := some (q * 11 + t.1)) rfl (xi_11 f r.1) (xi_11 q t.1) hs hn hok hR ⟨Nat.le_trans hbr.1 hb.1, hb.2⟩ (fun a ha => ?_) (fun a ha => ?_) (fun g hg => ?_) (fun C2 E2 B2 G2 hR2 hfr2 => nm_r (nI_1 j) (ih (j + 1) C2 E2 B2 G2 (by omega) (by omega) ?_ (xr_fr_tr hfr hfr2)))
      · have := Option.some.inj ha
        have h3 : (ru_cb r t).1 = t.1 := rfl
        omega
      · have := Option.some.inj ha
        have h3 : (ru_cb r t).1 = t.1 := rfl
        omega
      · show (if t.2 g = -4 then r.2 g else t.2 g) = if G' ((q * 11 + t.1) * 3 + g) = -4 then G' ((f * 11 + r.1) * 3 + g) else G' ((q * 11 + t.1) * 3 + g)
        rw [hA'.2.2.2 r hr g hg, hD'.2.2.2 t hm g hg]
      · rw [ru_add_tk ht2]
        exact hR2
theorem xl_b11 {s f q i n lo : Nat} {l A : List ru_R} {T : Nat → List ru_R} (hs : s < 176) (hf : f < 176) (hq : q < 16) (hne : f ≠ s) (hn : n ≤ 10) (hlo : lo ≤ 11) (ho : ru_ok i n l) (hoA : ru_ok i n A) (hA : xr_Rep C E B G f A)
    (hT : ∀ k, lo ≤ k → k ≤ n → q * 11 + k ≠ s ∧ ru_ok k n (T k) ∧ xr_Rep C E B G (q * 11 + k) (T k)) (hT0 : ∀ k, k ≤ n → ru_ok k n (T k))
    (hp : ∀ C' E' B' G', xr_Rep C' E' B' G' s (ru_add l (ru_both A T lo)) → xr_fr s C E B G C' E' B' G' → post (bp, he, up, tl, bk, bv, bf, bs, bg, st, uk, uv, uf, us, tx, C', E', B', G')) :
    ∀ (d k : Nat) (C' E' B' G' : Nat → Int32), A.length < d + k → k ≤ A.length → xr_Rep C' E' B' G' s (ru_add l (ru_both (A.take k) T lo)) → xr_fr s C E B G C' E' B' G' → wX_addRunsOfBoth_11 post (nI s) (nI f) (nI q) (nI lo) (nI A.length) d (nI k) bp he up tl bk bv bf bs bg st uk uv uf us tx C' E' B' G' := by
  have hl := ru_len hoA
  intro d
  induction d with
  | zero => intro k C' E' B' G' h1 h2; omega
  | succ d ih =>
    intro k C' E' B' G' h1 h2 hR hfr
    rw [wX_addRunsOfBoth_11]
    by_cases w : k = A.length
    · subst w
      refine br_t (nI_le (Nat.le_refl _) (by omega)) (hp C' E' B' G' ?_ hfr)
      rw [List.take_length] at hR
      exact hR
    · obtain ⟨r, hr, hm⟩ := ru_get (A := A) (k := k) (by omega)
      have hA' := xr_keep hfr hne hoA hn hA
      have hb := hoA.1 r hm
      have hok : ru_ok i n (ru_add l (ru_both (A.take k) T lo)) := ru_ok_add _ _ ho (fun x hx => by
        obtain ⟨a, ha, _, b, hb2, e⟩ := ru_both_mem hx
        have h3 := hoA.1 a (List.mem_of_mem_take ha)
        have h4 := (hT0 a.1 h3.2).1 b hb2
        have h5 : x.1 = b.1 := by rw [e]; rfl
        omega)
      refine br_f (nI_ge (by omega) (by omega)) ⟨xi_in (by omega) (by omega), nm_r (e' := nI r.1) (by rw [xi_cl (by omega)]; exact hA'.2.1 k r hr) (nm_r (e' := nI (q * 11 + r.1)) (xi_11 q r.1) ?_)⟩
      by_cases z : lo ≤ r.1
      · obtain ⟨g1, g2, g3⟩ := hT r.1 z hb.2
        have g3' := xr_keep hfr g1 g2 hn g3
        refine br_f (nI_nlt z (by omega)) ⟨vp_in_nI (by omega) (by omega), nm_r (e' := nI (T r.1).length) (by rw [nI_clamp (by omega)]; exact g3'.1) ⟨(T r.1).length + 1, ?_⟩⟩
        refine xl_b64 hs hf (by omega) hne g1 hn hok hoA hm hA' g2 g3' (fun C2 E2 B2 G2 hR2 hfr2 => ih (k + 1) C2 E2 B2 G2 (by omega) (by omega) ?_ (xr_fr_tr hfr hfr2)) ((T r.1).length + 1) 0 C' E' B' G' (by omega) (by omega) hR xr_fr_rf
        rw [ru_both_tk hr, if_pos z, ru_add_app]
        exact hR2
      · refine br_t (nI_lt (by omega) (by omega)) ⟨1, ?_⟩
        rw [wX_addRunsOfBoth_64]
        refine br_t (by decide) (nm_r (nI_1 k) (ih (k + 1) C' E' B' G' (by omega) (by omega) ?_ hfr))
        rw [ru_both_tk hr, if_neg z, List.append_nil]
        exact hR
theorem xl_both {s f q i n lo : Nat} {l A : List ru_R} {T : Nat → List ru_R} {p1 p2 p3 : Int32} (e1 : p1 = nI f) (e2 : p2 = nI q) (e3 : p3 = nI lo) (hs : s < 176) (hf : f < 176) (hq : q < 16) (hne : f ≠ s) (hn : n ≤ 10) (hlo : lo ≤ 11) (ho : ru_ok i n l) (hR : xr_Rep C E B G s l) (hoA : ru_ok i n A) (hA : xr_Rep C E B G f A)
    (hT : ∀ k, lo ≤ k → k ≤ n → q * 11 + k ≠ s ∧ ru_ok k n (T k) ∧ xr_Rep C E B G (q * 11 + k) (T k)) (hT0 : ∀ k, k ≤ n → ru_ok k n (T k))
    (hp : ∀ C' E' B' G', xr_Rep C' E' B' G' s (ru_add l (ru_both A T lo)) → xr_fr s C E B G C' E' B' G' → post (bp, he, up, tl, bk, bv, bf, bs, bg, st, uk, uv, uf, us, tx, C', E', B', G')) : wpX_addRunsOfBoth post (bp, he, up, tl, bk, bv, bf, bs, bg, st, uk, uv, uf, us, tx, C, E, B, G) (nI s) p1 p2 p3 := by
  subst e1 e2 e3
  exact ⟨vp_in_nI hf (by omega), nm_r (e' := nI A.length) (by rw [nI_clamp (by omega)]; exact hA.1) ⟨A.length + 1, xl_b11 hs hf hq hne hn hlo ho hoA hA hT hT0 hp (A.length + 1) 0 C E B G (by omega) (by omega) hR xr_fr_rf⟩⟩
theorem xl_g11 {s g0 i n : Nat} {l : List ru_R} {G0 : Nat → Int32} (hs : s < 176) (hg0 : g0 < 3) (hn : n ≤ 10) (hi : i ≤ 10) (ho : ru_ok i n l) (hE : ∀ k r, l[k]? = some r → E (s * 11 + k) = nI r.1)
    (hp : ∀ G', (∀ e, e < 11 → ∀ h, h < 3 → G' ((s * 11 + e) * 3 + h) = if h = g0 ∧ ru_any l e = true then nI (16 * i + e) else G0 ((s * 11 + e) * 3 + h)) → (∀ q, q < s * 33 ∨ s * 33 + 33 ≤ q → G' q = G0 q) → post (bp, he, up, tl, bk, bv, bf, bs, bg, st, uk, uv, uf, us, tx, C, E, B, G')) :
    ∀ (d k : Nat) (G : Nat → Int32), l.length < d + k → k ≤ l.length → (∀ e, e < 11 → ∀ h, h < 3 → G ((s * 11 + e) * 3 + h) = if h = g0 ∧ ru_any (l.take k) e = true then nI (16 * i + e) else G0 ((s * 11 + e) * 3 + h)) → (∀ q, q < s * 33 ∨ s * 33 + 33 ≤ q → G q = G0 q) → wX_setGroup_11 post (nI s) (nI g0) (nI i) (nI l.length) bp he up tl d (nI k) bk bv bf bs bg st uk uv uf us tx C E B G := by
  have hl := ru_len ho
  intro d
  induction d with
  | zero => intro k G h1 h2; omega
  | succ d ih =>
    intro k G h1 h2 hG hk
    rw [wX_setGroup_11]
    by_cases w : k = l.length
    · subst w
      rw [List.take_length] at hG
      exact br_t (nI_le (Nat.le_refl _) (by omega)) (hp G hG hk)
    · obtain ⟨r, hr, hm⟩ := ru_get (A := l) (k := k) (by omega)
      have hb := ho.1 r hm
      have ei : (nI s * 11 + nI r.1) * 3 + nI g0 = nI ((s * 11 + r.1) * 3 + g0) := by rw [xi_11, xi_3]
      have ev : (16 : Int32) * nI i + nI r.1 = nI (16 * i + r.1) := by rw [show (16 : Int32) = nI 16 from rfl, pk_mul, nI_add]
      refine br_f (nI_ge (by omega) (by omega)) ⟨xi_in (by omega) (by omega), nm_r (e' := nI r.1) (by rw [xi_cl (by omega)]; exact hE k r hr) ⟨by rw [ei]; exact vp_in_nI (by omega) (by omega), nm_r (e' := upd G ((s * 11 + r.1) * 3 + g0) (nI (16 * i + r.1))) (by rw [ei, ev, nI_clamp (by omega)]) (nm_r (nI_1 k) (ih (k + 1) _ (by omega) (by omega) (fun e he h hh => ?_) (fun q hq => ?_)))⟩⟩
      · rw [ru_take hr, ru_any_app, ru_any_one]
        by_cases c : (s * 11 + e) * 3 + h = (s * 11 + r.1) * 3 + g0
        · have c1 : h = g0 := by omega
          have c2 : e = r.1 := by omega
          rw [c, pk_us, if_pos ⟨c1, by rw [c2]; simp⟩, c2]
        · rw [pk_un c, hG e he h hh]
          by_cases c1 : h = g0
          · have c2 : r.1 ≠ e := by omega
            rw [beq_eq_false_iff_ne.mpr c2, Bool.or_false]
          · rw [if_neg (fun q => c1 q.1), if_neg (fun q => c1 q.1)]
      · rw [pk_un (by omega)]
        exact hk q hq
theorem xl_setg {s g0 i n : Nat} {l : List ru_R} {p1 : Int32} (e1 : p1 = nI g0) (hs : s < 176) (hg0 : g0 < 3) (hn : n ≤ 10) (hi : i ≤ 10) (ho : ru_ok i n l) (hR : xr_Rep C E B G s l)
    (hp : ∀ G', xr_Rep C E B G' s (l.map (ru_set g0 i)) → xr_fr s C E B G C E B G' → post (bp, he, up, tl, bk, bv, bf, bs, bg, st, uk, uv, uf, us, tx, C, E, B, G')) : wpX_setGroup post (bp, he, up, tl, bk, bv, bf, bs, bg, st, uk, uv, uf, us, tx, C, E, B, G) (nI s) p1 (nI i) := by
  subst e1
  have hl := ru_len ho
  refine ⟨vp_in_nI hs (by omega), nm_r (e' := nI l.length) (by rw [nI_clamp (by omega)]; exact hR.1) ⟨l.length + 1, xl_g11 (G0 := G) hs hg0 hn hi ho hR.2.1 (fun G' h1 h2 => hp G' (xr_setg hn ho hR h1) (fun s' hs' => ⟨rfl, fun k hk => ⟨rfl, rfl, fun g hg => h2 _ (by omega)⟩⟩)) (l.length + 1) 0 G (by omega) (by omega) (fun e he h hh => ?_) (fun q hq => rfl)⟩⟩
  rw [List.take_zero, if_neg (fun q => Bool.noConfusion q.2)]
end
end
section
/-! the component: addRuns, fillTables -/
def pc_k (k : Nat) : Nat := if k < 3 then 0 else if k ≤ 8 then k - 2 else 7
def pc_v (k : Nat) : Nat := if k < 3 then k else if 9 ≤ k then k - 9 else 0
def pc_ok (K F S : Nat → Nat) (p : Nat) (uk uv uf us : Nat → Int32) : Prop :=
  uk p = nI (pc_k (K p)) ∧ uv p = nI (pc_v (K p)) ∧ (5 ≤ K p → uf p = nI (F p)) ∧ (K p = 5 ∨ K p = 6 → us p = nI (S p))
def xf_low (C E B G : Nat → Int32) (T : Nat → Nat → List ru_R) (n p i : Nat) : Prop :=
  (∀ q, q < p → ∀ j, j ≤ n → xr_Rep C E B G (q * 11 + j) (T q j)) ∧ (∀ j, i < j → j ≤ n → xr_Rep C E B G (p * 11 + j) (T p j))
section
variable {bp he up tl : Int32} {bk bv bf bs bg st uk uv uf us tx C E B G : Nat → Int32} {post : SX → Prop}
theorem xl_ones {p i n e : Nat} {p1 : Int32} (e1 : p1 = nI e) (hp16 : p < 16) (hi : i ≤ n) (hn : n ≤ 10) (hb : i ≤ e ∧ e ≤ n) {l : List ru_R} (ho : ru_ok i n l) (hR : xr_Rep C E B G (p * 11 + i) l)
    (hp : ∀ C' E' B' G', xr_Rep C' E' B' G' (p * 11 + i) (ru_add l [(e, ru_no)]) → xr_fr (p * 11 + i) C E B G C' E' B' G' → post (bp, he, up, tl, bk, bv, bf, bs, bg, st, uk, uv, uf, us, tx, C', E', B', G')) : wpX_addRun post (bp, he, up, tl, bk, bv, bf, bs, bg, st, uk, uv, uf, us, tx, C, E, B, G) (nI (p * 11 + i)) p1 (-1) (-1) :=
  xl_addRun (r := (e, ru_no)) (A := none) (L := none) e1 rfl rfl (by omega) hn ho hR hb (fun a ha => (nomatch ha)) (fun a ha => (nomatch ha)) (fun g hg => rfl) hp
theorem xa_0 {K F S : Nat → Nat} {n m p i : Nat} (wf : ru_wf K F S m) (hm : m ≤ 16) (hpm : p < m) (hi : i ≤ n) (hn : n ≤ 10) (h : K p < 3) (hk : pc_ok K F S p uk uv uf us) (hR : xr_Rep C E B G (p * 11 + i) [])
    (hp : ∀ C' E' B' G', xr_Rep C' E' B' G' (p * 11 + i) (ru_tb K F S tx n p i) → xr_fr (p * 11 + i) C E B G C' E' B' G' → post (bp, he, up, nI n, bk, bv, bf, bs, bg, st, uk, uv, uf, us, tx, C', E', B', G')) : wpX_addRuns post (bp, he, up, nI n, bk, bv, bf, bs, bg, st, uk, uv, uf, us, tx, C, E, B, G) (nI p) (nI i) := by
  have cp : (nI p).toNatClampNeg = p := nI_clamp (by omega)
  have ci : (nI i).toNatClampNeg = i := nI_clamp (by omega)
  have vp : vp_in (nI p) 16 := vp_in_nI (by omega) (by omega)
  have ek : uk p = 0 := by rw [hk.1, show pc_k (K p) = 0 from if_pos h]; rfl
  have ev : uv p = nI (K p) := by rw [hk.2.1, show pc_v (K p) = K p from if_pos h]
  rw [ru_tb_eq wf hn hm hpm hi, ru_st0 h] at hp
  refine nm_r (e' := nI (p * 11 + i)) (xi_11 p i) ⟨vp, nm_r (e' := uf p) (by rw [cp]) ⟨vp, nm_r (e' := us p) (by rw [cp]) ⟨vp, nm_r (e' := 0) (by rw [cp, ek]) (br_f (by decide) (br_f (by decide) (br_t rfl ?_)))⟩⟩⟩
  by_cases z : i < n
  · refine br_f (nI_ge z (by omega)) ⟨vp_in_nI (by omega) (by omega), vp, ?_⟩
    rw [cp, ci, ev]
    refine br_c (fun q => ?_) (fun q => ?_)
    · rw [if_pos ⟨z, q⟩] at hp
      exact xl_ones (nI_1 i) (by omega) hi hn ⟨by omega, by omega⟩ (ru_ok_nil i n) hR hp
    · rw [if_neg (fun w => q w.2)] at hp
      exact hp C E B G hR xr_fr_rf
  · rw [if_neg (fun w => z w.1)] at hp
    exact br_t (nI_le (by omega) (by omega)) (hp C E B G hR xr_fr_rf)
theorem xa_3 {K F S : Nat → Nat} {n m p i : Nat} (wf : ru_wf K F S m) (hm : m ≤ 16) (hpm : p < m) (hi : i ≤ n) (hn : n ≤ 10) (h : K p = 3) (hk : pc_ok K F S p uk uv uf us) (hR : xr_Rep C E B G (p * 11 + i) [])
    (hp : ∀ C' E' B' G', xr_Rep C' E' B' G' (p * 11 + i) (ru_tb K F S tx n p i) → xr_fr (p * 11 + i) C E B G C' E' B' G' → post (bp, he, up, nI n, bk, bv, bf, bs, bg, st, uk, uv, uf, us, tx, C', E', B', G')) : wpX_addRuns post (bp, he, up, nI n, bk, bv, bf, bs, bg, st, uk, uv, uf, us, tx, C, E, B, G) (nI p) (nI i) := by
  have cp : (nI p).toNatClampNeg = p := nI_clamp (by omega)
  have vp : vp_in (nI p) 16 := vp_in_nI (by omega) (by omega)
  have ek : uk p = 1 := by rw [hk.1, h]; rfl
  rw [ru_tb_eq wf hn hm hpm hi, ru_st3 h] at hp
  refine nm_r (e' := nI (p * 11 + i)) (xi_11 p i) ⟨vp, nm_r (e' := uf p) (by rw [cp]) ⟨vp, nm_r (e' := us p) (by rw [cp]) ⟨vp, nm_r (e' := 1) (by rw [cp, ek]) (br_f (by decide) (br_f (by decide) (br_f (by decide) (br_t rfl ?_))))⟩⟩⟩
  by_cases z : i < n
  · rw [if_pos z] at hp
    exact br_f (nI_ge z (by omega)) (xl_ones (nI_1 i) (by omega) hi hn ⟨by omega, by omega⟩ (ru_ok_nil i n) hR hp)
  · rw [if_neg z] at hp
    exact br_t (nI_le (by omega) (by omega)) (hp C E B G hR xr_fr_rf)
theorem xa_4 {K F S : Nat → Nat} {n m p i : Nat} (wf : ru_wf K F S m) (hm : m ≤ 16) (hpm : p < m) (hi : i ≤ n) (hn : n ≤ 10) (h : K p = 4) (hk : pc_ok K F S p uk uv uf us) (hR : xr_Rep C E B G (p * 11 + i) [])
    (hp : ∀ C' E' B' G', xr_Rep C' E' B' G' (p * 11 + i) (ru_tb K F S tx n p i) → xr_fr (p * 11 + i) C E B G C' E' B' G' → post (bp, he, up, nI n, bk, bv, bf, bs, bg, st, uk, uv, uf, us, tx, C', E', B', G')) : wpX_addRuns post (bp, he, up, nI n, bk, bv, bf, bs, bg, st, uk, uv, uf, us, tx, C, E, B, G) (nI p) (nI i) := by
  have cp : (nI p).toNatClampNeg = p := nI_clamp (by omega)
  have vp : vp_in (nI p) 16 := vp_in_nI (by omega) (by omega)
  have ek : uk p = 2 := by rw [hk.1, h]; rfl
  rw [ru_tb_eq wf hn hm hpm hi, ru_st4 h] at hp
  refine nm_r (e' := nI (p * 11 + i)) (xi_11 p i) ⟨vp, nm_r (e' := uf p) (by rw [cp]) ⟨vp, nm_r (e' := us p) (by rw [cp]) ⟨vp, nm_r (e' := 2) (by rw [cp, ek]) (br_f (by decide) (br_f (by decide) (br_f (by decide) (br_f (by decide) (br_t rfl ?_)))))⟩⟩⟩
  exact xl_ones rfl (by omega) hi hn ⟨by omega, by omega⟩ (ru_ok_nil i n) hR hp
theorem xa_5 {K F S : Nat → Nat} {n m p i : Nat} (wf : ru_wf K F S m) (hm : m ≤ 16) (hpm : p < m) (hi : i ≤ n) (hn : n ≤ 10) (h : K p = 5) (hk : pc_ok K F S p uk uv uf us) (hlow : xf_low C E B G (ru_tb K F S tx n) n p i) (hR : xr_Rep C E B G (p * 11 + i) [])
    (hp : ∀ C' E' B' G', xr_Rep C' E' B' G' (p * 11 + i) (ru_tb K F S tx n p i) → xr_fr (p * 11 + i) C E B G C' E' B' G' → post (bp, he, up, nI n, bk, bv, bf, bs, bg, st, uk, uv, uf, us, tx, C', E', B', G')) : wpX_addRuns post (bp, he, up, nI n, bk, bv, bf, bs, bg, st, uk, uv, uf, us, tx, C, E, B, G) (nI p) (nI i) := by
  have cp : (nI p).toNatClampNeg = p := nI_clamp (by omega)
  have vp : vp_in (nI p) 16 := vp_in_nI (by omega) (by omega)
  have ek : uk p = 3 := by rw [hk.1, h]; rfl
  have h5 := (wf p hpm).2 (by omega)
  rw [ru_tb_eq wf hn hm hpm hi, ru_st5 h] at hp
  refine nm_r (e' := nI (p * 11 + i)) (xi_11 p i) ⟨vp, nm_r (e' := nI (F p)) (by rw [cp]; exact hk.2.2.1 (by omega)) ⟨vp, nm_r (e' := nI (S p)) (by rw [cp]; exact hk.2.2.2 (by omega)) ⟨vp, nm_r (e' := 3) (by rw [cp, ek]) (br_f (by decide) (br_f (by decide) (br_f (by decide) (br_f (by decide) (br_f (by decide) (br_t rfl ?_))))))⟩⟩⟩
  exact xl_both (xi_11 (F p) i) rfl rfl (by omega) (by omega) (by omega) (by omega) hn (by omega) (ru_ok_nil i n) hR (ru_tb_ok hi) (hlow.1 (F p) h5.1 i hi) (fun k hk1 hk2 => ⟨by omega, ru_tb_ok hk2, hlow.1 (S p) h5.2 k hk2⟩) (fun k hk2 => ru_tb_ok hk2) hp
theorem xa_6 {K F S : Nat → Nat} {n m p i : Nat} (wf : ru_wf K F S m) (hm : m ≤ 16) (hpm : p < m) (hi : i ≤ n) (hn : n ≤ 10) (h : K p = 6) (hk : pc_ok K F S p uk uv uf us) (hlow : xf_low C E B G (ru_tb K F S tx n) n p i) (hR : xr_Rep C E B G (p * 11 + i) [])
    (hp : ∀ C' E' B' G', xr_Rep C' E' B' G' (p * 11 + i) (ru_tb K F S tx n p i) → xr_fr (p * 11 + i) C E B G C' E' B' G' → post (bp, he, up, nI n, bk, bv, bf, bs, bg, st, uk, uv, uf, us, tx, C', E', B', G')) : wpX_addRuns post (bp, he, up, nI n, bk, bv, bf, bs, bg, st, uk, uv, uf, us, tx, C, E, B, G) (nI p) (nI i) := by
  have cp : (nI p).toNatClampNeg = p := nI_clamp (by omega)
  have vp : vp_in (nI p) 16 := vp_in_nI (by omega) (by omega)
  have ek : uk p = 4 := by rw [hk.1, h]; rfl
  have h5 := (wf p hpm).2 (by omega)
  rw [ru_tb_eq wf hn hm hpm hi, ru_st6 h] at hp
  refine nm_r (e' := nI (p * 11 + i)) (xi_11 p i) ⟨vp, nm_r (e' := nI (F p)) (by rw [cp]; exact hk.2.2.1 (by omega)) ⟨vp, nm_r (e' := nI (S p)) (by rw [cp]; exact hk.2.2.2 (by omega)) ⟨vp, nm_r (e' := 4) (by rw [cp, ek]) (br_f (by decide) (br_f (by decide) (br_f (by decide) (br_f (by decide) (br_f (by decide) (br_f (by decide) (br_t rfl ?_)))))))⟩⟩⟩
  exact xl_same (xi_11 (F p) i) (by omega) (by omega) (by omega) hn (ru_ok_nil i n) hR (ru_tb_ok hi) (hlow.1 (F p) h5.1 i hi) (fun C' E' B' G' hR' hfr' =>
    xl_same (xi_11 (S p) i) (by omega) (by omega) (by omega) hn (ru_ok_add _ _ (ru_ok_nil i n) (ru_tb_ok hi).1) hR' (ru_tb_ok hi) (xr_keep hfr' (by omega) (ru_tb_ok hi) hn (hlow.1 (S p) h5.2 i hi)) (fun C2 E2 B2 G2 hR2 hfr2 => hp C2 E2 B2 G2 hR2 (xr_fr_tr hfr' hfr2)))
theorem xa_7 {K F S : Nat → Nat} {n m p i : Nat} (wf : ru_wf K F S m) (hm : m ≤ 16) (hpm : p < m) (hi : i ≤ n) (hn : n ≤ 10) (h : K p = 7) (hk : pc_ok K F S p uk uv uf us) (hlow : xf_low C E B G (ru_tb K F S tx n) n p i) (hR : xr_Rep C E B G (p * 11 + i) [])
    (hp : ∀ C' E' B' G', xr_Rep C' E' B' G' (p * 11 + i) (ru_tb K F S tx n p i) → xr_fr (p * 11 + i) C E B G C' E' B' G' → post (bp, he, up, nI n, bk, bv, bf, bs, bg, st, uk, uv, uf, us, tx, C', E', B', G')) : wpX_addRuns post (bp, he, up, nI n, bk, bv, bf, bs, bg, st, uk, uv, uf, us, tx, C, E, B, G) (nI p) (nI i) := by
  have cp : (nI p).toNatClampNeg = p := nI_clamp (by omega)
  have vp : vp_in (nI p) 16 := vp_in_nI (by omega) (by omega)
  have ek : uk p = 5 := by rw [hk.1, h]; rfl
  have h5 := (wf p hpm).2 (by omega)
  rw [ru_tb_eq wf hn hm hpm hi, ru_st7 h] at hp
  refine nm_r (e' := nI (p * 11 + i)) (xi_11 p i) ⟨vp, nm_r (e' := nI (F p)) (by rw [cp]; exact hk.2.2.1 (by omega)) ⟨vp, nm_r (e' := us p) (by rw [cp]) ⟨vp, nm_r (e' := 5) (by rw [cp, ek]) (br_f (by decide) (br_f (by decide) (br_f (by decide) (br_f (by decide) (br_f (by decide) (br_f (by decide) (br_f (by decide) (br_t rfl ?_))))))))⟩⟩⟩
  exact xl_both (xi_11 (F p) i) rfl (nI_1 i) (by omega) (by omega) (by omega) (by omega) hn (by omega) (ru_ok_nil i n) hR (ru_tb_ok hi) (hlow.1 (F p) h5.1 i hi) (fun k hk1 hk2 => ⟨by omega, ru_tb_ok hk2, hlow.2 k (by omega) hk2⟩) (fun k hk2 => ru_tb_ok hk2) (fun C' E' B' G' hR' hfr' =>
    xl_ones rfl (by omega) hi hn ⟨by omega, by omega⟩ (ru_ok_add _ _ (ru_ok_nil i n) (ru_both_bd (ru_tb_ok hi) (fun k hk2 => ru_tb_ok hk2))) hR' (fun C2 E2 B2 G2 hR2 hfr2 => hp C2 E2 B2 G2 hR2 (xr_fr_tr hfr' hfr2)))
theorem xa_8 {K F S : Nat → Nat} {n m p i : Nat} (wf : ru_wf K F S m) (hm : m ≤ 16) (hpm : p < m) (hi : i ≤ n) (hn : n ≤ 10) (h : K p = 8) (hk : pc_ok K F S p uk uv uf us) (hlow : xf_low C E B G (ru_tb K F S tx n) n p i) (hR : xr_Rep C E B G (p * 11 + i) [])
    (hp : ∀ C' E' B' G', xr_Rep C' E' B' G' (p * 11 + i) (ru_tb K F S tx n p i) → xr_fr (p * 11 + i) C E B G C' E' B' G' → post (bp, he, up, nI n, bk, bv, bf, bs, bg, st, uk, uv, uf, us, tx, C', E', B', G')) : wpX_addRuns post (bp, he, up, nI n, bk, bv, bf, bs, bg, st, uk, uv, uf, us, tx, C, E, B, G) (nI p) (nI i) := by
  have cp : (nI p).toNatClampNeg = p := nI_clamp (by omega)
  have vp : vp_in (nI p) 16 := vp_in_nI (by omega) (by omega)
  have ek : uk p = 6 := by rw [hk.1, h]; rfl
  have h5 := (wf p hpm).2 (by omega)
  rw [ru_tb_eq wf hn hm hpm hi, ru_st8 h] at hp
  refine nm_r (e' := nI (p * 11 + i)) (xi_11 p i) ⟨vp, nm_r (e' := nI (F p)) (by rw [cp]; exact hk.2.2.1 (by omega)) ⟨vp, nm_r (e' := us p) (by rw [cp]) ⟨vp, nm_r (e' := 6) (by rw [cp, ek]) (br_f (by decide) (br_f (by decide) (br_f (by decide) (br_f (by decide) (br_f (by decide) (br_f (by decide) (br_f (by decide) (br_f (by decide) (br_t rfl ?_)))))))))⟩⟩⟩
  exact xl_ones rfl (by omega) hi hn ⟨by omega, by omega⟩ (ru_ok_nil i n) hR (fun C' E' B' G' hR' hfr' =>
    xl_both (xi_11 (F p) i) rfl (nI_1 i) (by omega) (by omega) (by omega) (by omega) hn (by omega) (ru_ok_add _ _ (ru_ok_nil i n) (ru_one_bd ⟨by omega, by omega⟩)) hR' (ru_tb_ok hi) (xr_keep hfr' (by omega) (ru_tb_ok hi) hn (hlow.1 (F p) h5.1 i hi)) (fun k hk1 hk2 => ⟨by omega, ru_tb_ok hk2, xr_keep hfr' (by omega) (ru_tb_ok hk2) hn (hlow.2 k (by omega) hk2)⟩) (fun k hk2 => ru_tb_ok hk2) (fun C2 E2 B2 G2 hR2 hfr2 => hp C2 E2 B2 G2 hR2 (xr_fr_tr hfr' hfr2)))
theorem xa_9 {K F S : Nat → Nat} {n m p i : Nat} (wf : ru_wf K F S m) (hm : m ≤ 16) (hpm : p < m) (hi : i ≤ n) (hn : n ≤ 10) (h : 9 ≤ K p) (hk : pc_ok K F S p uk uv uf us) (hlow : xf_low C E B G (ru_tb K F S tx n) n p i) (hR : xr_Rep C E B G (p * 11 + i) [])
    (hp : ∀ C' E' B' G', xr_Rep C' E' B' G' (p * 11 + i) (ru_tb K F S tx n p i) → xr_fr (p * 11 + i) C E B G C' E' B' G' → post (bp, he, up, nI n, bk, bv, bf, bs, bg, st, uk, uv, uf, us, tx, C', E', B', G')) : wpX_addRuns post (bp, he, up, nI n, bk, bv, bf, bs, bg, st, uk, uv, uf, us, tx, C, E, B, G) (nI p) (nI i) := by
  have cp : (nI p).toNatClampNeg = p := nI_clamp (by omega)
  have vp : vp_in (nI p) 16 := vp_in_nI (by omega) (by omega)
  have ek : uk p = 7 := by
    rw [hk.1, show pc_k (K p) = 7 from by unfold pc_k; rw [if_neg (by omega), if_neg (by omega)]]
    rfl
  have ev : uv p = nI (K p - 9) := by rw [hk.2.1, show pc_v (K p) = K p - 9 from by unfold pc_v; rw [if_neg (by omega), if_pos h]]
  have h5 := (wf p hpm).2 (by omega)
  have hK := (wf p hpm).1
  rw [ru_tb_eq wf hn hm hpm hi, ru_st9 h] at hp
  refine nm_r (e' := nI (p * 11 + i)) (xi_11 p i) ⟨vp, nm_r (e' := nI (F p)) (by rw [cp]; exact hk.2.2.1 (by omega)) ⟨vp, nm_r (e' := us p) (by rw [cp]) ⟨vp, nm_r (e' := 7) (by rw [cp, ek]) (br_f (by decide) (br_f (by decide) (br_f (by decide) (br_f (by decide) (br_f (by decide) (br_f (by decide) (br_f (by decide) (br_f (by decide) (br_f (by decide) (br_t rfl ?_))))))))))⟩⟩⟩
  exact xl_same (xi_11 (F p) i) (by omega) (by omega) (by omega) hn (ru_ok_nil i n) hR (ru_tb_ok hi) (hlow.1 (F p) h5.1 i hi) (fun C' E' B' G' hR' hfr' =>
    ⟨vp, xl_setg (by rw [cp, ev]) (by omega) (by omega) hn (by omega) (ru_ok_add _ _ (ru_ok_nil i n) (ru_tb_ok hi).1) hR' (fun G2 hR2 hfr2 => hp C' E' B' G2 hR2 (xr_fr_tr hfr' hfr2))⟩)
theorem xl_addRuns {K F S : Nat → Nat} {n m p i : Nat} (wf : ru_wf K F S m) (hm : m ≤ 16) (hpm : p < m) (hi : i ≤ n) (hn : n ≤ 10) (hk : pc_ok K F S p uk uv uf us) (hlow : xf_low C E B G (ru_tb K F S tx n) n p i) (hR : xr_Rep C E B G (p * 11 + i) [])
    (hp : ∀ C' E' B' G', xr_Rep C' E' B' G' (p * 11 + i) (ru_tb K F S tx n p i) → xr_fr (p * 11 + i) C E B G C' E' B' G' → post (bp, he, up, nI n, bk, bv, bf, bs, bg, st, uk, uv, uf, us, tx, C', E', B', G')) : wpX_addRuns post (bp, he, up, nI n, bk, bv, bf, bs, bg, st, uk, uv, uf, us, tx, C, E, B, G) (nI p) (nI i) := by
  rcases ru_kc (K p) with h | h | h | h | h | h | h | h
  · exact xa_0 wf hm hpm hi hn h hk hR hp
  · exact xa_3 wf hm hpm hi hn h hk hR hp
  · exact xa_4 wf hm hpm hi hn h hk hR hp
  · exact xa_5 wf hm hpm hi hn h hk hlow hR hp
  · exact xa_6 wf hm hpm hi hn h hk hlow hR hp
  · exact xa_7 wf hm hpm hi hn h hk hlow hR hp
  · exact xa_8 wf hm hpm hi hn h hk hlow hR hp
  · exact xa_9 wf hm hpm hi hn h hk hlow hR hp
theorem xl_f15 {K F S : Nat → Nat} {n m p : Nat} {J : Int32 → Int32 → Int32 → Int32 → Int32 → (Nat → Int32) → (Nat → Int32) → (Nat → Int32) → (Nat → Int32) → (Nat → Int32) → (Nat → Int32) → (Nat → Int32) → (Nat → Int32) → (Nat → Int32) → (Nat → Int32) → (Nat → Int32) → (Nat → Int32) → (Nat → Int32) → (Nat → Int32) → (Nat → Int32) → Prop}
    (wf : ru_wf K F S m) (hm : m ≤ 16) (hpm : p < m) (hn : n ≤ 10) (hk : pc_ok K F S p uk uv uf us)
    (hJ : ∀ C' E' B' G', (∀ q, q < p + 1 → ∀ j, j ≤ n → xr_Rep C' E' B' G' (q * 11 + j) (ru_tb K F S tx n q j)) → J (nI (p + 1)) bp he up (nI n) bk bv bf bs bg st uk uv uf us tx C' E' B' G') :
    ∀ (d : Nat) (C E B G : Nat → Int32), d ≤ n + 1 → (∀ q, q < p → ∀ j, j ≤ n → xr_Rep C E B G (q * 11 + j) (ru_tb K F S tx n q j)) → (∀ j, d ≤ j → j ≤ n → xr_Rep C E B G (p * 11 + j) (ru_tb K F S tx n p j)) → wX_fillTables_15 post J (nI p) (d + 1) (nI d + (-1)) bp he up (nI n) bk bv bf bs bg st uk uv uf us tx C E B G := by
  intro d
  induction d with
  | zero =>
    intro C E B G _ h1 h2
    rw [wX_fillTables_15]
    refine br_t (by decide) (nm_r (nI_1 p) (hJ C E B G (fun q hq j hj => ?_)))
    by_cases w : q = p
    · rw [w]
      exact h2 j (by omega) hj
    · exact h1 q (by omega) j hj
  | succ d ih =>
    intro C E B G hd h1 h2
    rw [wX_fillTables_15, pk_m1 d]
    refine br_f (nI_pos (by omega)) (xl_clear (by omega) (by omega) (fun C' B' hR hfr => xl_addRuns wf hm hpm (by omega) hn hk ⟨fun q hq j hj => xr_keep hfr (by omega) (ru_tb_ok hj) hn (h1 q hq j hj), fun j hj1 hj2 => xr_keep hfr (by omega) (ru_tb_ok hj2) hn (h2 j (by omega) hj2)⟩ hR (fun C2 E2 B2 G2 hR2 hfr2 => nm_e (ih C2 E2 B2 G2 (by omega) (fun q hq j hj => ?_) (fun j hj1 hj2 => ?_)))))
    · exact xr_keep (xr_fr_tr hfr hfr2) (by omega) (ru_tb_ok hj) hn (h1 q hq j hj)
    · by_cases w : j = d
      · rw [w]
        exact hR2
      · exact xr_keep (xr_fr_tr hfr hfr2) (by omega) (ru_tb_ok hj2) hn (h2 j (by omega) hj2)
theorem xl_f2 {K F S : Nat → Nat} {n m : Nat} (wf : ru_wf K F S m) (hm : m ≤ 16) (hn : n ≤ 10) (hk : ∀ p, p < m → pc_ok K F S p uk uv uf us)
    (hp : ∀ C' E' B' G', (∀ q, q < m → ∀ j, j ≤ n → xr_Rep C' E' B' G' (q * 11 + j) (ru_tb K F S tx n q j)) → post (bp, he, nI m, nI n, bk, bv, bf, bs, bg, st, uk, uv, uf, us, tx, C', E', B', G')) :
    ∀ (d p : Nat) (C E B G : Nat → Int32), m < d + p → p ≤ m → (∀ q, q < p → ∀ j, j ≤ n → xr_Rep C E B G (q * 11 + j) (ru_tb K F S tx n q j)) → wX_fillTables_2 post d (nI p) bp he (nI m) (nI n) bk bv bf bs bg st uk uv uf us tx C E B G := by
  intro d
  induction d with
  | zero => intro p C E B G h1 h2; omega
  | succ d ih =>
    intro p C E B G h1 h2 h3
    rw [wX_fillTables_2]
    by_cases w : p = m
    · subst w
      exact br_t (nI_le (Nat.le_refl _) (by omega)) (hp C E B G h3)
    · refine br_f (nI_ge (by omega) (by omega)) ⟨n + 1 + 1, ?_⟩
      have h := xl_f15 (post := post) (up := nI m) (bp := bp) (he := he) (bk := bk) (bv := bv) (bf := bf) (bs := bs) (bg := bg) (st := st) (J := wX_fillTables_2 post d) wf hm (show p < m by omega) hn (hk p (by omega)) (fun C' E' B' G' h4 => ih (p + 1) C' E' B' G' (by omega) (by omega) h4) (n + 1) C E B G (by omega) h3 (fun j hj1 hj2 => by omega)
      rw [pk_m1 n] at h
      exact h
theorem xl_fill {K F S : Nat → Nat} {n m : Nat} (wf : ru_wf K F S m) (hm : m ≤ 16) (hn : n ≤ 10) (hk : ∀ p, p < m → pc_ok K F S p uk uv uf us)
    (hp : ∀ C' E' B' G', (∀ q, q < m → ∀ j, j ≤ n → xr_Rep C' E' B' G' (q * 11 + j) (ru_tb K F S tx n q j)) → post (bp, he, nI m, nI n, bk, bv, bf, bs, bg, st, uk, uv, uf, us, tx, C', E', B', G')) : wpX_fillTables post (bp, he, nI m, nI n, bk, bv, bf, bs, bg, st, uk, uv, uf, us, tx, C, E, B, G) :=
  ⟨m + 1, xl_f2 wf hm hn hk hp (m + 1) 0 C E B G (by omega) (by omega) (fun q hq => by omega)⟩
end
end
section
/-! the reference: onFrom, reachOf, fill, startsOf -/
theorem yi_11 (q k : Nat) : 11 * nI q + nI k = nI (11 * q + k) := by rw [xi_c11, pk_mul, nI_add]
theorem yi_in {q k N : Nat} (h : 11 * q + k < N) (hN : N < 2 ^ 31) : vp_in (11 * nI q + nI k) N := by
  rw [yi_11]
  exact vp_in_nI h hN
theorem yi_cl {q k : Nat} (h : 11 * q + k < 2 ^ 31) : (11 * nI q + nI k).toNatClampNeg = 11 * q + k := by
  rw [yi_11]
  exact nI_clamp h
def yr_ok (re : Nat → Int32) (T : Nat → Nat → List ru_R) (n m : Nat) : Prop := ∀ q, q < m → ∀ j, j ≤ n → ∀ e, bt (re (11 * q + j)) e = ru_any (T q j) e
section
variable {sp de ro ln wa : Int32} {dk df ds dg sk ki fi se ty re ta wn gr : Nat → Int32}
theorem yl_o5 {post : Int32 → Prop} {q n : Nat} {x : Int32} (hq : q < 16) (hn : n ≤ 10) (hp : ∀ y : Int32, (∀ e, bt y e = true ↔ ∃ k, k ≤ n ∧ bt x k = true ∧ bt (re (11 * q + k)) e = true) → post y) :
    ∀ (d k : Nat) (y : Int32), n + 1 < d + k → k ≤ n + 1 → (∀ e, bt y e = true ↔ ∃ j, j < k ∧ bt x j = true ∧ bt (re (11 * q + j)) e = true) → wY_onFrom_5 post (nI q) x sp de ro (nI n) wa dk df ds dg sk ki fi se ty re ta wn gr d y (nI k) := by
  intro d
  induction d with
  | zero => intro k y h1 h2; omega
  | succ d ih =>
    intro k y h1 h2 hy
    rw [wY_onFrom_5]
    by_cases w : k = n + 1
    · subst w
      exact br_t (nI_lt (by omega) (by omega)) (hp y (fun e => (hy e).trans ⟨fun ⟨j, a, b⟩ => ⟨j, by omega, b⟩, fun ⟨j, a, b⟩ => ⟨j, by omega, b⟩⟩))
    · refine br_f (nI_nlt (by omega) (by omega)) ?_
      by_cases b : bt x k = true
      · refine br_t ((yb_t x (by omega)).mpr b) ⟨yi_in (by omega) (by omega), nm_r (e' := y ||| re (11 * q + k)) (by rw [yi_cl (by omega)]) (nm_r (nI_1 k) (ih (k + 1) _ (by omega) (by omega) (fun e => ?_)))⟩
        rw [b_or, Bool.or_eq_true, hy]
        constructor
        · rintro (⟨j, h3, h4⟩ | h3)
          · exact ⟨j, by omega, h4⟩
          · exact ⟨k, by omega, b, h3⟩
        · rintro ⟨j, h3, h4⟩
          by_cases c : j = k
          · rw [c] at h4
            exact Or.inr h4.2
          · exact Or.inl ⟨j, by omega, h4⟩
      · refine br_f (fun h => b ((yb_t x (by omega)).mp h)) (nm_r (nI_1 k) (ih (k + 1) _ (by omega) (by omega) (fun e => (hy e).trans ?_)))
        constructor
        · rintro ⟨j, h3, h4⟩
          exact ⟨j, by omega, h4⟩
        · rintro ⟨j, h3, h4⟩
          by_cases c : j = k
          · rw [c] at h4
            exact absurd h4.1 b
          · exact ⟨j, by omega, h4⟩
theorem yl_on {post : Int32 → Prop} {q n : Nat} {x p0 : Int32} (e0 : p0 = nI q) (hq : q < 16) (hn : n ≤ 10) (hp : ∀ y : Int32, (∀ e, bt y e = true ↔ ∃ k, k ≤ n ∧ bt x k = true ∧ bt (re (11 * q + k)) e = true) → post y) : wpY_onFrom post (sp, de, ro, nI n, wa, dk, df, ds, dg, sk, ki, fi, se, ty, re, ta, wn, gr) p0 x := by
  subst e0
  exact ⟨n + 2, yl_o5 hq hn hp (n + 2) 0 0 (by omega) (by omega) (fun e => ⟨fun h => (by rw [b_0] at h; cases h), fun ⟨j, h, _⟩ => absurd h (Nat.not_lt_zero j)⟩)⟩
theorem yl_reach {post : Int32 → Prop} {K F S : Nat → Nat} {n m p i : Nat} (wf : ru_wf K F S m) (hm : m ≤ 16) (hpm : p < m) (hi : i ≤ n) (hn : n ≤ 10) (hk : ki p = nI (K p)) (hf : 5 ≤ K p → fi p = nI (F p) ∧ se p = nI (S p))
    (hlow : ∀ q, q < p → ∀ j, j ≤ n → ∀ e, bt (re (11 * q + j)) e = ru_any (ru_tb K F S ty n q j) e) (hsame : ∀ j, i < j → j ≤ n → ∀ e, bt (re (11 * p + j)) e = ru_any (ru_tb K F S ty n p j) e)
    (hp : ∀ y : Int32, (∀ e, bt y e = ru_any (ru_tb K F S ty n p i) e) → post y) : wpY_reachOf post (sp, de, ro, nI n, wa, dk, df, ds, dg, sk, ki, fi, se, ty, re, ta, wn, gr) (nI p) (nI i) := by
  have cp : (nI p).toNatClampNeg = p := nI_clamp (by omega)
  have ci : (nI i).toNatClampNeg = i := nI_clamp (by omega)
  have vp : vp_in (nI p) 16 := vp_in_nI (by omega) (by omega)
  have hK := (wf p hpm).1
  have h5 := (wf p hpm).2
  refine ⟨vp, nm_r (e' := nI (K p)) (by rw [cp]; exact hk) ?_⟩
  by_cases a : K p < 4
  · have q3 := ru_q3 (t := ty) wf hn hm hpm hi a
    refine br_f (nI_ge (b := 4) a (by decide)) ?_
    by_cases z : i < n
    · refine br_f (nI_ge z (by omega)) ?_
      by_cases c : K p = 3
      · refine br_t (by rw [c]; rfl) (hp _ (fun e => ?_))
        rw [yb_two (by omega)]
        exact ((q3 e).1 ⟨z, Or.inl c⟩).symm
      · refine br_f (fun h => c ((nI_eq (b := 3) (by omega) (by decide)).mp h)) ⟨vp_in_nI (by omega) (by omega), ?_⟩
        rw [ci]
        refine br_c (fun w => hp _ (fun e => ?_)) (fun w => hp _ (fun e => ?_))
        · rw [yb_two (by omega)]
          exact ((q3 e).1 ⟨z, Or.inr w⟩).symm
        · rw [b_0]
          exact ((q3 e).2 (fun h => h.2.elim c w)).symm
    · refine br_t (nI_le (by omega) (by omega)) (hp _ (fun e => ?_))
      rw [b_0]
      exact ((q3 e).2 (fun h => z h.1)).symm
  · refine br_t (nI_le (a := 4) (by omega) (by omega)) ?_
    by_cases c4 : K p = 4
    · refine br_t (by rw [c4]; rfl) (hp _ (fun e => ?_))
      rw [yb_one (by omega)]
      exact (ru_q4 wf hn hm hpm hi c4 e).symm
    · have h5 := h5 (by omega)
      have hf := hf (by omega)
      have ef : fi (nI p).toNatClampNeg = nI (F p) := by rw [cp]; exact hf.1
      have es : se (nI p).toNatClampNeg = nI (S p) := by rw [cp]; exact hf.2
      have hx := hlow (F p) h5.1 i hi
      refine br_f (fun h => c4 ((nI_eq (b := 4) (by omega) (by decide)).mp h)) ⟨vp, by rw [ef]; exact yi_in (by omega) (by omega), nm_r (e' := re (11 * F p + i)) (by rw [ef, yi_cl (by omega)]) ?_⟩
      by_cases c5 : K p = 5
      · refine br_t (by rw [c5]; rfl) ⟨vp, yl_on es (by omega) hn (fun y hy => hp y (ru_q5 wf hn hm hpm hi c5 hx (fun e => (hy e).trans ?_)))⟩
        constructor
        · rintro ⟨k, g1, g2, g3⟩
          exact ⟨k, g1, g2, by rw [← hlow (S p) h5.2 k g1 e]; exact g3⟩
        · rintro ⟨k, g1, g2, g3⟩
          exact ⟨k, g1, g2, by rw [hlow (S p) h5.2 k g1 e]; exact g3⟩
      · refine br_f (fun h => c5 ((nI_eq (b := 5) (by omega) (by decide)).mp h)) ?_
        by_cases c6 : K p = 6
        · refine br_t (by rw [c6]; rfl) ⟨vp, by rw [es]; exact yi_in (by omega) (by omega), ?_⟩
          rw [es, yi_cl (by omega)]
          exact hp _ (ru_q6 wf hn hm hpm hi c6 hx (hlow (S p) h5.2 i hi))
        · refine br_f (fun h => c6 ((nI_eq (b := 6) (by omega) (by decide)).mp h)) ?_
          by_cases c8 : K p ≤ 8
          · refine br_t (nI_le (b := 8) c8 (by decide)) (yl_on rfl (by omega) hn (fun y hy => hp _ (ru_q78 wf hn hm hpm hi (by omega) (fun e => yb_one (by omega) e) (x := re (11 * F p + i) &&& ((((2 : Int32) <<< (nI i &&& 31)) - 1) ^^^ (-1))) (fun k hk => ?_) (fun e => (hy e).trans ?_))))
            · rw [b_and, hx, yb_hi i (by omega) k hk]
            · have hgt : ∀ k, k ≤ n → bt (re (11 * F p + i) &&& ((((2 : Int32) <<< (nI i &&& 31)) - 1) ^^^ (-1))) k = true → i < k := fun k g1 g2 => by
                rw [b_and, yb_hi i (by omega) k (by omega)] at g2
                exact of_decide_eq_true ((Bool.and_eq_true _ _).mp g2).2
              constructor
              · rintro ⟨k, g1, g2, g3⟩
                exact ⟨k, g1, g2, by rw [← hsame k (hgt k g1 g2) g1 e]; exact g3⟩
              · rintro ⟨k, g1, g2, g3⟩
                exact ⟨k, g1, g2, by rw [hsame k (hgt k g1 g2) g1 e]; exact g3⟩
          · exact br_f (nI_ge (a := 8) (by omega) (by omega)) (hp _ (ru_q9 wf hn hm hpm hi (by omega) hx))
theorem yl_f15 {post : SY → Prop} {K F S : Nat → Nat} {n m p : Nat} {J : Int32 → (Nat → Int32) → (Nat → Int32) → (Nat → Int32) → (Nat → Int32) → (Nat → Int32) → (Nat → Int32) → (Nat → Int32) → (Nat → Int32) → (Nat → Int32) → (Nat → Int32) → (Nat → Int32) → (Nat → Int32) → (Nat → Int32) → Prop}
    (wf : ru_wf K F S m) (hm : m ≤ 16) (hpm : p < m) (hn : n ≤ 10) (hk : ki p = nI (K p)) (hf : 5 ≤ K p → fi p = nI (F p) ∧ se p = nI (S p))
    (hJ : ∀ re', yr_ok re' (ru_tb K F S ty n) n (p + 1) → J (nI (p + 1)) dk df ds dg sk ki fi se ty re' ta wn gr) :
    ∀ (d : Nat) (re : Nat → Int32), d ≤ n + 1 → yr_ok re (ru_tb K F S ty n) n p → (∀ j, d ≤ j → j ≤ n → ∀ e, bt (re (11 * p + j)) e = ru_any (ru_tb K F S ty n p j) e) → wY_fill_15 post J (nI p) sp de ro (nI n) wa (d + 1) (nI d + (-1)) dk df ds dg sk ki fi se ty re ta wn gr := by
  intro d
  induction d with
  | zero =>
    intro re _ h1 h2
    rw [wY_fill_15]
    refine br_t (by decide) (nm_r (nI_1 p) (hJ re (fun q hq j hj => ?_)))
    by_cases w : q = p
    · rw [w]
      exact h2 j (by omega) hj
    · exact h1 q (by omega) j hj
  | succ d ih =>
    intro re hd h1 h2
    rw [wY_fill_15, pk_m1 d]
    refine br_f (nI_pos (by omega)) (yl_reach wf hm hpm (by omega) hn hk hf h1 (fun j hj1 hj2 => h2 j (by omega) hj2) (fun y hy => ⟨yi_in (by omega) (by omega), nm_r (e' := upd re (11 * p + d) y) (by rw [yi_cl (by omega)]) (nm_e (ih _ (by omega) (fun q hq j hj e => ?_) (fun j hj1 hj2 e => ?_)))⟩))
    · rw [pk_un (by omega)]
      exact h1 q hq j hj e
    · by_cases w : j = d
      · rw [w, pk_us]
        exact hy e
      · rw [pk_un (by omega)]
        exact h2 j (by omega) hj2 e
theorem yl_f2 {post : SY → Prop} {K F S : Nat → Nat} {n r : Nat} (wf : ru_wf K F S (r + 1)) (hm : r < 16) (hn : n ≤ 10) (hk : ∀ p, p < r + 1 → ki p = nI (K p) ∧ (5 ≤ K p → fi p = nI (F p) ∧ se p = nI (S p)))
    (hp : ∀ re', yr_ok re' (ru_tb K F S ty n) n (r + 1) → post (sp, de, nI r, nI n, wa, dk, df, ds, dg, sk, ki, fi, se, ty, re', ta, wn, gr)) :
    ∀ (d p : Nat) (re : Nat → Int32), r + 1 < d + p → p ≤ r + 1 → yr_ok re (ru_tb K F S ty n) n p → wY_fill_2 post sp de (nI r) (nI n) wa d (nI p) dk df ds dg sk ki fi se ty re ta wn gr := by
  intro d
  induction d with
  | zero => intro p re h1 h2; omega
  | succ d ih =>
    intro p re h1 h2 h3
    rw [wY_fill_2]
    by_cases w : p = r + 1
    · subst w
      exact br_t (nI_lt (by omega) (by omega)) (hp re h3)
    · refine br_f (nI_nlt (by omega) (by omega)) ⟨n + 1 + 1, ?_⟩
      have h := yl_f15 (post := post) (sp := sp) (de := de) (ro := nI r) (wa := wa) (J := wY_fill_2 post sp de (nI r) (nI n) wa d) wf (by omega) (show p < r + 1 by omega) hn (hk p (by omega)).1 (hk p (by omega)).2 (fun re' h4 => ih (p + 1) re' (by omega) (by omega) h4) (n + 1) re (by omega) h3 (fun j hj1 hj2 => by omega)
      rw [pk_m1 n] at h
      exact h
theorem yl_fill {post : SY → Prop} {K F S : Nat → Nat} {n r : Nat} (wf : ru_wf K F S (r + 1)) (hm : r < 16) (hn : n ≤ 10) (hk : ∀ p, p < r + 1 → ki p = nI (K p) ∧ (5 ≤ K p → fi p = nI (F p) ∧ se p = nI (S p)))
    (hp : ∀ re', yr_ok re' (ru_tb K F S ty n) n (r + 1) → post (sp, de, nI r, nI n, wa, dk, df, ds, dg, sk, ki, fi, se, ty, re', ta, wn, gr)) : wpY_fill post (sp, de, nI r, nI n, wa, dk, df, ds, dg, sk, ki, fi, se, ty, re, ta, wn, gr) :=
  ⟨r + 1 + 1, yl_f2 wf hm hn hk hp (r + 1 + 1) 0 re (by omega) (by omega) (fun q hq => by omega)⟩
theorem yl_s5 {post : Int32 → Prop} {q n m : Nat} {x : Int32} {T : Nat → Nat → List ru_R} (hm : m ≤ 16) (hq : q < m) (hn : n ≤ 10) (hr : yr_ok re T n m) (hp : ∀ y : Int32, (∀ j, j < 32 → bt y j = (decide (j < n + 1) && (ru_sel (bt x) (T q j)).isSome)) → post y) :
    ∀ (d k : Nat) (y : Int32), n + 1 < d + k → k ≤ n + 1 → (∀ j, j < 32 → bt y j = (decide (j < k) && (ru_sel (bt x) (T q j)).isSome)) → wY_startsOf_5 post (nI q) x sp de ro (nI n) wa dk df ds dg sk ki fi se ty re ta wn gr d y (nI k) := by
  intro d
  induction d with
  | zero => intro k y h1 h2; omega
  | succ d ih =>
    intro k y h1 h2 hy
    rw [wY_startsOf_5]
    by_cases w : k = n + 1
    · subst w
      exact br_t (nI_lt (by omega) (by omega)) (hp y hy)
    · refine br_f (nI_nlt (by omega) (by omega)) ⟨yi_in (by omega) (by omega), ?_⟩
      rw [yi_cl (by omega)]
      have hs := yb_sel (x := x) (hr q hq k (by omega))
      by_cases b : ru_sel (bt x) (T q k) = none
      · refine br_t (hs.mpr b) (nm_r (nI_1 k) (ih (k + 1) _ (by omega) (by omega) (fun j hj => ?_)))
        rw [hy j hj]
        by_cases c : j = k
        · rw [c, b]
          simp
        · rw [show decide (j < k + 1) = decide (j < k) from decide_eq_decide.mpr (by omega)]
      · refine br_f (fun h => b (hs.mp h)) (nm_r (e' := y ||| ((1 : Int32) <<< (nI k &&& 31))) rfl (nm_r (nI_1 k) (ih (k + 1) _ (by omega) (by omega) (fun j hj => ?_))))
        rw [b_or, yb_one (by omega), hy j hj]
        by_cases c : j = k
        · rw [c, decide_eq_true (show k < k + 1 by omega), Option.isSome_iff_ne_none.mpr b]
          simp
        · rw [show decide (j < k + 1) = decide (j < k) from decide_eq_decide.mpr (by omega), beq_eq_false_iff_ne.mpr c, Bool.or_false]
theorem yl_starts {post : Int32 → Prop} {q n m : Nat} {x p0 : Int32} {T : Nat → Nat → List ru_R} (e0 : p0 = nI q) (hm : m ≤ 16) (hq : q < m) (hn : n ≤ 10) (hr : yr_ok re T n m) (hp : ∀ y : Int32, (∀ k, k ≤ n → bt y k = (ru_sel (bt x) (T q k)).isSome) → post y) : wpY_startsOf post (sp, de, ro, nI n, wa, dk, df, ds, dg, sk, ki, fi, se, ty, re, ta, wn, gr) p0 x := by
  subst e0
  exact ⟨n + 2, yl_s5 hm hq hn hr (fun y hy => hp y (fun k hk => by rw [hy k (by omega), decide_eq_true (by omega), Bool.true_and])) (n + 2) 0 0 (by omega) (by omega) (fun j hj => by rw [b_0, decide_eq_false (by omega), Bool.false_and])⟩
end
end
section
/-! the reference: plan, repeats, doPart, doRun -/
def yq_s (S : Nat → Bool) : Nat → Int32
  | 0 => 0
  | k + 1 => if S k = true then yq_s S k ||| ((1 : Int32) <<< (nI k &&& 31)) else yq_s S k
theorem yq_b (S : Nat → Bool) : ∀ k, k ≤ 32 → ∀ j, bt (yq_s S k) j = (decide (j < k) && S j) := by
  intro k
  induction k with
  | zero => intro _ j; rw [show yq_s S 0 = 0 from rfl, b_0, decide_eq_false (by omega), Bool.false_and]
  | succ k ih =>
    intro hk j
    have ih := ih (by omega) j
    unfold yq_s
    by_cases z : S k = true
    · rw [if_pos z, b_or, yb_one (by omega), ih]
      by_cases c : j = k
      · rw [c, z, decide_eq_true (show k < k + 1 by omega)]
        simp
      · rw [show decide (j < k + 1) = decide (j < k) from decide_eq_decide.mpr (by omega), beq_eq_false_iff_ne.mpr c, Bool.or_false]
    · rw [if_neg z, ih]
      by_cases c : j = k
      · rw [c]
        simp [z]
      · rw [show decide (j < k + 1) = decide (j < k) from decide_eq_decide.mpr (by omega)]
theorem yq_8 {k i : Nat} (hk : 9 ≤ k) : (100 + 16 * (nI k - 9)) + nI i = nI (100 + 16 * (k - 9) + i) := by
  rw [show (9 : Int32) = nI 9 from rfl, pk_sub hk, show (16 : Int32) = nI 16 from rfl, pk_mul, show (100 : Int32) = nI 100 from rfl, nI_add, nI_add]
theorem yq_0 (x : Int32) {k : Nat} (hk : k < 32) : (x >>> (nI k &&& 31)) &&& 1 = 0 ↔ bt x k = false := by
  rw [yb_tst x hk]
  cases bt x k <;> decide
section
variable {sp de ro ln wa : Int32} {dk df ds dg sk ki fi se ty re ta wn gr : Nat → Int32}
theorem yl_st {post : Int32 → Prop} {q n m : Nat} {x p0 : Int32} {T : Nat → Nat → List ru_R} (e0 : p0 = nI q) (hm : m ≤ 16) (hq : q < m) (hn : n ≤ 10) (hr : yr_ok re T n m) (hp : post (yq_s (fun j => (ru_sel (bt x) (T q j)).isSome) (n + 1))) : wpY_startsOf post (sp, de, ro, nI n, wa, dk, df, ds, dg, sk, ki, fi, se, ty, re, ta, wn, gr) p0 x := by
  subst e0
  refine ⟨n + 2, yl_s5 hm hq hn hr (fun y hy => ?_) (n + 2) 0 0 (by omega) (by omega) (fun j hj => by rw [b_0, decide_eq_false (by omega), Bool.false_and])⟩
  have e : y = yq_s (fun j => (ru_sel (bt x) (T q j)).isSome) (n + 1) := b_ext (fun j hj => by rw [hy j hj, yq_b _ (n + 1) (by omega) j])
  rw [e]
  exact hp
theorem yl_plan {post : SY → Prop} {w : Nat} {a b : Int32} (hw : w < 64) (h : post (sp, de, ro, ln, nI (w + 1), dk, df, ds, dg, sk, ki, fi, se, ty, re, upd ta w a, upd wn w b, gr)) : wpY_plan post (sp, de, ro, ln, nI w, dk, df, ds, dg, sk, ki, fi, se, ty, re, ta, wn, gr) a b := by
  have c : (nI w).toNatClampNeg = w := nI_clamp (by omega)
  have v : vp_in (nI w) 64 := vp_in_nI hw (by omega)
  exact ⟨v, nm_r (by rw [c]) ⟨v, nm_r (by rw [c]) (nm_r (nI_1 w) h)⟩⟩
theorem yl_plan2 {post : SY → Prop} {w : Nat} {a b : Int32} (hw : w + 1 < 64) (h : post (sp, de, ro, ln, nI (w + 1 + 1), dk, df, ds, dg, sk, ki, fi, se, ty, re, upd ta (w + 1) a, upd wn (w + 1) b, gr)) : wpY_plan post (sp, de, ro, ln, nI (w + 1), dk, df, ds, dg, sk, ki, fi, se, ty, re, ta, wn, gr) a b := yl_plan hw h
def yd_ok (K F S : Nat → Nat) (n m : Nat) (ki fi se ty re : Nat → Int32) : Prop :=
  ru_wf K F S m ∧ m ≤ 16 ∧ n ≤ 10 ∧ (∀ p, p < m → ki p = nI (K p) ∧ (5 ≤ K p → fi p = nI (F p) ∧ se p = nI (S p))) ∧ yr_ok re (ru_tb K F S ty n) n m
def yd_y (K F S : Nat → Nat) (ty : Nat → Int32) (n p i : Nat) (x : Int32) : Int32 := yq_s (fun j => (ru_sel (bt x) (ru_tb K F S ty n p j)).isSome) (n + 1) &&& ((((2 : Int32) <<< (nI i &&& 31)) - 1) ^^^ (-1))
theorem yl_rep {Q : Int32 → SY → Prop} {K F S : Nat → Nat} {n m p i w : Nat} {x : Int32} (H : yd_ok K F S n m ki fi se ty re) (hp : p < m) (hi : i ≤ n) (h5 : 5 ≤ K p) (hw : w + 1 < 64)
    (h0 : ru_sel (bt (yd_y K F S ty n p i x)) (ru_tb K F S ty n (F p) i) = none → Q 0 (sp, de, ro, nI n, nI w, dk, df, ds, dg, sk, ki, fi, se, ty, re, ta, wn, gr))
    (h1 : ru_sel (bt (yd_y K F S ty n p i x)) (ru_tb K F S ty n (F p) i) ≠ none → Q 1 (sp, de, ro, nI n, nI (w + 1 + 1), dk, df, ds, dg, sk, ki, fi, se, ty, re, upd (upd ta w (nI p)) (w + 1) (nI (F p)), upd (upd wn w x) (w + 1) (yd_y K F S ty n p i x), gr)) : wpY_repeats Q (sp, de, ro, nI n, nI w, dk, df, ds, dg, sk, ki, fi, se, ty, re, ta, wn, gr) (nI p) (nI i) x := by
  obtain ⟨wf, hm, hn, hk, hr⟩ := H
  have cp : (nI p).toNatClampNeg = p := nI_clamp (by omega)
  have vp : vp_in (nI p) 16 := vp_in_nI (by omega) (by omega)
  have hF := (wf p hp).2 h5
  have ef : fi (nI p).toNatClampNeg = nI (F p) := by rw [cp]; exact ((hk p hp).2 h5).1
  have hs := yb_sel (x := yd_y K F S ty n p i x) (hr (F p) (by omega) i hi)
  refine yl_st rfl hm hp hn hr (nm_r (e' := yd_y K F S ty n p i x) rfl ⟨vp, by rw [ef]; exact yi_in (by omega) (by omega), ?_⟩)
  rw [ef, yi_cl (by omega)]
  refine br_c (fun z => h0 (hs.mp z)) (fun z => ?_)
  refine yl_plan (by omega) ⟨vp, ?_⟩
  rw [ef]
  exact yl_plan2 hw (h1 (fun e => z (hs.mpr e)))
section
variable {Q : Int32 → SY → Prop} {K F S : Nat → Nat} {n m p i w : Nat} {x : Int32}
theorem yd_3 (H : yd_ok K F S n m ki fi se ty re) (hp : p < m) (hi : i ≤ n) (h : K p < 4) (hq : Q (nI (i + 1)) (sp, de, ro, nI n, nI w, dk, df, ds, dg, sk, ki, fi, se, ty, re, ta, wn, gr)) : wpY_doPart Q (sp, de, ro, nI n, nI w, dk, df, ds, dg, sk, ki, fi, se, ty, re, ta, wn, gr) (nI p) (nI i) x := by
  obtain ⟨wf, hm, hn, hk, hr⟩ := H
  have cp : (nI p).toNatClampNeg = p := nI_clamp (by omega)
  have vp : vp_in (nI p) 16 := vp_in_nI (by omega) (by omega)
  refine ⟨vp, nm_r (e' := nI (K p)) (by rw [cp]; exact (hk p hp).1) (br_f (nI_ge (b := 4) h (by decide)) ?_)⟩
  rw [nI_1 i]
  exact hq
theorem yd_4 (H : yd_ok K F S n m ki fi se ty re) (hp : p < m) (hi : i ≤ n) (h : K p = 4) (hq : Q (nI i) (sp, de, ro, nI n, nI w, dk, df, ds, dg, sk, ki, fi, se, ty, re, ta, wn, gr)) : wpY_doPart Q (sp, de, ro, nI n, nI w, dk, df, ds, dg, sk, ki, fi, se, ty, re, ta, wn, gr) (nI p) (nI i) x := by
  obtain ⟨wf, hm, hn, hk, hr⟩ := H
  have cp : (nI p).toNatClampNeg = p := nI_clamp (by omega)
  have vp : vp_in (nI p) 16 := vp_in_nI (by omega) (by omega)
  exact ⟨vp, nm_r (e' := 4) (by rw [cp, (hk p hp).1, h]; rfl) (br_t (by decide) (br_f (by decide) (br_f (by decide) (br_f (by decide) (br_f (by decide) (br_t (by decide) hq))))))⟩
theorem yd_5 (H : yd_ok K F S n m ki fi se ty re) (hp : p < m) (hi : i ≤ n) (hw : w + 1 < 64) (h : K p = 5)
    (hq : Q (nI i) (sp, de, ro, nI n, nI (w + 1 + 1), dk, df, ds, dg, sk, ki, fi, se, ty, re, upd (upd ta w (nI (S p))) (w + 1) (nI (F p)), upd (upd wn w x) (w + 1) (yq_s (fun j => (ru_sel (bt x) (ru_tb K F S ty n (S p) j)).isSome) (n + 1)), gr)) : wpY_doPart Q (sp, de, ro, nI n, nI w, dk, df, ds, dg, sk, ki, fi, se, ty, re, ta, wn, gr) (nI p) (nI i) x := by
  obtain ⟨wf, hm, hn, hk, hr⟩ := H
  have cp : (nI p).toNatClampNeg = p := nI_clamp (by omega)
  have vp : vp_in (nI p) 16 := vp_in_nI (by omega) (by omega)
  have hF := (wf p hp).2 (by omega)
  have ef : fi (nI p).toNatClampNeg = nI (F p) := by rw [cp]; exact ((hk p hp).2 (by omega)).1
  have es : se (nI p).toNatClampNeg = nI (S p) := by rw [cp]; exact ((hk p hp).2 (by omega)).2
  refine ⟨vp, nm_r (e' := 5) (by rw [cp, (hk p hp).1, h]; rfl) (br_t (by decide) (br_t rfl ⟨vp, yl_st es hm (by omega) hn hr ⟨vp, ?_⟩⟩))⟩
  rw [es]
  refine yl_plan (by omega) ⟨vp, ?_⟩
  rw [ef]
  exact yl_plan2 hw hq
theorem yd_6 (H : yd_ok K F S n m ki fi se ty re) (hp : p < m) (hi : i ≤ n) (hw : w + 1 < 64) (h : K p = 6)
    (h0 : ru_sel (bt x) (ru_tb K F S ty n (F p) i) = none → Q (nI i) (sp, de, ro, nI n, nI (w + 1), dk, df, ds, dg, sk, ki, fi, se, ty, re, upd ta w (nI (S p)), upd wn w x, gr))
    (h1 : ru_sel (bt x) (ru_tb K F S ty n (F p) i) ≠ none → Q (nI i) (sp, de, ro, nI n, nI (w + 1), dk, df, ds, dg, sk, ki, fi, se, ty, re, upd ta w (nI (F p)), upd wn w x, gr)) : wpY_doPart Q (sp, de, ro, nI n, nI w, dk, df, ds, dg, sk, ki, fi, se, ty, re, ta, wn, gr) (nI p) (nI i) x := by
  obtain ⟨wf, hm, hn, hk, hr⟩ := H
  have cp : (nI p).toNatClampNeg = p := nI_clamp (by omega)
  have vp : vp_in (nI p) 16 := vp_in_nI (by omega) (by omega)
  have hF := (wf p hp).2 (by omega)
  have ef : fi (nI p).toNatClampNeg = nI (F p) := by rw [cp]; exact ((hk p hp).2 (by omega)).1
  have es : se (nI p).toNatClampNeg = nI (S p) := by rw [cp]; exact ((hk p hp).2 (by omega)).2
  have hs := yb_sel (x := x) (hr (F p) (by omega) i hi)
  refine ⟨vp, nm_r (e' := 6) (by rw [cp, (hk p hp).1, h]; rfl) (br_t (by decide) (br_f (by decide) (br_t rfl ⟨vp, by rw [ef]; exact yi_in (by omega) (by omega), ?_⟩)))⟩
  rw [ef, yi_cl (by omega)]
  refine br_c (fun z => br_t rfl ⟨vp, ?_⟩) (fun z => br_f (by decide) ⟨vp, ?_⟩)
  · rw [es]
    exact yl_plan (by omega) (h0 (hs.mp z))
  · rw [ef]
    exact yl_plan (by omega) (h1 (fun e => z (hs.mpr e)))
theorem yd_7 (H : yd_ok K F S n m ki fi se ty re) (hp : p < m) (hi : i ≤ n) (hw : w + 1 < 64) (h : K p = 7 ∨ (K p = 8 ∧ bt x i = false))
    (h0 : ru_sel (bt (yd_y K F S ty n p i x)) (ru_tb K F S ty n (F p) i) = none → Q (nI i) (sp, de, ro, nI n, nI w, dk, df, ds, dg, sk, ki, fi, se, ty, re, ta, wn, gr))
    (h1 : ru_sel (bt (yd_y K F S ty n p i x)) (ru_tb K F S ty n (F p) i) ≠ none → Q (nI i) (sp, de, ro, nI n, nI (w + 1 + 1), dk, df, ds, dg, sk, ki, fi, se, ty, re, upd (upd ta w (nI p)) (w + 1) (nI (F p)), upd (upd wn w x) (w + 1) (yd_y K F S ty n p i x), gr)) : wpY_doPart Q (sp, de, ro, nI n, nI w, dk, df, ds, dg, sk, ki, fi, se, ty, re, ta, wn, gr) (nI p) (nI i) x := by
  have H' := H
  obtain ⟨wf, hm, hn, hk, hr⟩ := H
  have cp : (nI p).toNatClampNeg = p := nI_clamp (by omega)
  have vp : vp_in (nI p) 16 := vp_in_nI (by omega) (by omega)
  have k148 : wY_doPart_148 Q (nI p) (nI i) x sp de ro (nI n) (nI w) dk df ds dg sk ki fi se ty re ta wn gr := yl_rep H' hp hi (by omega) hw h0 h1
  rcases h with h | h
  · exact ⟨vp, nm_r (e' := 7) (by rw [cp, (hk p hp).1, h]; rfl) (br_t (by decide) (br_f (by decide) (br_f (by decide) (br_t rfl k148))))⟩
  · exact ⟨vp, nm_r (e' := 8) (by rw [cp, (hk p hp).1, h.1]; rfl) (br_t (by decide) (br_f (by decide) (br_f (by decide) (br_f (by decide) (br_t rfl (br_t ((yq_0 x (by omega)).mpr h.2) k148))))))⟩
theorem yd_8 (H : yd_ok K F S n m ki fi se ty re) (hp : p < m) (hi : i ≤ n) (h : K p = 8) (hb : bt x i = true) (hq : Q (nI i) (sp, de, ro, nI n, nI w, dk, df, ds, dg, sk, ki, fi, se, ty, re, ta, wn, gr)) : wpY_doPart Q (sp, de, ro, nI n, nI w, dk, df, ds, dg, sk, ki, fi, se, ty, re, ta, wn, gr) (nI p) (nI i) x := by
  obtain ⟨wf, hm, hn, hk, hr⟩ := H
  have cp : (nI p).toNatClampNeg = p := nI_clamp (by omega)
  have vp : vp_in (nI p) 16 := vp_in_nI (by omega) (by omega)
  exact ⟨vp, nm_r (e' := 8) (by rw [cp, (hk p hp).1, h]; rfl) (br_t (by decide) (br_f (by decide) (br_f (by decide) (br_f (by decide) (br_t rfl (br_f (fun z => by rw [(yq_0 x (by omega)).mp z] at hb; cases hb) (br_t (by decide) hq)))))))⟩
theorem yd_9 (H : yd_ok K F S n m ki fi se ty re) (hp : p < m) (hi : i ≤ n) (hw : w + 1 < 64) (h : 9 ≤ K p)
    (hq : Q (nI i) (sp, de, ro, nI n, nI (w + 1 + 1), dk, df, ds, dg, sk, ki, fi, se, ty, re, upd (upd ta w (nI (100 + 16 * (K p - 9) + i))) (w + 1) (nI (F p)), upd (upd wn w 0) (w + 1) x, gr)) : wpY_doPart Q (sp, de, ro, nI n, nI w, dk, df, ds, dg, sk, ki, fi, se, ty, re, ta, wn, gr) (nI p) (nI i) x := by
  obtain ⟨wf, hm, hn, hk, hr⟩ := H
  have cp : (nI p).toNatClampNeg = p := nI_clamp (by omega)
  have vp : vp_in (nI p) 16 := vp_in_nI (by omega) (by omega)
  have hF := (wf p hp).2 (by omega)
  have hK := (wf p hp).1
  have ef : fi (nI p).toNatClampNeg = nI (F p) := by rw [cp]; exact ((hk p hp).2 (by omega)).1
  have ne : ∀ c, c < 9 → ¬ nI (K p) = nI c := fun c hc e => by
    have := (nI_eq (by omega) (by omega)).mp e
    omega
  refine ⟨vp, nm_r (e' := nI (K p)) (by rw [cp]; exact (hk p hp).1) (br_t (nI_le (a := 4) (by omega) (by omega)) (br_f (ne 5 (by omega)) (br_f (ne 6 (by omega)) (br_f (ne 7 (by omega)) (br_f (ne 8 (by omega)) (br_f (nI_ge (a := 8) (by omega) (by omega)) ?_))))))⟩
  rw [yq_8 h]
  refine yl_plan (by omega) ⟨vp, ?_⟩
  rw [ef]
  exact yl_plan2 hw hq
end
theorem ym_st {post : Int32 → SY → Prop} {N p w : Nat} {i : Int32} (hp : p < 16) (hw : w < 64) (ht : ta w = nI p)
    (h : wpY_doPart (fun r u => match u with | (sp, de, ro, ln, wa, dk, df, ds, dg, sk, ki, fi, se, ty, re, ta, wn, gr) => wY_doRun_37 post N r sp de ro ln wa dk df ds dg sk ki fi se ty re ta wn gr) (sp, de, ro, ln, nI w, dk, df, ds, dg, sk, ki, fi, se, ty, re, ta, wn, gr) (nI p) i (wn w)) : wY_doRun_37 post (N + 1) i sp de ro ln (nI (w + 1)) dk df ds dg sk ki fi se ty re ta wn gr := by
  have cw : (nI w).toNatClampNeg = w := nI_clamp (by omega)
  have vw : vp_in (nI w) 64 := vp_in_nI hw (by omega)
  rw [wY_doRun_37]
  refine br_f (nI_nle (by omega) (by omega)) (nm_r (nI_pred w) ⟨vw, nm_r (e' := nI p) (by rw [cw]; exact ht) (br_t (nI_lt (b := 100) (by omega) (by decide)) ⟨vw, ?_⟩)⟩)
  rw [cw]
  exact h
theorem ym_gt {post : Int32 → SY → Prop} {N g i j w : Nat} (hg : g < 3) (hi : i ≤ 10) (hj : j ≤ 10) (hw : w < 64) (ht : ta w = nI (100 + 16 * g + i))
    (h : wY_doRun_37 post N (nI j) sp de ro ln (nI w) dk df ds dg sk ki fi se ty re ta wn (upd gr g (nI (16 * i + j)))) : wY_doRun_37 post (N + 1) (nI j) sp de ro ln (nI (w + 1)) dk df ds dg sk ki fi se ty re ta wn gr := by
  have cw : (nI w).toNatClampNeg = w := nI_clamp (by omega)
  have vw : vp_in (nI w) 64 := vp_in_nI hw (by omega)
  have e1 : nI (100 + 16 * g + i) - 100 = nI (16 * g + i) := by
    rw [show (100 : Int32) = nI 100 from rfl, pk_sub (by omega)]
    exact congrArg nI (by omega)
  have e2 : nI (16 * g + i) / 16 = nI g := by
    rw [show (16 : Int32) = nI 16 from rfl, pk_div (by omega) (by omega) (by omega)]
    exact congrArg nI (by omega)
  have e3 : nI (16 * g + i) - nI g * 16 = nI i := by
    rw [show (16 : Int32) = nI 16 from rfl, pk_mul, pk_sub (by omega)]
    exact congrArg nI (by omega)
  have e4 : 16 * nI i + nI j = nI (16 * i + j) := by rw [show (16 : Int32) = nI 16 from rfl, pk_mul, nI_add]
  rw [wY_doRun_37]
  refine br_f (nI_nle (by omega) (by omega)) (nm_r (nI_pred w) ⟨vw, nm_r (e' := nI (100 + 16 * g + i)) (by rw [cw]; exact ht) (br_f (nI_nlt (b := 100) (by omega) (by omega)) ⟨by decide, by decide, ?_⟩)⟩)
  rw [e1, e2, e3, e4]
  exact ⟨vp_in_nI hg (by omega), nm_r (e' := upd gr g (nI (16 * i + j))) (by rw [nI_clamp (by omega)]) h⟩
theorem ym_ok {post : Int32 → SY → Prop} {K F S : Nat → Nat} {n m : Nat} (H : yd_ok K F S n m ki fi se ty re) : ym_R (fun N i w tk wt gs => wY_doRun_37 post N (nI i) sp de ro (nI n) (nI w) dk df ds dg sk ki fi se ty re tk wt gs) K F S ty n m := by
  intro p i w tk wt gs hp hi hw ht
  have hm := H.2.1
  have hn := H.2.2.1
  refine ⟨fun h => ⟨1, fun N z => ym_st (by omega) (by omega) ht (yd_3 H hp hi h z)⟩, fun h => ⟨1, fun N z => ym_st (by omega) (by omega) ht (yd_4 H hp hi h z)⟩, fun h => ⟨yq_s (fun j => (ru_sel (bt (wt w)) (ru_tb K F S ty n (S p) j)).isSome) (n + 1), fun k hk => ?_, 1, fun N z => ym_st (by omega) (by omega) ht (yd_5 H hp hi hw h z)⟩, fun h => ⟨fun q => ⟨1, fun N z => ym_st (by omega) (by omega) ht (yd_6 H hp hi hw h (fun _ => z) (fun e => absurd q e))⟩, fun q => ⟨1, fun N z => ym_st (by omega) (by omega) ht (yd_6 H hp hi hw h (fun e => absurd e q) (fun _ => z))⟩⟩,
    fun h => ⟨yd_y K F S ty n p i (wt w), fun k hk => ?_, fun q => ⟨1, fun N z => ym_st (by omega) (by omega) ht (yd_7 H hp hi hw h (fun _ => z) (fun e => absurd q e))⟩, fun q => ⟨1, fun N z => ym_st (by omega) (by omega) ht (yd_7 H hp hi hw h (fun e => absurd e q) (fun _ => z))⟩⟩,
    fun h hb => ⟨1, fun N z => ym_st (by omega) (by omega) ht (yd_8 H hp hi h hb z)⟩, fun h => ⟨1, fun N z => ym_st (by omega) (by omega) ht (yd_9 H hp hi hw h z)⟩⟩
  · rw [yq_b _ (n + 1) (by omega) k, decide_eq_true (by omega), Bool.true_and]
  · unfold yd_y
    rw [b_and, yq_b _ (n + 1) (by omega) k, decide_eq_true (show k < n + 1 by omega), Bool.true_and, yb_hi i (by omega) k (by omega), Bool.and_comm]
theorem ym_og {post : Int32 → SY → Prop} {n : Nat} : ym_G (fun N i w tk wt gs => wY_doRun_37 post N (nI i) sp de ro (nI n) (nI w) dk df ds dg sk ki fi se ty re tk wt gs) := by
  intro g i j w tk wt gs hg hi hj hw ht
  exact ⟨1, fun N z => ym_gt hg hi hj hw ht z⟩
theorem ym_end {post : Int32 → SY → Prop} {N : Nat} {j : Int32} (h : post j (sp, de, ro, ln, nI 0, dk, df, ds, dg, sk, ki, fi, se, ty, re, ta, wn, gr)) : wY_doRun_37 post (N + 1) j sp de ro ln (nI 0) dk df ds dg sk ki fi se ty re ta wn gr := by
  rw [wY_doRun_37]
  exact br_t (by decide) h
theorem yl_r2 {post : Int32 → SY → Prop} {K F S : Nat → Nat} {n r i : Nat} {x : Int32} {s : ru_R} (H : yd_ok K F S n (r + 1) ki fi se ty re) (hi : i ≤ n) (hs : ru_sel (bt x) (ru_tb K F S ty n r i) = some s)
    (hp : ∀ ta' wn' gr', (∀ g, g < 3 → gr' g = s.2 g) → post (nI s.1) (sp, de, nI r, nI n, nI 0, dk, df, ds, dg, sk, ki, fi, se, ty, re, ta', wn', gr')) :
    ∀ (d g : Nat) (gr : Nat → Int32), 3 < d + g → g ≤ 3 → (∀ h, h < g → gr h = -4) → wY_doRun_2 post (nI i) x sp de (nI r) (nI n) wa d (nI g) dk df ds dg sk ki fi se ty re ta wn gr := by
  intro d
  induction d with
  | zero => intro g gr h1 h2; omega
  | succ d ih =>
    intro g gr h1 h2 h3
    rw [wY_doRun_2]
    by_cases q : g = 3
    · subst q
      refine br_t (show (3 : Int32) ≤ nI 3 from by decide) ?_
      have hr16 := H.2.1
      obtain ⟨tk', wt', _, c, hc⟩ := ym_run (ym_ok (post := post) (sp := sp) (de := de) (ro := nI r) (dk := dk) (df := df) (ds := ds) (dg := dg) (sk := sk) H) ym_og H.1 H.2.2.1 H.2.1 (11 * r + (10 - i) + 1) r i 0 (upd ta 0 (nI r)) (upd wn 0 x) gr s (by omega) (by omega) hi (by omega) pk_us (by rw [pk_us]; exact hs)
      refine yl_plan (w := 0) (by omega) ⟨0 + 1 + c, hc (0 + 1) (ym_end (hp tk' wt' _ (fun g hg => ?_)))⟩
      show (if s.2 g = -4 then gr g else s.2 g) = s.2 g
      by_cases e : s.2 g = -4
      · rw [if_pos e, e]
        exact h3 g hg
      · rw [if_neg e]
    · refine br_f (show ¬ (3 : Int32) ≤ nI g from nI_ge (b := 3) (by omega) (by omega)) ⟨vp_in_nI (by omega) (by omega), nm_r (e' := upd gr g (-4)) (by rw [nI_clamp (by omega)]) (nm_r (nI_1 g) (ih (g + 1) _ (by omega) (by omega) (fun h hh => ?_)))⟩
      by_cases e : h = g
      · rw [e, pk_us]
      · rw [pk_un e]
        exact h3 h (by omega)
theorem yl_run {post : Int32 → SY → Prop} {K F S : Nat → Nat} {n r i : Nat} {x p0 : Int32} {s : ru_R} (e0 : p0 = nI i) (H : yd_ok K F S n (r + 1) ki fi se ty re) (hi : i ≤ n) (hs : ru_sel (bt x) (ru_tb K F S ty n r i) = some s)
    (hp : ∀ ta' wn' gr', (∀ g, g < 3 → gr' g = s.2 g) → post (nI s.1) (sp, de, nI r, nI n, nI 0, dk, df, ds, dg, sk, ki, fi, se, ty, re, ta', wn', gr')) : wpY_doRun post (sp, de, nI r, nI n, wa, dk, df, ds, dg, sk, ki, fi, se, ty, re, ta, wn, gr) p0 x := by
  subst e0
  exact ⟨4, yl_r2 H hi hs hp 4 0 gr (by omega) (by omega) (fun h hh => by omega)⟩
end
end
section
/-! the questions: each side answers by the table's row of the whole pattern -/
def qa_f (L : Nat → List ru_R) (n : Nat) (f : Int32) : Option Nat := if f < 0 ∨ nI n < f then none else qu_f L (n + 1 - f.toNatClampNeg) f.toNatClampNeg
theorem qa_lo {L : Nat → List ru_R} {n : Nat} {f : Int32} (h : f < 0) : qa_f L n f = none := if_pos (Or.inl h)
theorem qa_hi {L : Nat → List ru_R} {n : Nat} {f : Int32} (h : nI n < f) : qa_f L n f = none := if_pos (Or.inr h)
theorem qa_in {L : Nat → List ru_R} {n j : Nat} (hn : n ≤ 10) (hj : j ≤ n) : qa_f L n (nI j) = qu_f L (n + 1 - j) j := by
  unfold qa_f
  rw [if_neg (fun h => h.elim (nI_pos (by omega)) (nI_nlt hj (by omega))), nI_clamp (by omega)]
theorem qa_cs (n : Nat) (hn : n ≤ 10) (f : Int32) : f < 0 ∨ (¬ f < 0 ∧ nI n < f) ∨ ∃ j, j ≤ n ∧ f = nI j := by
  by_cases h : f < 0
  · exact Or.inl h
  · obtain ⟨j, hj, rfl⟩ := nI_of h
    by_cases z : j ≤ n
    · exact Or.inr (Or.inr ⟨j, z, rfl⟩)
    · exact Or.inr (Or.inl ⟨h, nI_lt (by omega) hj⟩)
theorem qa_some {L : Nat → List ru_R} {n i : Nat} {f : Int32} (hn : n ≤ 10) (h : qa_f L n f = some i) : i ≤ n ∧ ¬ (L i).isEmpty = true := by
  rcases qa_cs n hn f with a | a | ⟨j, hj, rfl⟩
  · rw [qa_lo a] at h; cases h
  · rw [qa_hi a.2] at h; cases h
  · rw [qa_in hn hj] at h
    have h1 := qu_f_some _ _ _ h
    exact ⟨by omega, by rw [h1.2.2]; decide⟩
theorem qa_z {R : Int32} {l : List ru_R} (hR : ∀ e, bt R e = ru_any l e) : R = 0 ↔ l.isEmpty = true := by
  cases l with
  | nil => exact ⟨fun _ => rfl, fun _ => b_ext (fun j _ => by rw [hR, b_0]; rfl)⟩
  | cons r l =>
    refine ⟨fun h => ?_, fun h => (nomatch h)⟩
    have h1 := hR r.1
    rw [h, b_0] at h1
    have h2 : ru_any (r :: l) r.1 = true := ru_any_iff.mpr ⟨r, List.mem_cons_self, rfl⟩
    rw [h2] at h1
    cases h1
section
variable {sp de ro ln wa : Int32} {dk df ds dg sk ki fi se ty re ta wn gr : Nat → Int32} {post : Int32 → SY → Prop} {K F S : Nat → Nat} {n r : Nat}
def yd_0 (K F S : Nat → Nat) (n r : Nat) (ki fi se : Nat → Int32) : Prop := ru_wf K F S (r + 1) ∧ r < 16 ∧ n ≤ 10 ∧ (∀ p, p < r + 1 → ki p = nI (K p) ∧ (5 ≤ K p → fi p = nI (F p) ∧ se p = nI (S p)))
theorem yd_1 (H : yd_0 K F S n r ki fi se) (hr : yr_ok re (ru_tb K F S ty n) n (r + 1)) : yd_ok K F S n (r + 1) ki fi se ty re := ⟨H.1, by have := H.2.1; omega, H.2.2.1, H.2.2.2, hr⟩
theorem yl_f6 (H : yd_ok K F S n (r + 1) ki fi se ty re) : ∀ (d j : Nat), j + d = n + 1 → post (qu_o (qu_f (ru_tb K F S ty n r) d j)) (sp, de, nI r, nI n, wa, dk, df, ds, dg, sk, ki, fi, se, ty, re, ta, wn, gr) → wY_find_6 post sp de (nI r) (nI n) wa dk df ds dg sk ki fi se ty re ta wn gr (d + 1) (nI j) := by
  have hn := H.2.2.1
  have hm := H.2.1
  intro d
  induction d with
  | zero =>
    intro j hj hp
    rw [wY_find_6]
    exact br_f (nI_pos (by omega)) (br_t (nI_lt (by omega) (by omega)) hp)
  | succ d ih =>
    intro j hj hp
    rw [wY_find_6]
    have hz := qa_z (H.2.2.2.2 r (by omega) j (by omega))
    refine br_f (nI_pos (by omega)) (br_f (nI_nlt (by omega) (by omega)) ⟨yi_in (by omega) (by omega), ?_⟩)
    rw [yi_cl (by omega)]
    refine br_c (fun z => nm_r (nI_1 j) (ih (j + 1) (by omega) ?_)) (fun z => ?_)
    · rw [show qu_f (ru_tb K F S ty n r) (d + 1) j = qu_f (ru_tb K F S ty n r) d (j + 1) from if_pos (hz.mp z)] at hp
      exact hp
    · rw [show qu_f (ru_tb K F S ty n r) (d + 1) j = some j from if_neg (fun e => z (hz.mpr e))] at hp
      exact hp
theorem yl_find {f : Int32} (H : yd_0 K F S n r ki fi se) (hp : ∀ re', yd_ok K F S n (r + 1) ki fi se ty re' → post (qu_o (qa_f (ru_tb K F S ty n r) n f)) (sp, de, nI r, nI n, wa, dk, df, ds, dg, sk, ki, fi, se, ty, re', ta, wn, gr)) : wpY_find post (sp, de, nI r, nI n, wa, dk, df, ds, dg, sk, ki, fi, se, ty, re, ta, wn, gr) f := by
  have hn := H.2.2.1
  refine yl_fill H.1 H.2.1 hn H.2.2.2 (fun re' hr => ?_)
  have hq := hp re' (yd_1 H hr)
  rcases qa_cs n hn f with a | a | ⟨j, hj, rfl⟩
  · rw [qa_lo a] at hq
    exact ⟨0 + 1, by rw [wY_find_6]; exact br_t a hq⟩
  · rw [qa_hi a.2] at hq
    exact ⟨0 + 1, by rw [wY_find_6]; exact br_f a.1 (br_t a.2 hq)⟩
  · rw [qa_in hn hj] at hq
    exact ⟨n + 1 - j + 1, yl_f6 (yd_1 H hr) (n + 1 - j) j (by omega) hq⟩
theorem yl_end {f : Int32} (H : yd_0 K F S n r ki fi se) (h0 : qa_f (ru_tb K F S ty n r) n f = none → ∀ re', post (-4) (sp, de, nI r, nI n, wa, dk, df, ds, dg, sk, ki, fi, se, ty, re', ta, wn, gr))
    (h1 : ∀ i, qa_f (ru_tb K F S ty n r) n f = some i → ∀ re' ta' wn' gr', (∀ g, g < 3 → gr' g = (qu_hd (ru_tb K F S ty n r i)).2 g) → post (nI (qu_hd (ru_tb K F S ty n r i)).1) (sp, de, nI r, nI n, nI 0, dk, df, ds, dg, sk, ki, fi, se, ty, re', ta', wn', gr')) : wpY_end post (sp, de, nI r, nI n, wa, dk, df, ds, dg, sk, ki, fi, se, ty, re, ta, wn, gr) f := by
  have hn := H.2.2.1
  refine yl_find H (fun re' H' => ?_)
  cases q : qa_f (ru_tb K F S ty n r) n f with
  | none => exact br_f (by decide) (h0 q re')
  | some i =>
    have hi := qa_some hn q
    have hs := qu_hd_sel (x := 2047) hi.2 (fun s hs => by
      have := (ru_tb_ok (K := K) (F := F) (S := S) (t := ty) (p := r) hi.1).1 s hs
      rw [yb_2047, decide_eq_true (by omega)])
    exact br_t (nI_pos' (by omega)) (yl_run rfl H' hi.1 hs.1 (fun ta' wn' gr' hg => h1 i q re' ta' wn' gr' hg))
theorem yl_groupIn {f g : Int32} (H : yd_0 K F S n r ki fi se) (h0 : (qa_f (ru_tb K F S ty n r) n f = none ∨ g < 0 ∨ 2 < g) → ∀ wa' re' ta' wn' gr', post (-4) (sp, de, nI r, nI n, wa', dk, df, ds, dg, sk, ki, fi, se, ty, re', ta', wn', gr'))
    (h1 : ∀ i g', qa_f (ru_tb K F S ty n r) n f = some i → g = nI g' → g' < 3 → ∀ re' ta' wn' gr', post ((qu_hd (ru_tb K F S ty n r i)).2 g') (sp, de, nI r, nI n, nI 0, dk, df, ds, dg, sk, ki, fi, se, ty, re', ta', wn', gr')) : wpY_groupIn post (sp, de, nI r, nI n, wa, dk, df, ds, dg, sk, ki, fi, se, ty, re, ta, wn, gr) f g := by
  have hn := H.2.2.1
  unfold wpY_groupIn
  refine yl_end H (fun q re' => ?_) (fun i q re' ta' wn' gr' hg => ?_)
  · exact br_t (by decide) (h0 (Or.inl q) _ _ _ _ _)
  have hi := qa_some hn q
  have hs := qu_hd_sel (x := 2047) hi.2 (fun s hs => by
      have := (ru_tb_ok (K := K) (F := F) (S := S) (t := ty) (p := r) hi.1).1 s hs
      rw [yb_2047, decide_eq_true (by omega)])
  have hb := (ru_tb_ok (K := K) (F := F) (S := S) (t := ty) (p := r) hi.1).1 _ hs.2.1
  refine br_f (nI_pos (by omega)) (br_c (fun z => h0 (Or.inr (Or.inl z)) _ _ _ _ _) (fun z => br_c (fun w => ?_) (fun w => h0 (Or.inr (Or.inr (Int32.not_le.mp w))) _ _ _ _ _)))
  obtain ⟨g', hg', rfl⟩ := nI_of2 (n := 2) (by decide) z w
  refine ⟨vp_in_nI (by omega) (by omega), ?_⟩
  rw [nI_clamp (by omega), hg g' (by omega)]
  exact h1 i g' q rfl (by omega) re' ta' wn' gr'
theorem yl_spans {i j : Int32} (H : yd_0 K F S n r ki fi se) (h0 : (i < 0 ∨ nI n < i ∨ j < 0 ∨ nI n < j) → post 0 (sp, de, nI r, nI n, wa, dk, df, ds, dg, sk, ki, fi, se, ty, re, ta, wn, gr))
    (h1 : ∀ i' j', i = nI i' → j = nI j' → i' ≤ n → j' ≤ n → ∀ re', yd_ok K F S n (r + 1) ki fi se ty re' → post (if ru_any (ru_tb K F S ty n r i') j' = true then 1 else 0) (sp, de, nI r, nI n, wa, dk, df, ds, dg, sk, ki, fi, se, ty, re', ta, wn, gr)) : wpY_spans post (sp, de, nI r, nI n, wa, dk, df, ds, dg, sk, ki, fi, se, ty, re, ta, wn, gr) i j := by
  have hn := H.2.2.1
  have hr := H.2.1
  refine br_c (fun z => h0 (Or.inl z)) (fun z => br_c (fun w => h0 (Or.inr (Or.inl w))) (fun w => br_c (fun z' => h0 (Or.inr (Or.inr (Or.inl z')))) (fun z' => br_c (fun w' => ?_) (fun w' => h0 (Or.inr (Or.inr (Or.inr (Int32.not_le.mp w'))))))))
  obtain ⟨i', hi1, rfl⟩ := nI_of z
  obtain ⟨j', hj1, rfl⟩ := nI_of z'
  have hi2 : i' ≤ n := Nat.not_lt.mp (fun e => w (nI_lt e hi1))
  have hj2 : j' ≤ n := (nI_leI hj1 (by omega)).mp w'
  refine yl_fill H.1 H.2.1 hn H.2.2.2 (fun re' hr' => ⟨yi_in (by omega) (by omega), ?_⟩)
  have hq := h1 i' j' rfl rfl hi2 hj2 re' (yd_1 H hr')
  rw [yi_cl (by omega)]
  have hb := yb_t (re' (11 * r + i')) (k := j') (by omega)
  rw [hr' r (by omega) i' hi2 j'] at hb
  refine br_c (fun e => ?_) (fun e => ?_)
  · rw [if_pos (hb.mp e)] at hq
    exact hq
  · rw [if_neg (fun c => e (hb.mpr c))] at hq
    exact hq
theorem yl_giw {g : Int32} (H : yd_0 K F S n r ki fi se) (h0 : (g < 0 ∨ 2 < g ∨ ru_any (ru_tb K F S ty n r 0) n = false) → ∀ wa' re' ta' wn' gr', post (-4) (sp, de, nI r, nI n, wa', dk, df, ds, dg, sk, ki, fi, se, ty, re', ta', wn', gr'))
    (h1 : ∀ g' s, g = nI g' → g' < 3 → s ∈ ru_tb K F S ty n r 0 → s.1 = n → ∀ re' ta' wn' gr', post (s.2 g') (sp, de, nI r, nI n, nI 0, dk, df, ds, dg, sk, ki, fi, se, ty, re', ta', wn', gr')) : wpY_groupInWhole post (sp, de, nI r, nI n, wa, dk, df, ds, dg, sk, ki, fi, se, ty, re, ta, wn, gr) g := by
  have hn := H.2.2.1
  refine br_c (fun z => h0 (Or.inl z) _ _ _ _ _) (fun z => br_c (fun w => h0 (Or.inr (Or.inl w)) _ _ _ _ _) (fun w => ?_))
  obtain ⟨g', hg', rfl⟩ := nI_of2 (n := 2) (M := 2) (by decide) z (Int32.not_lt.mp w)
  refine yl_spans H (fun q => ?_) (fun i' j' ei ej hi hj re' H' => ?_)
  · rcases q with q | q | q | q
    · exact absurd q (by decide)
    · exact absurd q (nI_nlt (a := n) (b := 0) (by omega) (by omega))
    · exact absurd q (nI_pos (by omega))
    · exact absurd q (nI_nlt (Nat.le_refl n) (by omega))
  · have e1 : 0 = i' := (nI_eq (a := 0) (by omega) (by omega)).mp ei
    have e2 : n = j' := (nI_eq (by omega) (by omega)).mp ej
    subst e1 e2
    by_cases c : ru_any (ru_tb K F S ty n r 0) n = true
    · rw [if_pos c]
      obtain ⟨a, ha, hb⟩ := ru_any_iff.mp c
      have hq : (ru_sel (bt ((1 : Int32) <<< (nI n &&& 31))) (ru_tb K F S ty n r 0)).isSome = true := ru_sel_is.mpr ⟨a, ha, by rw [yb_one (by omega), hb]; exact beq_self_eq_true n⟩
      obtain ⟨s, hs⟩ := Option.isSome_iff_exists.mp hq
      have h2 := ru_sel_some hs
      have h3 : s.1 = n := by
        have h4 := h2.2
        rw [yb_one (by omega)] at h4
        exact eq_of_beq h4
      refine br_f (by decide) (yl_run (i := 0) rfl H' (by omega) hs (fun ta' wn' gr' hg => ⟨vp_in_nI (by omega) (by omega), ?_⟩))
      rw [nI_clamp (by omega), hg g' (by omega)]
      exact h1 g' s rfl (by omega) h2.1 h3 re' ta' wn' gr'
    · rw [if_neg c]
      exact br_t rfl (h0 (Or.inr (Or.inr (by simpa using c))) _ _ _ _ _)
end
end
section
/-! count and longest of the reference; the component's questions -/
section
variable {sp de ro ln wa : Int32} {dk df ds dg sk ki fi se ty re ta wn gr : Nat → Int32} {post : Int32 → SY → Prop} {K F S : Nat → Nat} {n r : Nat}
def qh_c (a : Int32) (_ _ : Nat) : Int32 := a + 1
def qh_l (a : Int32) (i e : Nat) : Int32 := if nI e - nI i ≤ a then a else nI e - nI i
theorem qn_f {L : Nat → List ru_R} {h : Int32 → Nat → Nat → Int32} {f i : Nat} {a : Int32} (hn : n ≤ 10) (hf : f ≤ n) (hL : ∀ j, j ≤ n → ru_ok j n (L j)) (q : qa_f L n (nI f) = some i) :
    qu_all L n h f a = qu_all L n h (qu_nx i (qu_hd (L i)).1) (h a i (qu_hd (L i)).1) ∧ f ≤ i ∧ i ≤ n ∧ i ≤ (qu_hd (L i)).1 ∧ (qu_hd (L i)).1 ≤ n := by
  have hi := qa_some hn q
  rw [qa_in hn hf] at q
  have h1 := qu_f_some _ _ _ q
  have h2 := (qu_all_f (L := L) (n := n) (h := h) a (n + 1 - f) f (by omega)).2 i q
  have hm : qu_hd (L i) ∈ L i := by
    cases hc : L i with
    | nil => rw [hc] at hi; exact absurd rfl hi.2
    | cons x l => exact List.mem_cons_self
  have hb := (hL i hi.1).1 _ hm
  exact ⟨h2.trans (qu_all_ne hi.1 hi.2), h1.1, hi.1, hb.1, hb.2⟩
theorem qn_0 {L : Nat → List ru_R} {h : Int32 → Nat → Nat → Int32} {f : Nat} {a : Int32} (hn : n ≤ 10) (hf : f ≤ n) (q : qa_f L n (nI f) = none) : qu_all L n h f a = a := by
  rw [qa_in hn hf] at q
  exact (qu_all_f (L := L) (n := n) (h := h) a (n + 1 - f) f (by omega)).1 q
theorem yl_c4 (H : yd_0 K F S n r ki fi se) : ∀ (d f : Nat) (a wa : Int32) (re ta wn gr : Nat → Int32), n + 1 < d + f → f ≤ n + 1 → (∀ wa re ta wn gr, post (qu_all (ru_tb K F S ty n r) n qh_c f a) (sp, de, nI r, nI n, wa, dk, df, ds, dg, sk, ki, fi, se, ty, re, ta, wn, gr)) → wY_count_4 post d a (nI f) sp de (nI r) (nI n) wa dk df ds dg sk ki fi se ty re ta wn gr := by
  have hn := H.2.2.1
  intro d
  induction d with
  | zero => intro f a wa re ta wn gr h1 h2; omega
  | succ d ih =>
    intro f a wa re ta wn gr h1 h2 hp
    rw [wY_count_4]
    by_cases w : f = n + 1
    · rw [qu_all_gt (by omega)] at hp
      rw [w]
      exact br_t (nI_lt (by omega) (by omega)) (hp _ _ _ _ _)
    · refine br_f (nI_nlt (by omega) (by omega)) (yl_find H (fun re' H' => ?_))
      cases q : qa_f (ru_tb K F S ty n r) n (nI f) with
      | none =>
        rw [qn_0 hn (by omega) q] at hp
        exact br_t (by decide) (hp _ _ _ _ _)
      | some i =>
        obtain ⟨e1, b1, b2, b3, b4⟩ := qn_f (h := qh_c) (a := a) hn (by omega) (fun j hj => ru_tb_ok hj) q
        rw [e1] at hp
        refine br_f (nI_pos (by omega)) (yl_find H (fun re2 H2 => ?_))
        rw [q]
        refine yl_end H (fun q' re3 => ?_) (fun i' q' re3 ta3 wn3 gr3 hg => ?_)
        · rw [q] at q'; cases q'
        · have ei : i = i' := Option.some.inj (q.symm.trans q')
          subst ei
          have hx := qu_nx_gt i (qu_hd (ru_tb K F S ty n r i)).1
          refine nm_e (br_c (fun e => ?_) (fun e => ?_))
          · have e2 : (qu_hd (ru_tb K F S ty n r i)).1 = i := (nI_eq (by omega) (by omega)).mp e
            have e3 : qu_nx i (qu_hd (ru_tb K F S ty n r i)).1 = (qu_hd (ru_tb K F S ty n r i)).1 + 1 := by
              unfold qu_nx
              rw [if_pos (by omega)]
              omega
            rw [e3] at hp
            exact nm_r (nI_1 _) (ih _ _ _ _ _ _ _ (by omega) (by omega) hp)
          · have e2 : (qu_hd (ru_tb K F S ty n r i)).1 ≠ i := fun z => e (by rw [z]; rfl)
            have e3 : qu_nx i (qu_hd (ru_tb K F S ty n r i)).1 = (qu_hd (ru_tb K F S ty n r i)).1 := by
              unfold qu_nx
              rw [if_neg (by omega)]
            rw [e3] at hp
            exact ih _ _ _ _ _ _ _ (by omega) (by omega) hp
theorem yl_count (H : yd_0 K F S n r ki fi se) (hp : ∀ wa re ta wn gr, post (qu_all (ru_tb K F S ty n r) n qh_c 0 0) (sp, de, nI r, nI n, wa, dk, df, ds, dg, sk, ki, fi, se, ty, re, ta, wn, gr)) : wpY_count post (sp, de, nI r, nI n, wa, dk, df, ds, dg, sk, ki, fi, se, ty, re, ta, wn, gr) :=
  ⟨n + 2, yl_c4 H (n + 2) 0 0 wa re ta wn gr (by omega) (by omega) hp⟩
theorem yl_l5 (H : yd_0 K F S n r ki fi se) : ∀ (d f : Nat) (a wa : Int32) (re ta wn gr : Nat → Int32), n + 1 < d + f → f ≤ n + 1 → (∀ wa re ta wn gr, post (qu_all (ru_tb K F S ty n r) n qh_l f a) (sp, de, nI r, nI n, wa, dk, df, ds, dg, sk, ki, fi, se, ty, re, ta, wn, gr)) → wY_longest_5 post d a (nI f) sp de (nI r) (nI n) wa dk df ds dg sk ki fi se ty re ta wn gr := by
  have hn := H.2.2.1
  intro d
  induction d with
  | zero => intro f a wa re ta wn gr h1 h2; omega
  | succ d ih =>
    intro f a wa re ta wn gr h1 h2 hp
    rw [wY_longest_5]
    by_cases w : f = n + 1
    · rw [qu_all_gt (by omega)] at hp
      rw [w]
      exact br_t (nI_lt (by omega) (by omega)) (hp _ _ _ _ _)
    · refine br_f (nI_nlt (by omega) (by omega)) (yl_find H (fun re' H' => ?_))
      cases q : qa_f (ru_tb K F S ty n r) n (nI f) with
      | none =>
        rw [qn_0 hn (by omega) q] at hp
        exact br_t (by decide) (hp _ _ _ _ _)
      | some i =>
        obtain ⟨e1, b1, b2, b3, b4⟩ := qn_f (h := qh_l) (a := a) hn (by omega) (fun j hj => ru_tb_ok hj) q
        rw [e1] at hp
        refine br_f (nI_pos (by omega)) (yl_find H (fun re2 H2 => ?_))
        rw [q]
        refine yl_end H (fun q' re3 => ?_) (fun i' q' re3 ta3 wn3 gr3 hg => ?_)
        · rw [q] at q'; cases q'
        · have ei : i = i' := Option.some.inj (q.symm.trans q')
          subst ei
          have hx := qu_nx_gt i (qu_hd (ru_tb K F S ty n r i)).1
          have k50 : ∀ z : Int32, z = qh_l a i (qu_hd (ru_tb K F S ty n r i)).1 → wY_longest_50 post (wY_longest_5 post d) (nI i) (nI (qu_hd (ru_tb K F S ty n r i)).1) z sp de (nI r) (nI n) (nI 0) dk df ds dg sk ki fi se ty re3 ta3 wn3 gr3 := by
            intro z hz
            subst hz
            refine br_c (fun e => ?_) (fun e => ?_)
            · have e2 : (qu_hd (ru_tb K F S ty n r i)).1 = i := (nI_eq (by omega) (by omega)).mp e
              have e3 : qu_nx i (qu_hd (ru_tb K F S ty n r i)).1 = (qu_hd (ru_tb K F S ty n r i)).1 + 1 := by
                unfold qu_nx
                rw [if_pos (by omega)]
                omega
              rw [e3] at hp
              exact nm_r (nI_1 _) (ih _ _ _ _ _ _ _ (by omega) (by omega) hp)
            · have e2 : (qu_hd (ru_tb K F S ty n r i)).1 ≠ i := fun z => e (by rw [z])
              have e3 : qu_nx i (qu_hd (ru_tb K F S ty n r i)).1 = (qu_hd (ru_tb K F S ty n r i)).1 := by
                unfold qu_nx
                rw [if_neg (by omega)]
              rw [e3] at hp
              exact ih _ _ _ _ _ _ _ (by omega) (by omega) hp
          exact br_c (fun e => k50 _ (if_pos e).symm) (fun e => k50 _ (if_neg e).symm)
theorem yl_longest (H : yd_0 K F S n r ki fi se) (hp : ∀ wa re ta wn gr, post (qu_all (ru_tb K F S ty n r) n qh_l 0 (-4)) (sp, de, nI r, nI n, wa, dk, df, ds, dg, sk, ki, fi, se, ty, re, ta, wn, gr)) : wpY_longest post (sp, de, nI r, nI n, wa, dk, df, ds, dg, sk, ki, fi, se, ty, re, ta, wn, gr) :=
  ⟨n + 2, yl_l5 H (n + 2) 0 (-4) wa re ta wn gr (by omega) (by omega) hp⟩
end
def xd_ok (L : Nat → List ru_R) (n r : Nat) (C E B G : Nat → Int32) : Prop := r < 16 ∧ n ≤ 10 ∧ ∀ j, j ≤ n → ru_ok j n (L j) ∧ xr_Rep C E B G (r * 11 + j) (L j)
section
variable {bp he up tl : Int32} {bk bv bf bs bg st uk uv uf us tx C E B G : Nat → Int32} {post : Int32 → Prop} {L : Nat → List ru_R} {n r i : Nat}
theorem xl_sow (h : post (nI (r * 11 + i))) : wpX_startOfWhole post (bp, he, nI (r + 1), tl, bk, bv, bf, bs, bg, st, uk, uv, uf, us, tx, C, E, B, G) (nI i) := by
  show post (((nI (r + 1) - 1) * 11) + nI i)
  rw [nI_pred, xi_11]
  exact h
theorem xl_wb (H : xd_ok L n r C E B G) (hi : i ≤ n) (h0 : (L i).isEmpty = true → post 0) (h1 : ¬ (L i).isEmpty = true → post 1) : wpX_wholeBegins post (bp, he, nI (r + 1), tl, bk, bv, bf, bs, bg, st, uk, uv, uf, us, tx, C, E, B, G) (nI i) := by
  obtain ⟨hr, hn, H⟩ := H
  have hR := (H i hi).2
  have hl := ru_len (H i hi).1
  unfold wpX_wholeBegins
  refine xl_sow ⟨vp_in_nI (by omega) (by omega), ?_⟩
  rw [nI_clamp (by omega), hR.1]
  by_cases z : (L i).isEmpty = true
  · rw [List.length_eq_zero_iff.mpr (List.isEmpty_iff.mp z)]
    exact br_t (by decide) (h0 z)
  · have h2 : 0 < (L i).length := List.length_pos_iff.mpr (fun e => z (List.isEmpty_iff.mpr e))
    exact br_f (nI_nle h2 (by omega)) (h1 z)
theorem xl_pe (H : xd_ok L n r C E B G) (hi : i ≤ n) (hz : ¬ (L i).isEmpty = true) (hp : post (nI (qu_hd (L i)).1)) : wpX_preferredEnd post (bp, he, nI (r + 1), tl, bk, bv, bf, bs, bg, st, uk, uv, uf, us, tx, C, E, B, G) (nI i) := by
  obtain ⟨hr, hn, H⟩ := H
  have hR := (H i hi).2
  have h0 : (L i)[0]? = some (qu_hd (L i)) := by
    cases hc : L i with
    | nil => rw [hc] at hz; exact absurd rfl hz
    | cons x l => rfl
  have e1 : nI (r * 11 + i) * 11 = nI ((r * 11 + i) * 11) := by rw [xi_c11, pk_mul]
  unfold wpX_preferredEnd
  refine xl_sow ?_
  rw [e1]
  refine ⟨vp_in_nI (by omega) (by omega), ?_⟩
  rw [nI_clamp (by omega)]
  have h2 := hR.2.1 0 _ h0
  rw [Nat.add_zero] at h2
  rw [h2]
  exact hp
theorem xl_gow {s : ru_R} {g : Nat} {p0 p1 : Int32} (e0 : p0 = nI i) (e1 : p1 = nI s.1) (H : xd_ok L n r C E B G) (hi : i ≤ n) (hs : s ∈ L i) (hg : g < 3) (hp : post (s.2 g)) : wpX_groupOfWhole post (bp, he, nI (r + 1), tl, bk, bv, bf, bs, bg, st, uk, uv, uf, us, tx, C, E, B, G) p0 p1 (nI g) := by
  subst e0 e1
  obtain ⟨hr, hn, H⟩ := H
  have hR := (H i hi).2
  have hb := (H i hi).1.1 s hs
  have ei : (nI (r * 11 + i) * 11 + nI s.1) * 3 + nI g = nI (((r * 11 + i) * 11 + s.1) * 3 + g) := by rw [xi_11, xi_3]
  unfold wpX_groupOfWhole
  refine xl_sow ?_
  rw [ei]
  refine ⟨vp_in_nI (by omega) (by omega), ?_⟩
  rw [nI_clamp (by omega), hR.2.2.2 s hs g hg]
  exact hp
theorem xl_wr {j : Nat} {p0 p1 : Int32} (e0 : p0 = nI i) (e1 : p1 = nI j) (H : xd_ok L n r C E B G) (hi : i ≤ n) (hj : j ≤ n) (hp : post (if ru_any (L i) j = true then 1 else 0)) : wpX_wholeRuns post (bp, he, nI (r + 1), tl, bk, bv, bf, bs, bg, st, uk, uv, uf, us, tx, C, E, B, G) p0 p1 := by
  subst e0 e1
  obtain ⟨hr, hn, H⟩ := H
  have hR := (H i hi).2
  unfold wpX_wholeRuns
  refine xl_sow ⟨xi_in (by omega) (by omega), ?_⟩
  rw [xi_cl (by omega), hR.2.2.1 j (by omega)]
  refine ⟨?_, hp⟩
  split <;> rfl
theorem xl_b13 (H : xd_ok L n r C E B G) : ∀ (d j : Nat), j + d = n + 1 → post (qu_o (qu_f L d j)) → wX_beginFrom_13 post bp he (nI (r + 1)) (nI n) bk bv bf bs bg st uk uv uf us tx C E B G (d + 1) (nI j) := by
  have hn := H.2.1
  intro d
  induction d with
  | zero =>
    intro j hj hp
    rw [wX_beginFrom_13]
    exact br_t (nI_lt (by omega) (by omega)) hp
  | succ d ih =>
    intro j hj hp
    rw [wX_beginFrom_13]
    refine br_f (nI_nlt (by omega) (by omega)) (xl_wb H (by omega) (fun z => ?_) (fun z => ?_))
    · rw [show qu_f L (d + 1) j = qu_f L d (j + 1) from if_pos z] at hp
      exact br_t rfl (nm_r (nI_1 j) (ih (j + 1) (by omega) hp))
    · rw [show qu_f L (d + 1) j = some j from if_neg z] at hp
      exact br_f (by decide) hp
theorem xl_bf {f : Int32} (H : xd_ok L n r C E B G) (hp : post (qu_o (qa_f L n f))) : wpX_beginFrom post (bp, he, nI (r + 1), nI n, bk, bv, bf, bs, bg, st, uk, uv, uf, us, tx, C, E, B, G) f := by
  have hn := H.2.1
  unfold wpX_beginFrom
  rcases qa_cs n hn f with a | a | ⟨j, hj, rfl⟩
  · rw [qa_lo a] at hp
    exact br_t a (br_t rfl hp)
  · rw [qa_hi a.2] at hp
    exact br_f a.1 (br_t a.2 (br_t rfl hp))
  · rw [qa_in hn hj] at hp
    exact br_f (nI_pos (by omega)) (br_f (nI_nlt (by omega) (by omega)) (br_f (by decide) ⟨n + 1 - j + 1, xl_b13 H (n + 1 - j) j (by omega) hp⟩))
def qm_x (i f : Nat) : Nat := if i < f then f else i
theorem xl_c6 (H : xd_ok L n r C E B G) : ∀ (d i f : Nat) (a : Int32), n + 1 < d + i → i ≤ n + 1 → f ≤ n → post (qu_all L n qh_c (qm_x i f) a) → wX_count_6 post bp he (nI (r + 1)) (nI n) bk bv bf bs bg st uk uv uf us tx C E B G d a (nI f) (nI i) := by
  have hn := H.2.1
  intro d
  induction d with
  | zero => intro i f a h1 h2; omega
  | succ d ih =>
    intro i f a h1 h2 h3 hp
    rw [wX_count_6]
    by_cases w : i = n + 1
    · rw [show qm_x i f = i from if_neg (by omega), qu_all_gt (by omega)] at hp
      exact br_t (nI_lt (by omega) (by omega)) hp
    · refine br_f (nI_nlt (by omega) (by omega)) ?_
      by_cases c : i < f
      · refine br_t (nI_lt c (by omega)) (nm_r (nI_1 i) (ih (i + 1) f a (by omega) (by omega) h3 ?_))
        rw [show qm_x i f = f from if_pos c] at hp
        rw [show qm_x (i + 1) f = f from by unfold qm_x; split <;> omega]
        exact hp
      · rw [show qm_x i f = i from if_neg c] at hp
        refine br_f (nI_nlt (by omega) (by omega)) (xl_wb H (by omega) (fun z => ?_) (fun z => ?_))
        · rw [qu_all_em (by omega) z] at hp
          refine br_t rfl (nm_r (nI_1 i) (ih (i + 1) f a (by omega) (by omega) h3 ?_))
          rw [show qm_x (i + 1) f = i + 1 from if_neg (by omega)]
          exact hp
        · rw [qu_all_ne (by omega) z] at hp
          have hm : qu_hd (L i) ∈ L i := by
            cases hc : L i with
            | nil => rw [hc] at z; exact absurd rfl z
            | cons x l => exact List.mem_cons_self
          have hb := (H.2.2 i (by omega)).1.1 _ hm
          refine br_f (by decide) (nm_e (xl_pe H (by omega) z (nm_r (nI_1 i) (ih (i + 1) _ _ (by omega) (by omega) (by omega) ?_))))
          rw [show qm_x (i + 1) (qu_hd (L i)).1 = qu_nx i (qu_hd (L i)).1 from by unfold qm_x qu_nx; split <;> split <;> omega]
          exact hp
theorem xl_count (H : xd_ok L n r C E B G) (hp : post (qu_all L n qh_c 0 0)) : wpX_count post (bp, he, nI (r + 1), nI n, bk, bv, bf, bs, bg, st, uk, uv, uf, us, tx, C, E, B, G) :=
  ⟨n + 2, xl_c6 H (n + 2) 0 0 0 (by omega) (by omega) (by omega) hp⟩
theorem xl_l7 (H : xd_ok L n r C E B G) : ∀ (d i f : Nat) (a : Int32), n + 1 < d + i → i ≤ n + 1 → f ≤ n → post (qu_all L n qh_l (qm_x i f) a) → wX_longest_7 post bp he (nI (r + 1)) (nI n) bk bv bf bs bg st uk uv uf us tx C E B G d a (nI f) (nI i) := by
  have hn := H.2.1
  intro d
  induction d with
  | zero => intro i f a h1 h2; omega
  | succ d ih =>
    intro i f a h1 h2 h3 hp
    rw [wX_longest_7]
    by_cases w : i = n + 1
    · rw [show qm_x i f = i from if_neg (by omega), qu_all_gt (by omega)] at hp
      exact br_t (nI_lt (by omega) (by omega)) hp
    · refine br_f (nI_nlt (by omega) (by omega)) ?_
      by_cases c : i < f
      · refine br_t (nI_lt c (by omega)) (nm_r (nI_1 i) (ih (i + 1) f a (by omega) (by omega) h3 ?_))
        rw [show qm_x i f = f from if_pos c] at hp
        rw [show qm_x (i + 1) f = f from by unfold qm_x; split <;> omega]
        exact hp
      · rw [show qm_x i f = i from if_neg c] at hp
        refine br_f (nI_nlt (by omega) (by omega)) (xl_wb H (by omega) (fun z => ?_) (fun z => ?_))
        · rw [qu_all_em (by omega) z] at hp
          refine br_t rfl (nm_r (nI_1 i) (ih (i + 1) f a (by omega) (by omega) h3 ?_))
          rw [show qm_x (i + 1) f = i + 1 from if_neg (by omega)]
          exact hp
        · rw [qu_all_ne (by omega) z] at hp
          have hm : qu_hd (L i) ∈ L i := by
            cases hc : L i with
            | nil => rw [hc] at z; exact absurd rfl z
            | cons x l => exact List.mem_cons_self
          have hb := (H.2.2 i (by omega)).1.1 _ hm
          have hq : qm_x (i + 1) (qu_hd (L i)).1 = qu_nx i (qu_hd (L i)).1 := by unfold qm_x qu_nx; split <;> split <;> omega
          rw [← hq] at hp
          refine br_f (by decide) (xl_pe H (by omega) z (br_c (fun e => ?_) (fun e => ?_)))
          · rw [show qh_l a i (qu_hd (L i)).1 = a from if_pos e] at hp
            exact nm_r (nI_1 i) (ih (i + 1) _ _ (by omega) (by omega) (by omega) hp)
          · rw [show qh_l a i (qu_hd (L i)).1 = nI (qu_hd (L i)).1 - nI i from if_neg e] at hp
            exact nm_e (nm_r (nI_1 i) (ih (i + 1) _ _ (by omega) (by omega) (by omega) hp))
theorem xl_longest (H : xd_ok L n r C E B G) (hp : post (qu_all L n qh_l 0 (-4))) : wpX_longest post (bp, he, nI (r + 1), nI n, bk, bv, bf, bs, bg, st, uk, uv, uf, us, tx, C, E, B, G) :=
  ⟨n + 2, xl_l7 H (n + 2) 0 0 (-4) (by omega) (by omega) (by omega) hp⟩
end
end
section
/-! the stack of patterns: each side's steps -/
theorem ug_0 (x : Int32) : 0 ||| x = x := b_ext (fun i _ => by rw [b_or, b_0, Bool.false_or])
theorem ug_r (x : Int32) : x ||| 0 = x := b_ext (fun i _ => by rw [b_or, b_0, Bool.or_false])
theorem ug_c (x y : Int32) : x ||| y = y ||| x := b_ext (fun i _ => by rw [b_or, b_or, Bool.or_comm])
theorem ug_a (x : Int32) : x &&& 0 = 0 := b_ext (fun i _ => by rw [b_and, b_0, Bool.and_false])
section
variable {bp he up tl : Int32} {bk bv bf bs bg st uk uv uf us tx C E B G : Nat → Int32}
theorem xl_49 {post : SX → Prop} {s d : Nat} {x1 x2 x3 x4 x5 : Int32} (hs : s < 16) (hd : d < 6) (h : post (nI (s + 1), nI (d + 1), up, tl, upd bk s x1, upd bv s x2, upd bf s x3, upd bs s x4, upd bg s x5, upd st d (nI s), uk, uv, uf, us, tx, C, E, B, G)) : wX_addTopPart_49 post x1 x2 x3 x4 x5 (nI s) (nI (d + 1)) up tl bk bv bf bs bg st uk uv uf us tx C E B G := by
  have c : (nI s).toNatClampNeg = s := nI_clamp (by omega)
  have v : vp_in (nI s) 16 := vp_in_nI hs (by omega)
  refine ⟨v, nm_r (by rw [c]) ⟨v, nm_r (by rw [c]) ⟨v, nm_r (by rw [c]) ⟨v, nm_r (by rw [c]) ⟨v, nm_r (by rw [c]) ⟨by rw [nI_pred]; exact vp_in_nI hd (by omega), nm_r (e' := upd st d (nI s)) (by rw [nI_pred, nI_clamp (by omega)]) (nm_r (nI_1 s) h)⟩⟩⟩⟩⟩⟩
theorem xl_atp0 {post : SX → Prop} {s d : Nat} {x1 x2 : Int32} (hs : s < 16) (hd : d < 6) (h7 : ¬ x1 = 7) (h : post (nI (s + 1), nI (d + 1), up, tl, upd bk s x1, upd bv s x2, upd bf s (-1), upd bs s (-1), upd bg s 0, upd st d (nI s), uk, uv, uf, us, tx, C, E, B, G)) : wpX_addTopPart post (nI s, nI (d + 1), up, tl, bk, bv, bf, bs, bg, st, uk, uv, uf, us, tx, C, E, B, G) x1 x2 (-1) (-1) :=
  br_f h7 (br_t rfl (br_t rfl (xl_49 hs hd h)))
theorem xl_atp2 {post : SX → Prop} {s d a b : Nat} {x1 x2 x3 x4 : Int32} (e3 : x3 = nI a) (e4 : x4 = nI b) (hs : s < 16) (hd : d < 6) (ha : a < 16) (hb : b < 16) (h7 : ¬ x1 = 7) (h : post (nI (s + 1), nI (d + 1), up, tl, upd bk s x1, upd bv s x2, upd bf s (nI a), upd bs s (nI b), upd bg s (bg a ||| bg b), upd st d (nI s), uk, uv, uf, us, tx, C, E, B, G)) : wpX_addTopPart post (nI s, nI (d + 1), up, tl, bk, bv, bf, bs, bg, st, uk, uv, uf, us, tx, C, E, B, G) x1 x2 x3 x4 := by
  subst e3 e4
  exact br_f h7 (br_f (xi_m1 (by omega)) ⟨vp_in_nI ha (by omega), nm_r (e' := bg a) (by rw [nI_clamp (by omega), ug_0]) (br_f (xi_m1 (by omega)) ⟨vp_in_nI hb (by omega), nm_r (e' := bg a ||| bg b) (by rw [nI_clamp (by omega)]) (xl_49 hs hd h)⟩)⟩)
theorem xl_atp1 {post : SX → Prop} {s d a : Nat} {x1 x2 x3 z : Int32} (e3 : x3 = nI a) (hs : s < 16) (hd : d < 6) (ha : a < 16) (hz : (x1 = 7 → z = (1 : Int32) <<< (x2 &&& 31)) ∧ (¬ x1 = 7 → z = 0)) (h : post (nI (s + 1), nI (d + 1), up, tl, upd bk s x1, upd bv s x2, upd bf s (nI a), upd bs s (-1), upd bg s (bg a ||| z), upd st d (nI s), uk, uv, uf, us, tx, C, E, B, G)) : wpX_addTopPart post (nI s, nI (d + 1), up, tl, bk, bv, bf, bs, bg, st, uk, uv, uf, us, tx, C, E, B, G) x1 x2 x3 (-1) := by
  subst e3
  have k13 : ∀ w : Int32, w = z → wX_addTopPart_13 post x1 x2 (nI a) (-1) w (nI s) (nI (d + 1)) up tl bk bv bf bs bg st uk uv uf us tx C E B G := by
    intro w hw
    subst hw
    exact br_f (xi_m1 (by omega)) ⟨vp_in_nI ha (by omega), nm_r (e' := bg a ||| w) (by rw [nI_clamp (by omega), ug_c]) (br_t rfl (xl_49 hs hd h))⟩
  exact br_c (fun e => k13 _ (hz.1 e).symm) (fun e => k13 _ (hz.2 e).symm)
theorem xl_push {post : Int32 → SX → Prop} {s d : Nat} {x1 x2 : Int32} (hs : s ≤ 16) (hd : d ≤ 6) (h7 : ¬ x1 = 7) (h0 : s = 16 ∨ d = 6 → post (-2) (nI s, nI d, up, tl, bk, bv, bf, bs, bg, st, uk, uv, uf, us, tx, C, E, B, G))
    (h1 : s < 16 → d < 6 → post (nI (d + 1)) (nI (s + 1), nI (d + 1), up, tl, upd bk s x1, upd bv s x2, upd bf s (-1), upd bs s (-1), upd bg s 0, upd st d (nI s), uk, uv, uf, us, tx, C, E, B, G)) : wpX_push post (nI s, nI d, up, tl, bk, bv, bf, bs, bg, st, uk, uv, uf, us, tx, C, E, B, G) x1 x2 := by
  refine br_c (fun e => h0 (Or.inl ((nI_eq (b := 16) (by omega) (by decide)).mp e))) (fun e => br_c (fun e' => h0 (Or.inr ((nI_eq (b := 6) (by omega) (by decide)).mp e'))) (fun e' => ?_))
  have a1 : s < 16 := Nat.lt_of_le_of_ne hs (fun w => e (by rw [w]; rfl))
  have a2 : d < 6 := Nat.lt_of_le_of_ne hd (fun w => e' (by rw [w]; rfl))
  exact nm_r (nI_1 d) (xl_atp0 a1 a2 h7 (h1 a1 a2))
theorem xl_join {post : Int32 → SX → Prop} {s d : Nat} {x1 : Int32} (hs : s ≤ 16) (hd : d ≤ 6) (hq : ∀ q, q < d → ∃ t, t < s ∧ st q = nI t) (h7 : ¬ x1 = 7) (h0 : s = 16 → post (-2) (nI s, nI d, up, tl, bk, bv, bf, bs, bg, st, uk, uv, uf, us, tx, C, E, B, G)) (h2 : s < 16 → d < 2 → post (-3) (nI s, nI d, up, tl, bk, bv, bf, bs, bg, st, uk, uv, uf, us, tx, C, E, B, G))
    (h1 : ∀ e a b, s < 16 → d = e + 2 → a < s → b < s → st e = nI a → st (e + 1) = nI b → post (nI (e + 1)) (nI (s + 1), nI (e + 1), up, tl, upd bk s x1, upd bv s 0, upd bf s (nI a), upd bs s (nI b), upd bg s (bg a ||| bg b), upd st e (nI s), uk, uv, uf, us, tx, C, E, B, G)) : wpX_join post (nI s, nI d, up, tl, bk, bv, bf, bs, bg, st, uk, uv, uf, us, tx, C, E, B, G) x1 := by
  refine br_c (fun e => h0 ((nI_eq (b := 16) (by omega) (by decide)).mp e)) (fun e => ?_)
  have a1 : s < 16 := Nat.lt_of_le_of_ne hs (fun w => e (by rw [w]; rfl))
  by_cases c : 2 ≤ d
  · obtain ⟨e, rfl⟩ : ∃ e, d = e + 1 + 1 := ⟨d - 2, by omega⟩
    obtain ⟨a, ha, ea⟩ := hq e (by omega)
    obtain ⟨b, hb, eb⟩ := hq (e + 1) (by omega)
    refine br_t (nI_le (a := 2) (by omega) (by omega)) (nm_r (nI_pred (e + 1)) ⟨by rw [nI_pred]; exact vp_in_nI (by omega) (by omega), vp_in_nI (by omega) (by omega), ?_⟩)
    exact xl_atp2 (by rw [nI_pred, nI_clamp (by omega)]; exact ea) (by rw [nI_clamp (by omega)]; exact eb) a1 (by omega) (by omega) (by omega) h7 (h1 e a b a1 rfl ha hb ea eb)
  · exact br_f (nI_ge (b := 2) (by omega) (by decide)) (h2 a1 (by omega))
theorem xl_wrap {post : Int32 → SX → Prop} {s d : Nat} {x1 x2 z : Int32} (hs : s ≤ 16) (hd : d ≤ 6) (hq : ∀ q, q < d → ∃ t, t < s ∧ st q = nI t) (hz : (x1 = 7 → z = (1 : Int32) <<< (x2 &&& 31)) ∧ (¬ x1 = 7 → z = 0)) (h0 : s = 16 → post (-2) (nI s, nI d, up, tl, bk, bv, bf, bs, bg, st, uk, uv, uf, us, tx, C, E, B, G)) (h2 : s < 16 → d = 0 → post (-3) (nI s, nI d, up, tl, bk, bv, bf, bs, bg, st, uk, uv, uf, us, tx, C, E, B, G))
    (h1 : ∀ e a, s < 16 → d = e + 1 → a < s → st e = nI a → post (nI (e + 1)) (nI (s + 1), nI (e + 1), up, tl, upd bk s x1, upd bv s x2, upd bf s (nI a), upd bs s (-1), upd bg s (bg a ||| z), upd st e (nI s), uk, uv, uf, us, tx, C, E, B, G)) : wpX_wrap post (nI s, nI d, up, tl, bk, bv, bf, bs, bg, st, uk, uv, uf, us, tx, C, E, B, G) x1 x2 := by
  unfold wpX_wrap
  refine br_c (fun e => br_f (by decide) (h0 ((nI_eq (b := 16) (by omega) (by decide)).mp e))) (fun e => ?_)
  have a1 : s < 16 := Nat.lt_of_le_of_ne hs (fun w => e (by rw [w]; rfl))
  cases d with
  | zero => exact br_t rfl (br_f (by decide) (h2 a1 rfl))
  | succ e =>
    obtain ⟨a, ha, ea⟩ := hq e (by omega)
    refine br_f (nI_ne0 (by omega) (by omega)) (br_t rfl ⟨by rw [nI_pred]; exact vp_in_nI (by omega) (by omega), ?_⟩)
    exact xl_atp1 (by rw [nI_pred, nI_clamp (by omega)]; exact ea) a1 (by omega) (by omega) hz (h1 e a a1 rfl ha ea)
theorem xl_group {post : Int32 → SX → Prop} {s d : Nat} {x : Int32} (hs : s ≤ 16) (hd : d ≤ 6) (hq : ∀ q, q < d → ∃ t, t < s ∧ st q = nI t) (hb : x < 0 ∨ 2 < x → post (-1) (nI s, nI d, up, tl, bk, bv, bf, bs, bg, st, uk, uv, uf, us, tx, C, E, B, G)) (h0 : ∀ g, x = nI g → g < 3 → s = 16 → post (-2) (nI s, nI d, up, tl, bk, bv, bf, bs, bg, st, uk, uv, uf, us, tx, C, E, B, G)) (h2 : ∀ g, x = nI g → g < 3 → s < 16 → d = 0 → post (-3) (nI s, nI d, up, tl, bk, bv, bf, bs, bg, st, uk, uv, uf, us, tx, C, E, B, G))
    (h4 : ∀ g e a, x = nI g → g < 3 → s < 16 → d = e + 1 → a < s → st e = nI a → ¬ (bg a &&& ((1 : Int32) <<< (nI g &&& 31)) = 0) → post (-4) (nI s, nI d, up, tl, bk, bv, bf, bs, bg, st, uk, uv, uf, us, tx, C, E, B, G))
    (h1 : ∀ g e a, x = nI g → g < 3 → s < 16 → d = e + 1 → a < s → st e = nI a → bg a &&& ((1 : Int32) <<< (nI g &&& 31)) = 0 → post (nI (e + 1)) (nI (s + 1), nI (e + 1), up, tl, upd bk s 7, upd bv s (nI g), upd bf s (nI a), upd bs s (-1), upd bg s (bg a ||| ((1 : Int32) <<< (nI g &&& 31))), upd st e (nI s), uk, uv, uf, us, tx, C, E, B, G)) : wpX_group post (nI s, nI d, up, tl, bk, bv, bf, bs, bg, st, uk, uv, uf, us, tx, C, E, B, G) x := by
  unfold wpX_group
  refine br_c (fun z => br_t rfl (hb (Or.inl z))) (fun z => br_c (fun w => br_t rfl (hb (Or.inr (Int32.lt_of_lt_of_le (by decide) w)))) (fun w => br_f (by decide) ?_))
  obtain ⟨g, hg, rfl⟩ := nI_of z
  have hg3 : g < 3 := Nat.not_le.mp (fun q => w (nI_le (a := 3) q hg))
  refine br_c (fun e => br_f (by decide) (h0 g rfl hg3 ((nI_eq (b := 16) (by omega) (by decide)).mp e))) (fun e => ?_)
  have a1 : s < 16 := Nat.lt_of_le_of_ne hs (fun w => e (by rw [w]; rfl))
  cases d with
  | zero => exact br_t rfl (br_f (by decide) (h2 g rfl hg3 a1 rfl))
  | succ e =>
    obtain ⟨a, ha, ea⟩ := hq e (by omega)
    refine br_f (nI_ne0 (by omega) (by omega)) (br_t rfl ⟨by rw [nI_pred]; exact vp_in_nI (by omega) (by omega), ?_⟩)
    rw [nI_pred, nI_clamp (show e < 2 ^ 31 by omega), ea]
    refine ⟨vp_in_nI (by omega) (by omega), ?_⟩
    rw [nI_clamp (show a < 2 ^ 31 by omega), yb_grp (bg a) (show g < 32 by omega)]
    refine br_c (fun c => br_f (by decide) (h4 g e a rfl hg3 a1 rfl ha ea c)) (fun c => br_t rfl ?_)
    refine xl_wrap (z := (1 : Int32) <<< (nI g &&& 31)) hs hd hq ⟨fun _ => rfl, fun q => absurd rfl q⟩ (fun q => ?_) (fun _ q => ?_) (fun e' a' _ q1 q2 q3 => ?_)
    · omega
    · omega
    · obtain rfl : e = e' := by omega
      have e5 : a = a' := (nI_eq (by omega) (by omega)).mp (ea.symm.trans q3)
      subst e5
      exact h1 g e a rfl hg3 a1 rfl ha ea (Decidable.byContradiction c)
end
section
variable {sp de ro ln wa : Int32} {dk df ds dg sk ki fi se ty re ta wn gr : Nat → Int32} {post : Int32 → SY → Prop}
theorem yl_note {s d : Nat} {a b c e : Int32} (hs : s < 16) (hd : d < 6) (h : post (nI (d + 1)) (nI (s + 1), nI (d + 1), ro, ln, wa, upd dk s a, upd df s b, upd ds s c, upd dg s e, upd sk d (nI s), ki, fi, se, ty, re, ta, wn, gr)) : wpY_note post (nI s, nI d, ro, ln, wa, dk, df, ds, dg, sk, ki, fi, se, ty, re, ta, wn, gr) a b c e := by
  have cs : (nI s).toNatClampNeg = s := nI_clamp (by omega)
  have v : vp_in (nI s) 16 := vp_in_nI hs (by omega)
  exact ⟨v, nm_r (by rw [cs]) ⟨v, nm_r (by rw [cs]) ⟨v, nm_r (by rw [cs]) ⟨v, nm_r (by rw [cs]) ⟨vp_in_nI hd (by omega), nm_r (e' := upd sk d (nI s)) (by rw [nI_clamp (by omega)]) (nm_r (nI_1 s) (nm_r (nI_1 d) h))⟩⟩⟩⟩⟩
theorem yl_leaf {s d : Nat} {x : Int32} (hs : s ≤ 16) (hd : d ≤ 6) (h0 : s = 16 ∨ d = 6 → post (-2) (nI s, nI d, ro, ln, wa, dk, df, ds, dg, sk, ki, fi, se, ty, re, ta, wn, gr))
    (h1 : s < 16 → d < 6 → post (nI (d + 1)) (nI (s + 1), nI (d + 1), ro, ln, wa, upd dk s x, upd df s 0, upd ds s 0, upd dg s 0, upd sk d (nI s), ki, fi, se, ty, re, ta, wn, gr)) : wpY_leaf post (nI s, nI d, ro, ln, wa, dk, df, ds, dg, sk, ki, fi, se, ty, re, ta, wn, gr) x := by
  refine br_c (fun e => h0 (Or.inl ((nI_eq (b := 16) (by omega) (by decide)).mp e))) (fun e => br_c (fun e' => h0 (Or.inr ((nI_eq (b := 6) (by omega) (by decide)).mp e'))) (fun e' => ?_))
  have a1 : s < 16 := Nat.lt_of_le_of_ne hs (fun w => e (by rw [w]; rfl))
  have a2 : d < 6 := Nat.lt_of_le_of_ne hd (fun w => e' (by rw [w]; rfl))
  exact yl_note a1 a2 (h1 a1 a2)
theorem yl_pair {s d : Nat} {x : Int32} (hs : s ≤ 16) (hd : d ≤ 6) (hq : ∀ q, q < d → ∃ t, t < s ∧ sk q = nI t) (h0 : s = 16 → post (-2) (nI s, nI d, ro, ln, wa, dk, df, ds, dg, sk, ki, fi, se, ty, re, ta, wn, gr)) (h2 : s < 16 → d < 2 → post (-3) (nI s, nI d, ro, ln, wa, dk, df, ds, dg, sk, ki, fi, se, ty, re, ta, wn, gr))
    (h1 : ∀ e a b, s < 16 → d = e + 2 → a < s → b < s → sk e = nI a → sk (e + 1) = nI b → post (nI (e + 1)) (nI (s + 1), nI (e + 1), ro, ln, wa, upd dk s x, upd df s (nI a), upd ds s (nI b), upd dg s (dg a ||| dg b), upd sk e (nI s), ki, fi, se, ty, re, ta, wn, gr)) : wpY_pair post (nI s, nI d, ro, ln, wa, dk, df, ds, dg, sk, ki, fi, se, ty, re, ta, wn, gr) x := by
  refine br_c (fun e => h0 ((nI_eq (b := 16) (by omega) (by decide)).mp e)) (fun e => ?_)
  have a1 : s < 16 := Nat.lt_of_le_of_ne hs (fun w => e (by rw [w]; rfl))
  by_cases c : 2 ≤ d
  · obtain ⟨e, rfl⟩ : ∃ e, d = e + 2 := ⟨d - 2, by omega⟩
    obtain ⟨a, ha, ea⟩ := hq e (by omega)
    obtain ⟨b, hb, eb⟩ := hq (e + 1) (by omega)
    have e2 : nI (e + 2) - 2 = nI e := by
      rw [show (2 : Int32) = nI 2 from rfl, pk_sub (by omega)]
      exact congrArg nI (by omega)
    refine br_t (nI_le (a := 2) (by omega) (by omega)) (nm_r e2 ⟨vp_in_nI (by omega) (by omega), nm_r (e' := nI a) (by rw [nI_clamp (by omega)]; exact ea) ⟨by rw [nI_1]; exact vp_in_nI (by omega) (by omega), nm_r (e' := nI b) (by rw [nI_1, nI_clamp (by omega)]; exact eb) ⟨vp_in_nI (by omega) (by omega), vp_in_nI (by omega) (by omega), ?_⟩⟩⟩)
    rw [nI_clamp (show a < 2 ^ 31 by omega), nI_clamp (show b < 2 ^ 31 by omega)]
    exact yl_note a1 (by omega) (h1 e a b a1 rfl ha hb ea eb)
  · exact br_f (nI_ge (b := 2) (by omega) (by decide)) (h2 a1 (by omega))
theorem yl_single {s d : Nat} {x z : Int32} (hs : s ≤ 16) (hd : d ≤ 6) (hq : ∀ q, q < d → ∃ t, t < s ∧ sk q = nI t) (hz : (x ≤ 8 → z = 0) ∧ (¬ x ≤ 8 → z = (1 : Int32) <<< ((x - 9) &&& 31))) (h0 : s = 16 → post (-2) (nI s, nI d, ro, ln, wa, dk, df, ds, dg, sk, ki, fi, se, ty, re, ta, wn, gr)) (h2 : s < 16 → d = 0 → post (-3) (nI s, nI d, ro, ln, wa, dk, df, ds, dg, sk, ki, fi, se, ty, re, ta, wn, gr))
    (h4 : ∀ e a, s < 16 → d = e + 1 → a < s → sk e = nI a → ¬ (dg a &&& z = 0) → post (-4) (nI s, nI d, ro, ln, wa, dk, df, ds, dg, sk, ki, fi, se, ty, re, ta, wn, gr))
    (h1 : ∀ e a, s < 16 → d = e + 1 → a < s → sk e = nI a → dg a &&& z = 0 → post (nI (e + 1)) (nI (s + 1), nI (e + 1), ro, ln, wa, upd dk s x, upd df s (nI a), upd ds s 0, upd dg s (dg a ||| z), upd sk e (nI s), ki, fi, se, ty, re, ta, wn, gr)) : wpY_single post (nI s, nI d, ro, ln, wa, dk, df, ds, dg, sk, ki, fi, se, ty, re, ta, wn, gr) x := by
  refine br_c (fun e => h0 ((nI_eq (b := 16) (by omega) (by decide)).mp e)) (fun e => ?_)
  have a1 : s < 16 := Nat.lt_of_le_of_ne hs (fun w => e (by rw [w]; rfl))
  cases d with
  | zero => exact br_t rfl (h2 a1 rfl)
  | succ e =>
    obtain ⟨a, ha, ea⟩ := hq e (by omega)
    have k50 : ∀ w : Int32, w = z → wY_single_50 post x (nI a) w (nI s) (nI (e + 1)) ro ln wa dk df ds dg sk ki fi se ty re ta wn gr := by
      intro w hw
      subst hw
      refine ⟨vp_in_nI (by omega) (by omega), ?_⟩
      rw [nI_clamp (show a < 2 ^ 31 by omega)]
      refine br_c (fun c => nm_r (nI_pred e) ⟨vp_in_nI (by omega) (by omega), ?_⟩) (fun c => h4 e a a1 rfl ha ea c)
      exact yl_note a1 (by omega) (h1 e a a1 rfl ha ea c)
    refine br_f (nI_ne0 (by omega) (by omega)) ⟨by rw [nI_pred]; exact vp_in_nI (by omega) (by omega), nm_r (e' := nI a) (by rw [nI_pred, nI_clamp (by omega)]; exact ea) ?_⟩
    exact br_c (fun c => k50 _ (hz.1 c).symm) (fun c => k50 _ (hz.2 c).symm)
end
def rl_P (K F S : Nat → Nat) (m : Nat) (bk bv bf bs dk df ds : Nat → Int32) : Prop :=
  ru_wf K F S m ∧ ∀ p, p < m → pc_ok K F S p bk bv bf bs ∧ dk p = nI (K p) ∧ (5 ≤ K p → df p = nI (F p) ∧ ds p = nI (S p))
def rl_D (s d : Nat) (bk bv bf bs dk df ds sk : Nat → Int32) : Prop :=
  s ≤ 16 ∧ d ≤ 6 ∧ d ≤ s ∧ (∀ q, q < d → ∃ t, t < s ∧ sk q = nI t) ∧ (0 < d → sk (d - 1) = nI (s - 1)) ∧ ∃ K F S, rl_P K F S s bk bv bf bs dk df ds
def rl_U (r n : Nat) (uk uv uf us ki fi se tx C E B G : Nat → Int32) : Prop :=
  r < 16 ∧ n ≤ 10 ∧ ∃ K F S, rl_P K F S (r + 1) uk uv uf us ki fi se ∧ ∀ q, q < r + 1 → ∀ j, j ≤ n → xr_Rep C E B G (q * 11 + j) (ru_tb K F S tx n q j)
theorem rl_note {s d e : Nat} {bk bv bf bs dk df ds sk : Nat → Int32} {x1 x2 x3 x4 y1 y2 y3 : Int32} (k f g : Nat) (h : rl_D s d bk bv bf bs dk df ds sk) (hs : s < 16) (he : e ≤ d) (he6 : e < 6) (hk : k ≤ 11) (hf : 5 ≤ k → f < s ∧ g < s)
    (h1 : x1 = nI (pc_k k)) (h2 : x2 = nI (pc_v k)) (h3 : 5 ≤ k → x3 = nI f) (h4 : k = 5 ∨ k = 6 → x4 = nI g) (h5 : y1 = nI k) (h6 : 5 ≤ k → y2 = nI f ∧ y3 = nI g) :
    rl_D (s + 1) (e + 1) (upd bk s x1) (upd bv s x2) (upd bf s x3) (upd bs s x4) (upd dk s y1) (upd df s y2) (upd ds s y3) (upd sk e (nI s)) := by
  obtain ⟨_, hd, hds, hq, _, K, F, S, wf, hP⟩ := h
  refine ⟨by omega, by omega, by omega, fun q hq' => ?_, fun _ => ?_, (fun p => if p = s then k else K p), (fun p => if p = s then f else F p), (fun p => if p = s then g else S p), fun p hp => ?_, fun p hp => ?_⟩
  · by_cases c : q = e
    · exact ⟨s, by omega, by rw [c, pk_us]⟩
    · obtain ⟨t, ht, et⟩ := hq q (by omega)
      exact ⟨t, by omega, by rw [pk_un c]; exact et⟩
  · show upd sk e (nI s) e = nI s
    exact pk_us
  · by_cases c : p = s
    · simp only [if_pos c]
      exact ⟨hk, fun q => by have := hf q; omega⟩
    · simp only [if_neg c]
      exact wf p (by omega)
  · unfold pc_ok
    by_cases c : p = s
    · subst c
      simp only [pk_us, if_pos]
      exact ⟨⟨h1, h2, h3, h4⟩, h5, h6⟩
    · simp only [pk_un c, if_neg c]
      exact hP p (by omega)
end
section
/-! the relation; the steps on the stack -/
def i_Rel (k : Nat) (u : SX) (v : SY) : Prop :=
  ∃ (s d r n : Nat) (bk bv bf bs bg st uk uv uf us tx C E B G : Nat → Int32) (wa : Int32) (dk df ds ki fi se re ta wn gr : Nat → Int32),
    u = (nI s, nI d, nI (r + 1), nI n, bk, bv, bf, bs, bg, st, uk, uv, uf, us, tx, C, E, B, G) ∧ v = (nI s, nI d, nI r, nI n, wa, dk, df, ds, bg, st, ki, fi, se, tx, re, ta, wn, gr) ∧ rl_D s d bk bv bf bs dk df ds st ∧ rl_U r n uk uv uf us ki fi se tx C E B G
theorem rl_mk {k s d r n : Nat} {bk bv bf bs bg st uk uv uf us tx C E B G : Nat → Int32} {wa : Int32} {dk df ds ki fi se re ta wn gr : Nat → Int32} (hD : rl_D s d bk bv bf bs dk df ds st) (hU : rl_U r n uk uv uf us ki fi se tx C E B G) : i_Rel k (nI s, nI d, nI (r + 1), nI n, bk, bv, bf, bs, bg, st, uk, uv, uf, us, tx, C, E, B, G) (nI s, nI d, nI r, nI n, wa, dk, df, ds, bg, st, ki, fi, se, tx, re, ta, wn, gr) :=
  ⟨s, d, r, n, bk, bv, bf, bs, bg, st, uk, uv, uf, us, tx, C, E, B, G, wa, dk, df, ds, ki, fi, se, re, ta, wn, gr, rfl, rfl, hD, hU⟩
theorem i_up {k : Nat} {u : SX} {v : SY} (h : i_Rel k u v) : i_Rel (k + 3) u v := h
section
variable {k s d r n : Nat} {bk bv bf bs bg st uk uv uf us tx C E B G : Nat → Int32} {wa : Int32} {dk df ds ki fi se re ta wn gr : Nat → Int32}
theorem rl_leaf (hD : rl_D s d bk bv bf bs dk df ds st) (hU : rl_U r n uk uv uf us ki fi se tx C E B G) (c : Nat) (hc : c < 5) {x1 x2 x : Int32} (h7 : ¬ x1 = 7) (e1 : x1 = nI (pc_k c)) (e2 : x2 = nI (pc_v c)) (e3 : x = nI c) :
    wpX_push (fun z u' => wpY_leaf (fun z' v' => z' = z ∧ i_Rel k u' v') (nI s, nI d, nI r, nI n, wa, dk, df, ds, bg, st, ki, fi, se, tx, re, ta, wn, gr) x) (nI s, nI d, nI (r + 1), nI n, bk, bv, bf, bs, bg, st, uk, uv, uf, us, tx, C, E, B, G) x1 x2 := by
  have hs := hD.1
  have hd := hD.2.1
  refine xl_push hs hd h7 (fun q => yl_leaf hs hd (fun _ => ⟨rfl, rl_mk hD hU⟩) (fun a b => by omega)) (fun a b => yl_leaf hs hd (fun q => by omega) (fun _ _ => ⟨rfl, rl_mk ?_ hU⟩))
  exact rl_note c 0 0 hD a (Nat.le_refl d) b (by omega) (fun q => by omega) e1 e2 (fun q => by omega) (fun q => by omega) e3 (fun q => by omega)
theorem rl_pair (hD : rl_D s d bk bv bf bs dk df ds st) (hU : rl_U r n uk uv uf us ki fi se tx C E B G) (c : Nat) (hc : c = 5 ∨ c = 6) {x1 x : Int32} (h7 : ¬ x1 = 7) (e1 : x1 = nI (pc_k c)) (e2 : 0 = nI (pc_v c)) (e3 : x = nI c) :
    wpX_join (fun z u' => wpY_pair (fun z' v' => z' = z ∧ i_Rel k u' v') (nI s, nI d, nI r, nI n, wa, dk, df, ds, bg, st, ki, fi, se, tx, re, ta, wn, gr) x) (nI s, nI d, nI (r + 1), nI n, bk, bv, bf, bs, bg, st, uk, uv, uf, us, tx, C, E, B, G) x1 := by
  have hs := hD.1
  have hd := hD.2.1
  have hq := hD.2.2.2.1
  refine xl_join hs hd hq h7 (fun q => yl_pair hs hd hq (fun _ => ⟨rfl, rl_mk hD hU⟩) (fun a b => by omega) (fun e a b q1 => by omega)) (fun a b => yl_pair hs hd hq (fun q => by omega) (fun _ _ => ⟨rfl, rl_mk hD hU⟩) (fun e a b q1 q2 => by omega)) (fun e a b q1 q2 q3 q4 q5 q6 => yl_pair hs hd hq (fun q => by omega) (fun _ q => by omega) (fun e' a' b' p1 p2 p3 p4 p5 p6 => ?_))
  obtain rfl : e = e' := by omega
  obtain rfl : a = a' := (nI_eq (by omega) (by omega)).mp (q5.symm.trans p5)
  obtain rfl : b = b' := (nI_eq (by omega) (by omega)).mp (q6.symm.trans p6)
  exact ⟨rfl, rl_mk (rl_note c a b hD q1 (by omega) (by omega) (by omega) (fun q => ⟨q3, q4⟩) e1 e2 (fun q => rfl) (fun q => rfl) e3 (fun q => ⟨rfl, rfl⟩)) hU⟩
theorem rl_single (hD : rl_D s d bk bv bf bs dk df ds st) (hU : rl_U r n uk uv uf us ki fi se tx C E B G) (c : Nat) (hc : c = 7 ∨ c = 8) {x1 x : Int32} (h7 : ¬ x1 = 7) (e1 : x1 = nI (pc_k c)) (e2 : 0 = nI (pc_v c)) (e3 : x = nI c) :
    wpX_wrap (fun z u' => wpY_single (fun z' v' => z' = z ∧ i_Rel k u' v') (nI s, nI d, nI r, nI n, wa, dk, df, ds, bg, st, ki, fi, se, tx, re, ta, wn, gr) x) (nI s, nI d, nI (r + 1), nI n, bk, bv, bf, bs, bg, st, uk, uv, uf, us, tx, C, E, B, G) x1 0 := by
  have hs := hD.1
  have hd := hD.2.1
  have hq := hD.2.2.2.1
  have hx : x ≤ 8 := by
    rw [e3]
    exact nI_le (b := 8) (by omega) (by decide)
  have hz : (x ≤ 8 → (0 : Int32) = 0) ∧ (¬ x ≤ 8 → (0 : Int32) = (1 : Int32) <<< ((x - 9) &&& 31)) := ⟨fun _ => rfl, fun q => absurd hx q⟩
  refine xl_wrap (z := 0) hs hd hq ⟨fun q => absurd q h7, fun _ => rfl⟩ (fun q => yl_single hs hd hq hz (fun _ => ⟨rfl, rl_mk hD hU⟩) (fun a b => by omega) (fun e a q1 => by omega) (fun e a q1 => by omega)) (fun a b => yl_single hs hd hq hz (fun q => by omega) (fun _ _ => ⟨rfl, rl_mk hD hU⟩) (fun e a q1 q2 => by omega) (fun e a q1 q2 => by omega)) (fun e a q1 q2 q3 q4 => yl_single hs hd hq hz (fun q => by omega) (fun _ q => by omega) (fun e' a' p1 p2 p3 p4 p5 => absurd (ug_a _) p5) (fun e' a' p1 p2 p3 p4 p5 => ?_))
  obtain rfl : e = e' := by omega
  obtain rfl : a = a' := (nI_eq (by omega) (by omega)).mp (q4.symm.trans p4)
  exact ⟨rfl, rl_mk (rl_note c a 0 hD q1 (by omega) (by omega) (by omega) (fun q => ⟨q3, by omega⟩) e1 e2 (fun q => rfl) (fun q => by omega) e3 (fun q => ⟨rfl, rfl⟩)) hU⟩
end
theorem i_vc_letter {k : Nat} {u : SX} {v : SY} (I : i_Rel k u v) (hk : k + 3 ≤ 1536) (v1 : Int32) : wpX_letter (fun r u' => wpY_letter (fun r' v' => r' = r ∧ i_Rel (k + 3) u' v') v v1) u v1 := by
  obtain ⟨s, d, r, n, bk, bv, bf, bs, bg, st, uk, uv, uf, us, tx, C, E, B, G, wa, dk, df, ds, ki, fi, se, re, ta, wn, gr, rfl, rfl, hD, hU⟩ := I
  by_cases h0 : v1 < 0
  · exact br_t h0 (br_t h0 ⟨rfl, rl_mk hD hU⟩)
  · obtain ⟨c, hc, rfl⟩ := nI_of h0
    by_cases h3 : c < 3
    · have a1 : nI c < 3 := nI_lt (b := 3) h3 (by decide)
      have a2 : nI c ≤ 2 := nI_le (b := 2) (by omega) (by decide)
      have hs := hD.1
      have hd := hD.2.1
      refine br_f h0 (br_t a1 (xl_push hs hd (by decide) (fun q => br_f h0 (br_t a2 (yl_leaf hs hd (fun _ => ⟨rfl, rl_mk hD hU⟩) (fun a b => by omega)))) (fun a b => br_f h0 (br_t a2 (yl_leaf hs hd (fun q => by omega) (fun _ _ => ⟨rfl, rl_mk ?_ hU⟩))))))
      exact rl_note c 0 0 hD a (Nat.le_refl d) b (by omega) (fun q => by omega) (by rw [show pc_k c = 0 from if_pos h3]; rfl) (by rw [show pc_v c = c from if_pos h3]) (fun q => by omega) (fun q => by omega) rfl (fun q => by omega)
    · have a1 : ¬ nI c < 3 := nI_nlt (b := 3) (by omega) hc
      have a2 : ¬ nI c ≤ 2 := nI_ge (a := 2) (by omega) hc
      exact br_f h0 (br_f a1 (br_f h0 (br_f a2 ⟨rfl, rl_mk hD hU⟩)))
theorem i_vc_any {k : Nat} {u : SX} {v : SY} (I : i_Rel k u v) (hk : k + 3 ≤ 1536) : wpX_any (fun r u' => wpY_any (fun r' v' => r' = r ∧ i_Rel (k + 3) u' v') v) u := by
  obtain ⟨s, d, r, n, bk, bv, bf, bs, bg, st, uk, uv, uf, us, tx, C, E, B, G, wa, dk, df, ds, ki, fi, se, re, ta, wn, gr, rfl, rfl, hD, hU⟩ := I
  unfold wpX_any wpY_any
  exact rl_leaf hD hU 3 (by omega) (by decide) rfl rfl rfl
theorem i_vc_empty {k : Nat} {u : SX} {v : SY} (I : i_Rel k u v) (hk : k + 3 ≤ 1536) : wpX_empty (fun r u' => wpY_empty (fun r' v' => r' = r ∧ i_Rel (k + 3) u' v') v) u := by
  obtain ⟨s, d, r, n, bk, bv, bf, bs, bg, st, uk, uv, uf, us, tx, C, E, B, G, wa, dk, df, ds, ki, fi, se, re, ta, wn, gr, rfl, rfl, hD, hU⟩ := I
  unfold wpX_empty wpY_empty
  exact rl_leaf hD hU 4 (by omega) (by decide) rfl rfl rfl
theorem i_vc_cat {k : Nat} {u : SX} {v : SY} (I : i_Rel k u v) (hk : k + 3 ≤ 1536) : wpX_cat (fun r u' => wpY_cat (fun r' v' => r' = r ∧ i_Rel (k + 3) u' v') v) u := by
  obtain ⟨s, d, r, n, bk, bv, bf, bs, bg, st, uk, uv, uf, us, tx, C, E, B, G, wa, dk, df, ds, ki, fi, se, re, ta, wn, gr, rfl, rfl, hD, hU⟩ := I
  unfold wpX_cat wpY_cat
  exact rl_pair hD hU 5 (by omega) (by decide) rfl rfl rfl
theorem i_vc_alt {k : Nat} {u : SX} {v : SY} (I : i_Rel k u v) (hk : k + 3 ≤ 1536) : wpX_alt (fun r u' => wpY_alt (fun r' v' => r' = r ∧ i_Rel (k + 3) u' v') v) u := by
  obtain ⟨s, d, r, n, bk, bv, bf, bs, bg, st, uk, uv, uf, us, tx, C, E, B, G, wa, dk, df, ds, ki, fi, se, re, ta, wn, gr, rfl, rfl, hD, hU⟩ := I
  unfold wpX_alt wpY_alt
  exact rl_pair hD hU 6 (by omega) (by decide) rfl rfl rfl
theorem i_vc_star {k : Nat} {u : SX} {v : SY} (I : i_Rel k u v) (hk : k + 3 ≤ 1536) : wpX_star (fun r u' => wpY_star (fun r' v' => r' = r ∧ i_Rel (k + 3) u' v') v) u := by
  obtain ⟨s, d, r, n, bk, bv, bf, bs, bg, st, uk, uv, uf, us, tx, C, E, B, G, wa, dk, df, ds, ki, fi, se, re, ta, wn, gr, rfl, rfl, hD, hU⟩ := I
  unfold wpX_star wpY_star
  exact rl_single hD hU 7 (by omega) (by decide) rfl rfl rfl
theorem i_vc_lazy {k : Nat} {u : SX} {v : SY} (I : i_Rel k u v) (hk : k + 3 ≤ 1536) : wpX_lazy (fun r u' => wpY_lazy (fun r' v' => r' = r ∧ i_Rel (k + 3) u' v') v) u := by
  obtain ⟨s, d, r, n, bk, bv, bf, bs, bg, st, uk, uv, uf, us, tx, C, E, B, G, wa, dk, df, ds, ki, fi, se, re, ta, wn, gr, rfl, rfl, hD, hU⟩ := I
  unfold wpX_lazy wpY_lazy
  exact rl_single hD hU 8 (by omega) (by decide) rfl rfl rfl
theorem i_vc_group {k : Nat} {u : SX} {v : SY} (I : i_Rel k u v) (hk : k + 3 ≤ 1536) (v1 : Int32) : wpX_group (fun r u' => wpY_group (fun r' v' => r' = r ∧ i_Rel (k + 3) u' v') v v1) u v1 := by
  obtain ⟨s, d, r, n, bk, bv, bf, bs, bg, st, uk, uv, uf, us, tx, C, E, B, G, wa, dk, df, ds, ki, fi, se, re, ta, wn, gr, rfl, rfl, hD, hU⟩ := I
  have hs := hD.1
  have hd := hD.2.1
  have hq := hD.2.2.2.1
  have hz : ∀ g, g < 3 → (9 + nI g ≤ 8 → (1 : Int32) <<< (nI g &&& 31) = 0) ∧ (¬ 9 + nI g ≤ 8 → (1 : Int32) <<< (nI g &&& 31) = (1 : Int32) <<< ((9 + nI g - 9) &&& 31)) := by
    intro g hg
    have e9 : 9 + nI g = nI (9 + g) := nI_add 9 g
    have e0 : nI (9 + g) - 9 = nI g := by
      rw [show (9 : Int32) = nI 9 from rfl, pk_sub (by omega)]
      exact congrArg nI (by omega)
    rw [e9, e0]
    exact ⟨fun q => absurd q (nI_ge (a := 8) (by omega) (by omega)), fun _ => rfl⟩
  have g0 : ∀ g, g < 3 → ¬ nI g < 0 := fun g hg => nI_pos (by omega)
  have g2 : ∀ g, g < 3 → nI g ≤ 2 := fun g hg => nI_le (b := 2) (by omega) (by decide)
  refine xl_group hs hd hq (fun q => ?_) (fun g eg hg q => ?_) (fun g eg hg q1 q2 => ?_) (fun g e a eg hg q1 q2 q3 q4 q5 => ?_) (fun g e a eg hg q1 q2 q3 q4 q5 => ?_)
  · rcases q with q | q
    · exact br_t q ⟨rfl, rl_mk hD hU⟩
    · exact br_f (Int32.not_lt.mpr (Int32.le_trans (by decide) (Int32.le_of_lt q))) (br_f (Int32.not_le.mpr q) ⟨rfl, rl_mk hD hU⟩)
  · subst eg
    exact br_f (g0 g hg) (br_t (g2 g hg) (yl_single hs hd hq (hz g hg) (fun _ => ⟨rfl, rl_mk hD hU⟩) (fun a b => by omega) (fun e a q1 => by omega) (fun e a q1 => by omega)))
  · subst eg
    exact br_f (g0 g hg) (br_t (g2 g hg) (yl_single hs hd hq (hz g hg) (fun q => by omega) (fun _ _ => ⟨rfl, rl_mk hD hU⟩) (fun e a p1 p2 => by omega) (fun e a p1 p2 => by omega)))
  · subst eg
    refine br_f (g0 g hg) (br_t (g2 g hg) (yl_single hs hd hq (hz g hg) (fun q => by omega) (fun _ q => by omega) (fun e' a' p1 p2 p3 p4 p5 => ⟨rfl, rl_mk hD hU⟩) (fun e' a' p1 p2 p3 p4 p5 => ?_)))
    obtain rfl : e = e' := by omega
    obtain rfl : a = a' := (nI_eq (by omega) (by omega)).mp (q4.symm.trans p4)
    exact absurd p5 q5
  · subst eg
    refine br_f (g0 g hg) (br_t (g2 g hg) (yl_single hs hd hq (hz g hg) (fun q => by omega) (fun _ q => by omega) (fun e' a' p1 p2 p3 p4 p5 => ?_) (fun e' a' p1 p2 p3 p4 p5 => ?_)))
    · obtain rfl : e = e' := by omega
      obtain rfl : a = a' := (nI_eq (by omega) (by omega)).mp (q4.symm.trans p4)
      exact absurd q5 p5
    · obtain rfl : e = e' := by omega
      obtain rfl : a = a' := (nI_eq (by omega) (by omega)).mp (q4.symm.trans p4)
      refine ⟨rfl, rl_mk (rl_note (9 + g) a 0 hD q1 (by omega) (by omega) (by omega) (fun q => ⟨q3, by omega⟩) ?_ ?_ (fun q => rfl) (fun q => by omega) (nI_add 9 g) (fun q => ⟨rfl, rfl⟩)) hU⟩
      · rw [show pc_k (9 + g) = 7 from by unfold pc_k; rw [if_neg (by omega), if_neg (by omega)]]
        rfl
      · rw [show pc_v (9 + g) = g from by unfold pc_v; rw [if_neg (by omega), if_pos (by omega)]; omega]
theorem i_vc_steps {k : Nat} {u : SX} {v : SY} (I : i_Rel k u v) (hk : k + 3 ≤ 1536) : wpX_steps (fun r => wpY_steps (fun r' => r' = r ∧ i_Rel (k + 3) u v) v) u := by
  have I' := I
  obtain ⟨s, d, r, n, bk, bv, bf, bs, bg, st, uk, uv, uf, us, tx, C, E, B, G, wa, dk, df, ds, ki, fi, se, re, ta, wn, gr, rfl, rfl, hD, hU⟩ := I
  exact ⟨rfl, I'⟩
theorem i_vc_depth {k : Nat} {u : SX} {v : SY} (I : i_Rel k u v) (hk : k + 3 ≤ 1536) : wpX_depth (fun r => wpY_depth (fun r' => r' = r ∧ i_Rel (k + 3) u v) v) u := by
  have I' := I
  obtain ⟨s, d, r, n, bk, bv, bf, bs, bg, st, uk, uv, uf, us, tx, C, E, B, G, wa, dk, df, ds, ki, fi, se, re, ta, wn, gr, rfl, rfl, hD, hU⟩ := I
  exact ⟨rfl, I'⟩
theorem i_vc_length {k : Nat} {u : SX} {v : SY} (I : i_Rel k u v) (hk : k + 3 ≤ 1536) : wpX_length (fun r => wpY_length (fun r' => r' = r ∧ i_Rel (k + 3) u v) v) u := by
  have I' := I
  obtain ⟨s, d, r, n, bk, bv, bf, bs, bg, st, uk, uv, uf, us, tx, C, E, B, G, wa, dk, df, ds, ki, fi, se, re, ta, wn, gr, rfl, rfl, hD, hU⟩ := I
  exact ⟨rfl, I'⟩
theorem rl_D0 {bk bv bf bs dk df ds st : Nat → Int32} : rl_D 0 0 bk bv bf bs dk df ds st :=
  ⟨by omega, by omega, by omega, fun q hq => by omega, fun q => by omega, fun _ => 4, fun _ => 0, fun _ => 0, fun p hp => by omega, fun p hp => by omega⟩
theorem i_vc_discard {k : Nat} {u : SX} {v : SY} (I : i_Rel k u v) (hk : k + 3 ≤ 1536) : wpX_discard (fun u' => wpY_discard (fun v' => i_Rel (k + 3) u' v') v) u := by
  obtain ⟨s, d, r, n, bk, bv, bf, bs, bg, st, uk, uv, uf, us, tx, C, E, B, G, wa, dk, df, ds, ki, fi, se, re, ta, wn, gr, rfl, rfl, hD, hU⟩ := I
  exact rl_mk (k := k + 3) (s := 0) (d := 0) rl_D0 hU
end
section
/-! a new object, define, feed, erase -/
section
variable {bp he up tl : Int32} {bk bv bf bs bg st uk uv uf us tx C E B G : Nat → Int32} {post : SX → Prop}
theorem xl_u2 {s : Nat} (hs : s ≤ 16) (hp : ∀ uk' uv' uf' us', (∀ p, p < s → uk' p = bk p ∧ uv' p = bv p ∧ uf' p = bf p ∧ us' p = bs p) → post (nI s, he, nI s, tl, bk, bv, bf, bs, bg, st, uk', uv', uf', us', tx, C, E, B, G)) :
    ∀ (d p : Nat) (uk uv uf us : Nat → Int32), s < d + p → p ≤ s → (∀ q, q < p → uk q = bk q ∧ uv q = bv q ∧ uf q = bf q ∧ us q = bs q) → wX_useBuiltParts_2 post (nI s) he up tl d (nI p) bk bv bf bs bg st uk uv uf us tx C E B G := by
  intro d
  induction d with
  | zero => intro p uk uv uf us h1 h2; omega
  | succ d ih =>
    intro p uk uv uf us h1 h2 h3
    rw [wX_useBuiltParts_2]
    by_cases w : p = s
    · subst w
      exact br_t (nI_le (Nat.le_refl _) (by omega)) (hp uk uv uf us h3)
    · have c : (nI p).toNatClampNeg = p := nI_clamp (by omega)
      have v : vp_in (nI p) 16 := vp_in_nI (by omega) (by omega)
      refine br_f (nI_ge (by omega) (by omega)) ⟨v, v, nm_r (e' := upd uk p (bk p)) (by rw [c]) ⟨v, v, nm_r (e' := upd uv p (bv p)) (by rw [c]) ⟨v, v, nm_r (e' := upd uf p (bf p)) (by rw [c]) ⟨v, v, nm_r (e' := upd us p (bs p)) (by rw [c]) (nm_r (nI_1 p) (ih (p + 1) _ _ _ _ (by omega) (by omega) (fun q hq => ?_)))⟩⟩⟩⟩
      by_cases e : q = p
      · subst e
        exact ⟨pk_us, pk_us, pk_us, pk_us⟩
      · rw [pk_un e, pk_un e, pk_un e, pk_un e]
        exact h3 q (by omega)
end
section
variable {sp de ro ln wa : Int32} {dk df ds dg sk ki fi se ty re ta wn gr : Nat → Int32} {post : Int32 → SY → Prop}
theorem yl_d12 {s d r : Nat} (hs : s ≤ 16) (hd : d < 6) (hr : sk d = nI r) (hp : ∀ ki' fi' se', (∀ p, p < s → ki' p = dk p ∧ fi' p = df p ∧ se' p = ds p) → post (nI (d + 1)) (0, 0, nI r, ln, wa, dk, df, ds, dg, sk, ki', fi', se', ty, re, ta, wn, gr)) :
    ∀ (t p : Nat) (ki fi se : Nat → Int32), s < t + p → p ≤ s → (∀ q, q < p → ki q = dk q ∧ fi q = df q ∧ se q = ds q) → wY_define_12 post (nI s) (nI (d + 1)) ro ln wa t (nI p) dk df ds dg sk ki fi se ty re ta wn gr := by
  intro t
  induction t with
  | zero => intro p ki fi se h1 h2; omega
  | succ t ih =>
    intro p ki fi se h1 h2 h3
    rw [wY_define_12]
    by_cases w : p = s
    · subst w
      exact br_t (nI_le (Nat.le_refl _) (by omega)) ⟨by rw [nI_pred]; exact vp_in_nI hd (by omega), nm_r (e' := nI r) (by rw [nI_pred, nI_clamp (by omega)]; exact hr) (hp ki fi se h3)⟩
    · have c : (nI p).toNatClampNeg = p := nI_clamp (by omega)
      have v : vp_in (nI p) 16 := vp_in_nI (by omega) (by omega)
      refine br_f (nI_ge (by omega) (by omega)) ⟨v, v, nm_r (e' := upd ki p (dk p)) (by rw [c]) ⟨v, v, nm_r (e' := upd fi p (df p)) (by rw [c]) ⟨v, v, nm_r (e' := upd se p (ds p)) (by rw [c]) (nm_r (nI_1 p) (ih (p + 1) _ _ _ (by omega) (by omega) (fun q hq => ?_)))⟩⟩⟩
      by_cases e : q = p
      · subst e
        exact ⟨pk_us, pk_us, pk_us⟩
      · rw [pk_un e, pk_un e, pk_un e]
        exact h3 q (by omega)
end
theorem rl_Pk {K F S : Nat → Nat} {m : Nat} {bk bv bf bs dk df ds uk uv uf us ki fi se : Nat → Int32} (h : rl_P K F S m bk bv bf bs dk df ds) (h1 : ∀ p, p < m → uk p = bk p ∧ uv p = bv p ∧ uf p = bf p ∧ us p = bs p) (h2 : ∀ p, p < m → ki p = dk p ∧ fi p = df p ∧ se p = ds p) : rl_P K F S m uk uv uf us ki fi se := by
  refine ⟨h.1, fun p hp => ?_⟩
  have a := h.2 p hp
  obtain ⟨b1, b2, b3, b4⟩ := h1 p hp
  obtain ⟨c1, c2, c3⟩ := h2 p hp
  unfold pc_ok at a ⊢
  rw [b1, b2, b3, b4, c1, c2, c3]
  exact a
theorem i_vc0 : wpX_init (fun u => wpY_init (fun v => i_Rel 0 u v)) := by
  have hP : rl_P (fun _ => 4) (fun _ => 0) (fun _ => 0) 1 (upd (fun _ => 0) 0 2) (fun _ => 0) (fun _ => 0) (fun _ => 0) (upd (fun _ => 0) 0 4) (fun _ => 0) (fun _ => 0) := by
    refine ⟨fun p hp => ⟨(by decide : 4 ≤ 11), fun q => absurd q (by decide : ¬ 5 ≤ 4)⟩, fun p hp => ?_⟩
    have e : p = 0 := by omega
    subst e
    exact ⟨⟨rfl, rfl, fun q => absurd q (by decide : ¬ 5 ≤ 4), fun q => absurd q (by decide : ¬ (4 = 5 ∨ 4 = 6))⟩, rfl, fun q => absurd q (by decide : ¬ 5 ≤ 4)⟩
  refine nm_e (xl_fill (m := 1) (n := 0) hP.1 (by omega) (by omega) (fun p hp => (hP.2 p hp).1) (fun C E B G hR => nm_e ?_))
  exact rl_mk (k := 0) (s := 0) (d := 0) (r := 0) (n := 0) rl_D0 ⟨by omega, by omega, _, _, _, hP, hR⟩
theorem i_vc_define {k : Nat} {u : SX} {v : SY} (I : i_Rel k u v) (hk : k + 3 ≤ 1536) : wpX_define (fun r u' => wpY_define (fun r' v' => r' = r ∧ i_Rel (k + 3) u' v') v) u := by
  obtain ⟨s, d, r, n, bk, bv, bf, bs, bg, st, uk, uv, uf, us, tx, C, E, B, G, wa, dk, df, ds, ki, fi, se, re, ta, wn, gr, rfl, rfl, hD, hU⟩ := I
  cases d with
  | zero => exact br_t rfl (br_t rfl ⟨rfl, rl_mk hD hU⟩)
  | succ d =>
    obtain ⟨hs, hd, hds, hq, htop, K, F, S, hP⟩ := hD
    have hn := hU.2.1
    obtain ⟨s, rfl⟩ : ∃ t, s = t + 1 := ⟨s - 1, by omega⟩
    have ht : st d = nI s := htop (by omega)
    have hne : ¬ nI (d + 1) = 0 := nI_ne0 (by omega) (by omega)
    refine br_f hne ⟨s + 1 + 1, xl_u2 hs (fun uk' uv' uf' us' h1 => ?_) (s + 1 + 1) 0 uk uv uf us (by omega) (by omega) (fun q hq => by omega)⟩
    refine xl_fill (m := s + 1) (n := n) hP.1 hs hn (fun p hp => ?_) (fun C' E' B' G' hR => br_f hne ⟨s + 1 + 1, yl_d12 hs (by omega) ht (fun ki' fi' se' h2 => ⟨rfl, ?_⟩) (s + 1 + 1) 0 ki fi se (by omega) (by omega) (fun q hq => by omega)⟩)
    · have a := (hP.2 p hp).1
      obtain ⟨b1, b2, b3, b4⟩ := h1 p hp
      unfold pc_ok at a ⊢
      rw [b1, b2, b3, b4]
      exact a
    · exact rl_mk (k := k + 3) (s := 0) (d := 0) (r := s) (n := n) rl_D0 ⟨by omega, hn, K, F, S, rl_Pk hP h1 h2, hR⟩
theorem i_vc_feed {k : Nat} {u : SX} {v : SY} (I : i_Rel k u v) (hk : k + 3 ≤ 1536) (v1 : Int32) : wpX_feed (fun r u' => wpY_feed (fun r' v' => r' = r ∧ i_Rel (k + 3) u' v') v v1) u v1 := by
  obtain ⟨s, d, r, n, bk, bv, bf, bs, bg, st, uk, uv, uf, us, tx, C, E, B, G, wa, dk, df, ds, ki, fi, se, re, ta, wn, gr, rfl, rfl, hD, hU⟩ := I
  by_cases h0 : v1 < 0
  · exact br_t h0 (br_t h0 ⟨rfl, rl_mk hD hU⟩)
  · obtain ⟨c, hc, rfl⟩ := nI_of h0
    by_cases h3 : c < 3
    · have a1 : nI c < 3 := nI_lt (b := 3) h3 (by decide)
      have a2 : nI c ≤ 2 := nI_le (b := 2) (by omega) (by decide)
      have hU' := hU
      obtain ⟨hr, hn, K, F, S, hP, hR0⟩ := hU
      by_cases h10 : n = 10
      · have e10 : nI n = 10 := by rw [h10]; rfl
        exact br_f h0 (br_t a1 (br_t e10 (br_f h0 (br_t a2 (br_t e10 ⟨rfl, rl_mk hD hU'⟩)))))
      · have e10 : ¬ nI n = 10 := fun e => h10 ((nI_eq (b := 10) (by omega) (by decide)).mp e)
        have cn : (nI n).toNatClampNeg = n := nI_clamp (by omega)
        have vn : vp_in (nI n) 10 := vp_in_nI (by omega) (by omega)
        refine br_f h0 (br_t a1 (br_f e10 ⟨vn, nm_r (e' := upd tx n (nI c)) (by rw [cn]) (nm_r (nI_1 n) (xl_fill (m := r + 1) (n := n + 1) hP.1 (by omega) (by omega) (fun p hp => (hP.2 p hp).1) (fun C' E' B' G' hR => ?_)))⟩))
        exact br_f h0 (br_t a2 (br_f e10 ⟨vn, nm_r (e' := upd tx n (nI c)) (by rw [cn]) (nm_r (nI_1 n) ⟨rfl, rl_mk hD ⟨hr, by omega, K, F, S, hP, hR⟩⟩)⟩))
    · have a1 : ¬ nI c < 3 := nI_nlt (b := 3) (by omega) hc
      have a2 : ¬ nI c ≤ 2 := nI_ge (a := 2) (by omega) hc
      exact br_f h0 (br_f a1 (br_f h0 (br_f a2 ⟨rfl, rl_mk hD hU⟩)))
theorem i_vc_erase {k : Nat} {u : SX} {v : SY} (I : i_Rel k u v) (hk : k + 3 ≤ 1536) : wpX_erase (fun u' => wpY_erase (fun v' => i_Rel (k + 3) u' v') v) u := by
  obtain ⟨s, d, r, n, bk, bv, bf, bs, bg, st, uk, uv, uf, us, tx, C, E, B, G, wa, dk, df, ds, ki, fi, se, re, ta, wn, gr, rfl, rfl, hD, hU⟩ := I
  obtain ⟨hr, hn, K, F, S, hP, hR0⟩ := hU
  unfold wpX_erase
  refine xl_fill (m := r + 1) (n := 0) hP.1 (by omega) (by omega) (fun p hp => (hP.2 p hp).1) (fun C' E' B' G' hR => ?_)
  exact rl_mk (k := k + 3) (n := 0) hD ⟨hr, by omega, K, F, S, hP, hR⟩
end
section
/-! the questions -/
theorem rl_xd {r n : Nat} {K F S : Nat → Nat} {tx C E B G : Nat → Int32} (hr : r < 16) (hn : n ≤ 10) (hR : ∀ q, q < r + 1 → ∀ j, j ≤ n → xr_Rep C E B G (q * 11 + j) (ru_tb K F S tx n q j)) : xd_ok (ru_tb K F S tx n r) n r C E B G :=
  ⟨hr, hn, fun j hj => ⟨ru_tb_ok hj, hR r (by omega) j hj⟩⟩
theorem rl_yd {r n : Nat} {K F S : Nat → Nat} {uk uv uf us ki fi se : Nat → Int32} (hr : r < 16) (hn : n ≤ 10) (hP : rl_P K F S (r + 1) uk uv uf us ki fi se) : yd_0 K F S n r ki fi se :=
  ⟨hP.1, hr, hn, fun p hp => (hP.2 p hp).2⟩
theorem i_vc_find {k : Nat} {u : SX} {v : SY} (I : i_Rel k u v) (hk : k + 3 ≤ 1536) (v1 : Int32) : wpX_find (fun r => wpY_find (fun r' v' => r' = r ∧ i_Rel (k + 3) u v') v v1) u v1 := by
  obtain ⟨s, d, r, n, bk, bv, bf, bs, bg, st, uk, uv, uf, us, tx, C, E, B, G, wa, dk, df, ds, ki, fi, se, re, ta, wn, gr, rfl, rfl, hD, hU⟩ := I
  have hU' := hU
  obtain ⟨hr, hn, K, F, S, hP, hR⟩ := hU
  unfold wpX_find
  exact xl_bf (rl_xd hr hn hR) (yl_find (rl_yd hr hn hP) (fun re' _ => ⟨rfl, rl_mk hD hU'⟩))
theorem i_vc_end {k : Nat} {u : SX} {v : SY} (I : i_Rel k u v) (hk : k + 3 ≤ 1536) (v1 : Int32) : wpX_end (fun r => wpY_end (fun r' v' => r' = r ∧ i_Rel (k + 3) u v') v v1) u v1 := by
  obtain ⟨s, d, r, n, bk, bv, bf, bs, bg, st, uk, uv, uf, us, tx, C, E, B, G, wa, dk, df, ds, ki, fi, se, re, ta, wn, gr, rfl, rfl, hD, hU⟩ := I
  have hU' := hU
  obtain ⟨hr, hn, K, F, S, hP, hR⟩ := hU
  have xd := rl_xd hr hn hR
  have yd := rl_yd (n := n) hr hn hP
  unfold wpX_end
  refine xl_bf xd ?_
  cases q : qa_f (ru_tb K F S tx n r) n v1 with
  | none => exact br_t rfl (yl_end yd (fun _ re' => ⟨rfl, rl_mk hD hU'⟩) (fun i q' => by rw [q] at q'; cases q'))
  | some i =>
    have hi := qa_some hn q
    refine br_f (ru_ne4 (by omega)) (xl_pe xd hi.1 hi.2 (yl_end yd (fun q' => by rw [q] at q'; cases q') (fun i' q' re' ta' wn' gr' _ => ?_)))
    obtain rfl : i = i' := Option.some.inj (q.symm.trans q')
    exact ⟨rfl, rl_mk hD hU'⟩
theorem xl_isg {bp he up tl : Int32} {bk bv bf bs bg st uk uv uf us tx C E B G : Nat → Int32} {post : Int32 → Prop} {g : Int32} (h0 : g < 0 ∨ 2 < g → post 0) (h1 : ∀ g', g = nI g' → g' < 3 → post 1) : wpX_isGroup post (bp, he, up, tl, bk, bv, bf, bs, bg, st, uk, uv, uf, us, tx, C, E, B, G) g := by
  refine br_c (fun z => h0 (Or.inl z)) (fun z => br_c (fun w => h0 (Or.inr (Int32.lt_of_lt_of_le (by decide) w))) (fun w => ?_))
  obtain ⟨g', hg, rfl⟩ := nI_of z
  exact h1 g' rfl (Nat.not_le.mp (fun q => w (nI_le (a := 3) q hg)))
theorem rl_gno {g : Nat} (hg : g < 3) : ¬ (nI g < 0 ∨ 2 < nI g) := fun h => h.elim (nI_pos (by omega)) (nI_nlt (a := 2) (by omega) (by omega))
theorem i_vc_groupIn {k : Nat} {u : SX} {v : SY} (I : i_Rel k u v) (hk : k + 3 ≤ 1536) (v1 : Int32) (v2 : Int32) : wpX_groupIn (fun r => wpY_groupIn (fun r' v' => r' = r ∧ i_Rel (k + 3) u v') v v1 v2) u v1 v2 := by
  obtain ⟨s, d, r, n, bk, bv, bf, bs, bg, st, uk, uv, uf, us, tx, C, E, B, G, wa, dk, df, ds, ki, fi, se, re, ta, wn, gr, rfl, rfl, hD, hU⟩ := I
  have hU' := hU
  obtain ⟨hr, hn, K, F, S, hP, hR⟩ := hU
  have xd := rl_xd hr hn hR
  have yd := rl_yd (n := n) hr hn hP
  unfold wpX_groupIn
  refine xl_bf xd ?_
  cases q : qa_f (ru_tb K F S tx n r) n v1 with
  | none => exact br_t rfl (yl_groupIn yd (fun _ _ _ _ _ _ => ⟨rfl, rl_mk hD hU'⟩) (fun i g' q' => by rw [q] at q'; cases q'))
  | some i =>
    have hi := qa_some hn q
    refine br_f (ru_ne4 (by omega)) (xl_isg (fun z => br_t rfl (yl_groupIn yd (fun _ _ _ _ _ _ => ⟨rfl, rl_mk hD hU'⟩) (fun i g' _ eg hg => absurd (eg ▸ z) (rl_gno hg)))) (fun g eg hg => br_f (by decide) ?_))
    subst eg
    have hm := (qu_hd_sel (x := 2047) hi.2 (fun s hs => by
      have := (ru_tb_ok (K := K) (F := F) (S := S) (t := tx) (p := r) hi.1).1 s hs
      rw [yb_2047, decide_eq_true (by omega)])).2.1
    refine xl_pe xd hi.1 hi.2 (xl_gow (s := qu_hd (ru_tb K F S tx n r i)) rfl rfl xd hi.1 hm hg (yl_groupIn yd (fun z => ?_) (fun i' g' q' eg hg' re' ta' wn' gr' => ?_)))
    · rcases z with z | z
      · rw [q] at z; cases z
      · exact absurd z (rl_gno hg)
    · obtain rfl : i = i' := Option.some.inj (q.symm.trans q')
      obtain rfl : g = g' := (nI_eq (by omega) (by omega)).mp eg
      exact ⟨rfl, rl_mk hD hU'⟩
theorem i_vc_spans {k : Nat} {u : SX} {v : SY} (I : i_Rel k u v) (hk : k + 3 ≤ 1536) (v1 : Int32) (v2 : Int32) : wpX_spans (fun r => wpY_spans (fun r' v' => r' = r ∧ i_Rel (k + 3) u v') v v1 v2) u v1 v2 := by
  obtain ⟨s, d, r, n, bk, bv, bf, bs, bg, st, uk, uv, uf, us, tx, C, E, B, G, wa, dk, df, ds, ki, fi, se, re, ta, wn, gr, rfl, rfl, hD, hU⟩ := I
  have hU' := hU
  obtain ⟨hr, hn, K, F, S, hP, hR⟩ := hU
  have xd := rl_xd hr hn hR
  have yd := rl_yd (n := n) hr hn hP
  have bad : (v1 < 0 ∨ nI n < v1 ∨ v2 < 0 ∨ nI n < v2) → wpY_spans (fun r' v' => r' = 0 ∧ i_Rel (k + 3) (nI s, nI d, nI (r + 1), nI n, bk, bv, bf, bs, bg, st, uk, uv, uf, us, tx, C, E, B, G) v') (nI s, nI d, nI r, nI n, wa, dk, df, ds, bg, st, ki, fi, se, tx, re, ta, wn, gr) v1 v2 := fun z =>
    yl_spans yd (fun _ => ⟨rfl, rl_mk hD hU'⟩) (fun i' j' e1 e2 h1 h2 => by
      subst e1 e2
      rcases z with z | z | z | z
      · exact absurd z (nI_pos (by omega))
      · exact absurd z (nI_nlt h1 (by omega))
      · exact absurd z (nI_pos (by omega))
      · exact absurd z (nI_nlt h2 (by omega)))
  unfold wpX_spans
  refine br_c (fun z => br_t rfl (bad (Or.inl z))) (fun z => br_c (fun w => br_t rfl (bad (Or.inr (Or.inl w)))) (fun w => br_f (by decide) (br_c (fun z' => br_t rfl (bad (Or.inr (Or.inr (Or.inl z'))))) (fun z' => br_c (fun w' => br_t rfl (bad (Or.inr (Or.inr (Or.inr w'))))) (fun w' => br_f (by decide) ?_)))))
  obtain ⟨i, hi, rfl⟩ := nI_of z
  obtain ⟨j, hj, rfl⟩ := nI_of z'
  have hi2 : i ≤ n := Nat.not_lt.mp (fun e => w (nI_lt e hi))
  have hj2 : j ≤ n := Nat.not_lt.mp (fun e => w' (nI_lt e hj))
  have good : wpY_spans (fun r' v' => r' = (if ru_any (ru_tb K F S tx n r i) j = true then 1 else 0) ∧ i_Rel (k + 3) (nI s, nI d, nI (r + 1), nI n, bk, bv, bf, bs, bg, st, uk, uv, uf, us, tx, C, E, B, G) v') (nI s, nI d, nI r, nI n, wa, dk, df, ds, bg, st, ki, fi, se, tx, re, ta, wn, gr) (nI i) (nI j) := by
    refine yl_spans yd (fun z => ?_) (fun i' j' e1 e2 h1 h2 re' _ => ?_)
    · rcases z with z | z | z | z
      · exact absurd z (nI_pos (by omega))
      · exact absurd z (nI_nlt hi2 (by omega))
      · exact absurd z (nI_pos (by omega))
      · exact absurd z (nI_nlt hj2 (by omega))
    · obtain rfl : i = i' := (nI_eq (by omega) (by omega)).mp e1
      obtain rfl : j = j' := (nI_eq (by omega) (by omega)).mp e2
      exact ⟨rfl, rl_mk hD hU'⟩
  refine xl_wr rfl rfl xd hi2 hj2 ?_
  by_cases c : ru_any (ru_tb K F S tx n r i) j = true
  · rw [if_pos c] at good ⊢
    exact br_f (by decide) good
  · rw [if_neg c] at good ⊢
    exact br_t rfl good
theorem i_vc_groupInWhole {k : Nat} {u : SX} {v : SY} (I : i_Rel k u v) (hk : k + 3 ≤ 1536) (v1 : Int32) : wpX_groupInWhole (fun r => wpY_groupInWhole (fun r' v' => r' = r ∧ i_Rel (k + 3) u v') v v1) u v1 := by
  obtain ⟨s, d, r, n, bk, bv, bf, bs, bg, st, uk, uv, uf, us, tx, C, E, B, G, wa, dk, df, ds, ki, fi, se, re, ta, wn, gr, rfl, rfl, hD, hU⟩ := I
  have hU' := hU
  obtain ⟨hr, hn, K, F, S, hP, hR⟩ := hU
  have xd := rl_xd hr hn hR
  have yd := rl_yd (n := n) hr hn hP
  unfold wpX_groupInWhole
  refine xl_isg (fun z => br_t rfl (yl_giw yd (fun _ _ _ _ _ _ => ⟨rfl, rl_mk hD hU'⟩) (fun g' s' eg hg => absurd (eg ▸ z) (rl_gno hg)))) (fun g eg hg => br_f (by decide) (xl_wr (i := 0) (j := n) rfl rfl xd (by omega) (Nat.le_refl n) ?_))
  subst eg
  by_cases c : ru_any (ru_tb K F S tx n r 0) n = true
  · rw [if_pos c]
    obtain ⟨a, ha, hb⟩ := ru_any_iff.mp c
    refine br_f (by decide) (xl_gow (i := 0) (s := a) rfl (by rw [hb]) xd (by omega) ha hg (yl_giw yd (fun z => ?_) (fun g' s' eg hg' hs1 hs2 re' ta' wn' gr' => ?_)))
    · rcases z with z | z | z
      · exact absurd (Or.inl z) (rl_gno hg)
      · exact absurd (Or.inr z) (rl_gno hg)
      · rw [c] at z; cases z
    · obtain rfl : g = g' := (nI_eq (by omega) (by omega)).mp eg
      have e1 := (hR r (by omega) 0 (by omega)).2.2.2 a ha g hg
      have e2 := (hR r (by omega) 0 (by omega)).2.2.2 s' hs1 g hg
      rw [hs2, ← hb] at e2
      exact ⟨e2.symm.trans e1, rl_mk hD hU'⟩
  · rw [if_neg c]
    exact br_t rfl (yl_giw yd (fun _ _ _ _ _ _ => ⟨rfl, rl_mk hD hU'⟩) (fun g' s' _ _ hs1 hs2 => absurd (ru_any_iff.mpr ⟨s', hs1, hs2⟩) c))
theorem i_vc_count {k : Nat} {u : SX} {v : SY} (I : i_Rel k u v) (hk : k + 3 ≤ 1536) : wpX_count (fun r => wpY_count (fun r' v' => r' = r ∧ i_Rel (k + 3) u v') v) u := by
  obtain ⟨s, d, r, n, bk, bv, bf, bs, bg, st, uk, uv, uf, us, tx, C, E, B, G, wa, dk, df, ds, ki, fi, se, re, ta, wn, gr, rfl, rfl, hD, hU⟩ := I
  have hU' := hU
  obtain ⟨hr, hn, K, F, S, hP, hR⟩ := hU
  exact xl_count (rl_xd hr hn hR) (yl_count (rl_yd hr hn hP) (fun _ _ _ _ _ => ⟨rfl, rl_mk hD hU'⟩))
theorem i_vc_longest {k : Nat} {u : SX} {v : SY} (I : i_Rel k u v) (hk : k + 3 ≤ 1536) : wpX_longest (fun r => wpY_longest (fun r' v' => r' = r ∧ i_Rel (k + 3) u v') v) u := by
  obtain ⟨s, d, r, n, bk, bv, bf, bs, bg, st, uk, uv, uf, us, tx, C, E, B, G, wa, dk, df, ds, ki, fi, se, re, ta, wn, gr, rfl, rfl, hD, hU⟩ := I
  have hU' := hU
  obtain ⟨hr, hn, K, F, S, hP, hR⟩ := hU
  exact xl_longest (rl_xd hr hn hR) (yl_longest (rl_yd hr hn hP) (fun _ _ _ _ _ => ⟨rfl, rl_mk hD hU'⟩))
end
