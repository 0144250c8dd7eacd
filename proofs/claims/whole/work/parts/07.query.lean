/-! what the calls ask of the whole pattern's row of lists L, L i the runs from i -/
def qu_hd (l : List ru_R) : ru_R := l.headD (0, ru_no)
def qu_f (L : Nat → List ru_R) : Nat → Nat → Option Nat
  | 0, _ => none
  | d + 1, j => if (L j).isEmpty = true then qu_f L d (j + 1) else some j
def qu_o : Option Nat → Int32
  | none => -4
  | some i => nI i
theorem qu_f_some {L : Nat → List ru_R} : ∀ (d j i : Nat), qu_f L d j = some i → j ≤ i ∧ i < j + d ∧ (L i).isEmpty = false := by
  intro d
  induction d with
  | zero => intro j i h; cases h
  | succ d ih =>
    intro j i h
    unfold qu_f at h
    by_cases z : (L j).isEmpty = true
    · rw [if_pos z] at h
      have h1 := ih (j + 1) i h
      exact ⟨by omega, by omega, h1.2.2⟩
    · rw [if_neg z] at h
      have h1 := Option.some.inj h
      subst h1
      exact ⟨Nat.le_refl _, by omega, by simpa using z⟩
def qu_nx (j e : Nat) : Nat := if e ≤ j then j + 1 else e
theorem qu_nx_gt (j e : Nat) : j < qu_nx j e := by
  unfold qu_nx
  split <;> omega
def qu_c (L : Nat → List ru_R) (n : Nat) (h : Int32 → Nat → Nat → Int32) : Nat → Nat → Int32 → Int32
  | 0, _, a => a
  | d + 1, j, a => if n < j then a else if (L j).isEmpty = true then qu_c L n h d (j + 1) a else qu_c L n h d (qu_nx j (qu_hd (L j)).1) (h a j (qu_hd (L j)).1)
theorem qu_c_st (L : Nat → List ru_R) (n : Nat) (h : Int32 → Nat → Nat → Int32) : ∀ (d d' j : Nat) (a : Int32), n + 1 ≤ j + d → n + 1 ≤ j + d' → qu_c L n h d j a = qu_c L n h d' j a := by
  intro d
  induction d with
  | zero =>
    intro d' j a h1 h2
    cases d' with
    | zero => rfl
    | succ d' =>
      show a = qu_c L n h (d' + 1) j a
      unfold qu_c
      rw [if_pos (by omega)]
  | succ d ih =>
    intro d' j a h1 h2
    cases d' with
    | zero =>
      show qu_c L n h (d + 1) j a = a
      unfold qu_c
      rw [if_pos (by omega)]
    | succ d' =>
      unfold qu_c
      have h3 := qu_nx_gt j (qu_hd (L j)).1
      rw [ih d' (j + 1) a (by omega) (by omega), ih d' (qu_nx j (qu_hd (L j)).1) (h a j (qu_hd (L j)).1) (by omega) (by omega)]
def qu_all (L : Nat → List ru_R) (n : Nat) (h : Int32 → Nat → Nat → Int32) (j : Nat) (a : Int32) : Int32 := qu_c L n h (n + 1) j a
section
variable {L : Nat → List ru_R} {n : Nat} {h : Int32 → Nat → Nat → Int32}
theorem qu_all_gt {j : Nat} {a : Int32} (hj : n < j) : qu_all L n h j a = a := by
  unfold qu_all qu_c
  rw [if_pos hj]
theorem qu_all_em {j : Nat} {a : Int32} (hj : j ≤ n) (he : (L j).isEmpty = true) : qu_all L n h j a = qu_all L n h (j + 1) a := by
  have h1 : qu_all L n h j a = qu_c L n h n (j + 1) a := by
    unfold qu_all
    rw [qu_c, if_neg (by omega), if_pos he]
  rw [h1]
  exact qu_c_st L n h n (n + 1) (j + 1) a (by omega) (by omega)
theorem qu_all_ne {j : Nat} {a : Int32} (hj : j ≤ n) (he : ¬ (L j).isEmpty = true) : qu_all L n h j a = qu_all L n h (qu_nx j (qu_hd (L j)).1) (h a j (qu_hd (L j)).1) := by
  have h1 : qu_all L n h j a = qu_c L n h n (qu_nx j (qu_hd (L j)).1) (h a j (qu_hd (L j)).1) := by
    unfold qu_all
    rw [qu_c, if_neg (by omega), if_neg he]
  rw [h1]
  have h3 := qu_nx_gt j (qu_hd (L j)).1
  exact qu_c_st L n h n (n + 1) _ _ (by omega) (by omega)
theorem qu_all_f (a : Int32) : ∀ (d j : Nat), j + d = n + 1 → (qu_f L d j = none → qu_all L n h j a = a) ∧ (∀ i, qu_f L d j = some i → qu_all L n h j a = qu_all L n h i a) := by
  intro d
  induction d with
  | zero => intro j hj; exact ⟨fun _ => qu_all_gt (by omega), fun i z => (nomatch z)⟩
  | succ d ih =>
    intro j hj
    by_cases z : (L j).isEmpty = true
    · rw [show qu_f L (d + 1) j = qu_f L d (j + 1) from if_pos z, qu_all_em (by omega) z]
      exact ih (j + 1) (by omega)
    · rw [show qu_f L (d + 1) j = some j from if_neg z]
      exact ⟨fun q => (nomatch q), fun i q => by rw [Option.some.inj q]⟩
end
theorem qu_hd_sel {l : List ru_R} {x : Int32} (h : ¬ l.isEmpty = true) (hx : ∀ r, r ∈ l → bt x r.1 = true) : ru_sel (bt x) l = some (qu_hd l) ∧ qu_hd l ∈ l ∧ l[0]? = some (qu_hd l) := by
  cases l with
  | nil => exact absurd rfl h
  | cons r l => exact ⟨ru_sel_pos (hx r List.mem_cons_self), List.mem_cons_self, rfl⟩
