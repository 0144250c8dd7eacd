/-! one step of the table, and the table -/
def ru_step (K F S : Nat → Nat) (t : Nat → Int32) (n : Nat) (T : Nat → Nat → List ru_R) (p i : Nat) : List ru_R :=
  if K p < 3 then (if i < n ∧ t i = nI (K p) then ru_add [] [(i + 1, ru_no)] else [])
  else if K p = 3 then (if i < n then ru_add [] [(i + 1, ru_no)] else [])
  else if K p = 4 then ru_add [] [(i, ru_no)]
  else if K p = 5 then ru_add [] (ru_both (T (F p) i) (T (S p)) i)
  else if K p = 6 then ru_add (ru_add [] (T (F p) i)) (T (S p) i)
  else if K p = 7 then ru_add (ru_add [] (ru_both (T (F p) i) (T p) (i + 1))) [(i, ru_no)]
  else if K p = 8 then ru_add (ru_add [] [(i, ru_no)]) (ru_both (T (F p) i) (T p) (i + 1))
  else (ru_add [] (T (F p) i)).map (ru_set (K p - 9) i)
section
variable {K F S : Nat → Nat} {t : Nat → Int32} {n : Nat} {T : Nat → Nat → List ru_R} {p i : Nat}
theorem ru_st0 (h : K p < 3) : ru_step K F S t n T p i = if i < n ∧ t i = nI (K p) then ru_add [] [(i + 1, ru_no)] else [] := if_pos h
theorem ru_st3 (h : K p = 3) : ru_step K F S t n T p i = if i < n then ru_add [] [(i + 1, ru_no)] else [] := by
  unfold ru_step
  rw [if_neg (by omega), if_pos h]
theorem ru_st4 (h : K p = 4) : ru_step K F S t n T p i = ru_add [] [(i, ru_no)] := by
  unfold ru_step
  rw [if_neg (by omega), if_neg (by omega), if_pos h]
theorem ru_st5 (h : K p = 5) : ru_step K F S t n T p i = ru_add [] (ru_both (T (F p) i) (T (S p)) i) := by
  unfold ru_step
  rw [if_neg (by omega), if_neg (by omega), if_neg (by omega), if_pos h]
theorem ru_st6 (h : K p = 6) : ru_step K F S t n T p i = ru_add (ru_add [] (T (F p) i)) (T (S p) i) := by
  unfold ru_step
  rw [if_neg (by omega), if_neg (by omega), if_neg (by omega), if_neg (by omega), if_pos h]
theorem ru_st7 (h : K p = 7) : ru_step K F S t n T p i = ru_add (ru_add [] (ru_both (T (F p) i) (T p) (i + 1))) [(i, ru_no)] := by
  unfold ru_step
  rw [if_neg (by omega), if_neg (by omega), if_neg (by omega), if_neg (by omega), if_neg (by omega), if_pos h]
theorem ru_st8 (h : K p = 8) : ru_step K F S t n T p i = ru_add (ru_add [] [(i, ru_no)]) (ru_both (T (F p) i) (T p) (i + 1)) := by
  unfold ru_step
  rw [if_neg (by omega), if_neg (by omega), if_neg (by omega), if_neg (by omega), if_neg (by omega), if_neg (by omega), if_pos h]
theorem ru_st9 (h : 9 ≤ K p) : ru_step K F S t n T p i = (ru_add [] (T (F p) i)).map (ru_set (K p - 9) i) := by
  unfold ru_step
  rw [if_neg (by omega), if_neg (by omega), if_neg (by omega), if_neg (by omega), if_neg (by omega), if_neg (by omega), if_neg (by omega)]
theorem ru_kc (k : Nat) : k < 3 ∨ k = 3 ∨ k = 4 ∨ k = 5 ∨ k = 6 ∨ k = 7 ∨ k = 8 ∨ 9 ≤ k := by omega
theorem ru_both_bd {A : List ru_R} {B : Nat → List ru_R} {lo : Nat} (hA : ru_ok i n A) (hB : ∀ k, k ≤ n → ru_ok k n (B k)) : ∀ r, r ∈ ru_both A B lo → i ≤ r.1 ∧ r.1 ≤ n := by
  intro r hr
  obtain ⟨a, ha, _, b, hb, rfl⟩ := ru_both_mem hr
  have h1 := hA.1 a ha
  have h2 := (hB a.1 h1.2).1 b hb
  exact ⟨Nat.le_trans h1.1 h2.1, h2.2⟩
theorem ru_one_bd {e : Nat} {g : Nat → Int32} (h : i ≤ e ∧ e ≤ n) : ∀ r, r ∈ [((e, g) : ru_R)] → i ≤ r.1 ∧ r.1 ≤ n := by
  intro r hr
  rw [List.mem_singleton] at hr
  rw [hr]
  exact h
theorem ru_step_ok (hi : i ≤ n) (hT : ∀ q j, j ≤ n → ru_ok j n (T q j)) : ru_ok i n (ru_step K F S t n T p i) := by
  rcases ru_kc (K p) with h | h | h | h | h | h | h | h
  · rw [ru_st0 h]
    split
    · rename_i z
      exact ru_ok_add _ _ (ru_ok_nil i n) (ru_one_bd ⟨by omega, by omega⟩)
    · exact ru_ok_nil i n
  · rw [ru_st3 h]
    split
    · rename_i z
      exact ru_ok_add _ _ (ru_ok_nil i n) (ru_one_bd ⟨by omega, by omega⟩)
    · exact ru_ok_nil i n
  · rw [ru_st4 h]
    exact ru_ok_add _ _ (ru_ok_nil i n) (ru_one_bd ⟨Nat.le_refl i, hi⟩)
  · rw [ru_st5 h]
    exact ru_ok_add _ _ (ru_ok_nil i n) (ru_both_bd (hT _ _ hi) (hT _))
  · rw [ru_st6 h]
    exact ru_ok_add _ _ (ru_ok_add _ _ (ru_ok_nil i n) (hT _ _ hi).1) (hT _ _ hi).1
  · rw [ru_st7 h]
    exact ru_ok_add _ _ (ru_ok_add _ _ (ru_ok_nil i n) (ru_both_bd (hT _ _ hi) (hT _))) (ru_one_bd ⟨Nat.le_refl i, hi⟩)
  · rw [ru_st8 h]
    exact ru_ok_add _ _ (ru_ok_add _ _ (ru_ok_nil i n) (ru_one_bd ⟨Nat.le_refl i, hi⟩)) (ru_both_bd (hT _ _ hi) (hT _))
  · rw [ru_st9 h]
    exact ru_ok_set _ _ (ru_ok_add _ _ (ru_ok_nil i n) (hT _ _ hi).1)
theorem ru_step_cg {T' : Nat → Nat → List ru_R} (h5 : 5 ≤ K p → F p < p ∧ S p < p) (hi : i ≤ n) (hT : ∀ q j, j ≤ n → ru_ok j n (T q j)) (hlo : ∀ q, q < p → ∀ j, j ≤ n → T q j = T' q j) (hp : ∀ j, i < j → j ≤ n → T p j = T' p j) : ru_step K F S t n T p i = ru_step K F S t n T' p i := by
  have c1 : 5 ≤ K p → ru_both (T (F p) i) (T p) (i + 1) = ru_both (T' (F p) i) (T' p) (i + 1) := fun h => by
    rw [← hlo _ (h5 h).1 i hi]
    exact ru_both_cg _ (fun a ha hl => hp a.1 (by omega) ((hT _ _ hi).1 a ha).2)
  rcases ru_kc (K p) with h | h | h | h | h | h | h | h
  · rw [ru_st0 h, ru_st0 h]
  · rw [ru_st3 h, ru_st3 h]
  · rw [ru_st4 h, ru_st4 h]
  · rw [ru_st5 h, ru_st5 h, ← hlo _ (h5 (by omega)).1 i hi, ru_both_cg _ (fun a ha hl => hlo _ (h5 (by omega)).2 a.1 ((hT _ _ hi).1 a ha).2)]
  · rw [ru_st6 h, ru_st6 h, hlo _ (h5 (by omega)).1 i hi, hlo _ (h5 (by omega)).2 i hi]
  · rw [ru_st7 h, ru_st7 h, c1 (by omega)]
  · rw [ru_st8 h, ru_st8 h, c1 (by omega)]
  · rw [ru_st9 h, ru_st9 h, hlo _ (h5 (by omega)).1 i hi]
end
def ru_T (K F S : Nat → Nat) (t : Nat → Int32) (n : Nat) : Nat → Nat → Nat → List ru_R
  | 0, _, _ => []
  | f + 1, p, i => ru_step K F S t n (ru_T K F S t n f) p i
def ru_tb (K F S : Nat → Nat) (t : Nat → Int32) (n : Nat) (p i : Nat) : List ru_R := ru_T K F S t n 200 p i
def ru_wf (K F S : Nat → Nat) (m : Nat) : Prop := ∀ p, p < m → K p ≤ 11 ∧ (5 ≤ K p → F p < p ∧ S p < p)
section
variable {K F S : Nat → Nat} {t : Nat → Int32} {n m : Nat}
theorem ru_T_ok : ∀ f p i, i ≤ n → ru_ok i n (ru_T K F S t n f p i) := by
  intro f
  induction f with
  | zero => intro p i _; exact ru_ok_nil i n
  | succ f ih => intro p i hi; exact ru_step_ok hi ih
theorem ru_T_st (wf : ru_wf K F S m) (hn : n ≤ 10) : ∀ f f' p i, p < m → i ≤ n → 11 * p + (10 - i) < f → 11 * p + (10 - i) < f' → ru_T K F S t n f p i = ru_T K F S t n f' p i := by
  intro f
  induction f with
  | zero => intro f' p i _ _ h; omega
  | succ f ih =>
    intro f' p i hp hi h1 h2
    cases f' with
    | zero => omega
    | succ f' =>
      exact ru_step_cg (wf p hp).2 hi (ru_T_ok f) (fun q hq j hj => ih f' q j (by omega) hj (by omega) (by omega)) (fun j hj hjn => ih f' p j hp hjn (by omega) (by omega))
theorem ru_tb_ok {p i : Nat} (hi : i ≤ n) : ru_ok i n (ru_tb K F S t n p i) := ru_T_ok 200 p i hi
theorem ru_tb_eq (wf : ru_wf K F S m) (hn : n ≤ 10) (hm : m ≤ 16) {p i : Nat} (hp : p < m) (hi : i ≤ n) : ru_tb K F S t n p i = ru_step K F S t n (ru_tb K F S t n) p i :=
  ru_step_cg (wf p hp).2 hi (ru_T_ok 199) (fun q hq j hj => ru_T_st wf hn 199 200 q j (by omega) hj (by omega) (by omega)) (fun j hj hjn => ru_T_st wf hn 199 200 p j hp hjn (by omega) (by omega))
end
