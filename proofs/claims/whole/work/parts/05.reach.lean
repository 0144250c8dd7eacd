/-! the reference's sets of ends are those of the table -/
section
variable {K F S : Nat → Nat} {t : Nat → Int32} {n m p i : Nat}
theorem ru_a1 (l : List ru_R) (r : ru_R) (e : Nat) : ru_any (ru_add l [r]) e = (ru_any l e || r.1 == e) := by
  rw [ru_any_add, ru_any_one]
theorem ru_q3 (wf : ru_wf K F S m) (hn : n ≤ 10) (hm : m ≤ 16) (hp : p < m) (hi : i ≤ n) (h : K p < 4) (e : Nat) :
    (i < n ∧ (K p = 3 ∨ t i = nI (K p)) → ru_any (ru_tb K F S t n p i) e = (e == i + 1)) ∧ (¬ (i < n ∧ (K p = 3 ∨ t i = nI (K p))) → ru_any (ru_tb K F S t n p i) e = false) := by
  have hc : ((i + 1 : Nat) == e) = (e == i + 1) := by
    by_cases z : e = i + 1
    · subst z; rfl
    · rw [beq_eq_false_iff_ne.mpr z, beq_eq_false_iff_ne.mpr (fun q => z q.symm)]
  rw [ru_tb_eq wf hn hm hp hi]
  have h3 : K p < 3 ∨ K p = 3 := by omega
  rcases h3 with z | z
  · rw [ru_st0 z]
    have h4 : ¬ K p = 3 := by omega
    constructor
    · rintro ⟨h1, h2⟩
      rw [if_pos ⟨h1, h2.resolve_left h4⟩, ru_a1, ru_any_nil, Bool.false_or]
      exact hc
    · intro h1
      rw [if_neg (fun q => h1 ⟨q.1, Or.inr q.2⟩)]
      rfl
  · rw [ru_st3 z]
    constructor
    · rintro ⟨h1, _⟩
      rw [if_pos h1, ru_a1, ru_any_nil, Bool.false_or]
      exact hc
    · intro h1
      rw [if_neg (fun q => h1 ⟨q, Or.inl z⟩)]
      rfl
theorem ru_eqc (e i : Nat) : (i == e) = (e == i) := by
  by_cases z : e = i
  · subst z; rfl
  · rw [beq_eq_false_iff_ne.mpr z, beq_eq_false_iff_ne.mpr (fun q => z q.symm)]
theorem ru_q4 (wf : ru_wf K F S m) (hn : n ≤ 10) (hm : m ≤ 16) (hp : p < m) (hi : i ≤ n) (h : K p = 4) (e : Nat) : ru_any (ru_tb K F S t n p i) e = (e == i) := by
  rw [ru_tb_eq wf hn hm hp hi, ru_st4 h, ru_a1, ru_any_nil, Bool.false_or]
  exact ru_eqc e i
theorem ru_le_n {q k e : Nat} (hk : k ≤ n) (h : ru_any (ru_tb K F S t n q k) e = true) : k ≤ e ∧ e ≤ n := by
  obtain ⟨r, hr, rfl⟩ := ru_any_iff.mp h
  exact (ru_tb_ok hk).1 r hr
theorem ru_q5 (wf : ru_wf K F S m) (hn : n ≤ 10) (hm : m ≤ 16) (hp : p < m) (hi : i ≤ n) (h : K p = 5) {x y : Int32} (hx : ∀ k, bt x k = ru_any (ru_tb K F S t n (F p) i) k)
    (hy : ∀ e, bt y e = true ↔ ∃ k, k ≤ n ∧ bt x k = true ∧ ru_any (ru_tb K F S t n (S p) k) e = true) (e : Nat) : bt y e = ru_any (ru_tb K F S t n p i) e := by
  rw [ru_tb_eq wf hn hm hp hi, ru_st5 h, ru_any_add, ru_any_nil, Bool.false_or]
  apply ru_bq
  rw [hy, ru_any_both]
  constructor
  · rintro ⟨k, _, h2, h3⟩
    rw [hx] at h2
    exact ⟨k, h2, (ru_le_n hi h2).1, h3⟩
  · rintro ⟨k, h2, _, h3⟩
    exact ⟨k, (ru_le_n hi h2).2, by rw [hx]; exact h2, h3⟩
theorem ru_q6 (wf : ru_wf K F S m) (hn : n ≤ 10) (hm : m ≤ 16) (hp : p < m) (hi : i ≤ n) (h : K p = 6) {x y : Int32} (hx : ∀ k, bt x k = ru_any (ru_tb K F S t n (F p) i) k) (hy : ∀ k, bt y k = ru_any (ru_tb K F S t n (S p) i) k) (e : Nat) : bt (x ||| y) e = ru_any (ru_tb K F S t n p i) e := by
  rw [ru_tb_eq wf hn hm hp hi, ru_st6 h, ru_any_add, ru_any_add, ru_any_nil, Bool.false_or, b_or, hx, hy]
theorem ru_q9 (wf : ru_wf K F S m) (hn : n ≤ 10) (hm : m ≤ 16) (hp : p < m) (hi : i ≤ n) (h : 9 ≤ K p) {x : Int32} (hx : ∀ k, bt x k = ru_any (ru_tb K F S t n (F p) i) k) (e : Nat) : bt x e = ru_any (ru_tb K F S t n p i) e := by
  rw [ru_tb_eq wf hn hm hp hi, ru_st9 h, ru_any_set, ru_any_add, ru_any_nil, Bool.false_or, hx]
theorem ru_q78 (wf : ru_wf K F S m) (hn : n ≤ 10) (hm : m ≤ 16) (hp : p < m) (hi : i ≤ n) (h : K p = 7 ∨ K p = 8) {x y z : Int32} (hz : ∀ e, bt z e = (e == i)) (hx : ∀ k, k < 32 → bt x k = (ru_any (ru_tb K F S t n (F p) i) k && decide (i < k)))
    (hy : ∀ e, bt y e = true ↔ ∃ k, k ≤ n ∧ bt x k = true ∧ ru_any (ru_tb K F S t n p k) e = true) (e : Nat) : bt (z ||| y) e = ru_any (ru_tb K F S t n p i) e := by
  have h1 : bt y e = ru_any (ru_both (ru_tb K F S t n (F p) i) (ru_tb K F S t n p) (i + 1)) e := by
    apply ru_bq
    rw [hy, ru_any_both]
    constructor
    · rintro ⟨k, h1, h2, h3⟩
      rw [hx k (by omega)] at h2
      have h4 := (Bool.and_eq_true _ _).mp h2
      exact ⟨k, h4.1, of_decide_eq_true h4.2, h3⟩
    · rintro ⟨k, h2, h4, h3⟩
      have h5 := (ru_le_n hi h2).2
      exact ⟨k, h5, by rw [hx k (by omega), h2, decide_eq_true (show i < k from h4)]; rfl, h3⟩
  rw [ru_tb_eq wf hn hm hp hi, b_or, hz, h1]
  rcases h with h | h
  · rw [ru_st7 h, ru_a1, ru_any_add, ru_any_nil, Bool.false_or, Bool.or_comm]
    exact congrArg (fun q => _ || q) (ru_eqc e i).symm
  · rw [ru_st8 h, ru_any_add, ru_a1, ru_any_nil, Bool.false_or]
    exact congrArg (fun q => q || _) (ru_eqc e i).symm
end
