/-! what the reference's sets and its walk mean in the table -/
def ru_ov (gs : Nat → Int32) (r : ru_R) : Nat → Int32 := fun g => if r.2 g = -4 then gs g else r.2 g
theorem ru_ov_no (gs : Nat → Int32) (e : Nat) : ru_ov gs (e, ru_no) = gs := by
  funext g
  exact if_pos rfl
theorem ru_ov_cb (gs : Nat → Int32) (a b : ru_R) : ru_ov gs (ru_cb a b) = ru_ov (ru_ov gs a) b := by
  funext g
  unfold ru_ov ru_cb
  by_cases h : b.2 g = -4
  · simp only [if_pos h]
  · simp only [if_neg h]
theorem ru_ne4 {m : Nat} (h : m < 2 ^ 31) : ¬ nI m = -4 := fun e => by
  have h1 := nI_pos h
  rw [e] at h1
  exact h1 (by decide)
theorem ru_ov_set (gs : Nat → Int32) (a : ru_R) (g i : Nat) (h : 16 * i + a.1 < 2 ^ 31) : ru_ov gs (ru_set g i a) = upd (ru_ov gs a) g (nI (16 * i + a.1)) := by
  funext k
  unfold ru_ov ru_set upd
  by_cases z : k = g
  · simp only [if_pos z, if_neg (ru_ne4 h)]
  · simp only [if_neg z]
theorem ru_s_both {x y : Int32} {A : List ru_R} {B : Nat → List ru_R} {lo : Nat} (hy : ∀ a, a ∈ A → bt y a.1 = (decide (lo ≤ a.1) && (ru_sel (bt x) (B a.1)).isSome)) :
    (ru_sel (bt y) A = none → ru_sel (bt x) (ru_both A B lo) = none) ∧ (∀ a, ru_sel (bt y) A = some a → lo ≤ a.1 ∧ ∃ b, ru_sel (bt x) (B a.1) = some b ∧ ru_sel (bt x) (ru_both A B lo) = some (ru_cb a b)) := by
  rw [ru_sel_both (bt x) B lo (bt y) A hy]
  constructor
  · intro h
    rw [h]
    rfl
  · intro a h
    have h1 := ru_sel_some h
    have h2 := hy a h1.1
    rw [h1.2] at h2
    have h3 := (Bool.and_eq_true _ _).mp h2.symm
    obtain ⟨b, hb⟩ := Option.isSome_iff_exists.mp h3.2
    refine ⟨of_decide_eq_true h3.1, b, hb, ?_⟩
    rw [h]
    show Option.map (ru_cb a) (ru_sel (bt x) (B a.1)) = _
    rw [hb]
    rfl
theorem ru_any_both {A : List ru_R} {B : Nat → List ru_R} {lo e : Nat} : ru_any (ru_both A B lo) e = true ↔ ∃ k, ru_any A k = true ∧ lo ≤ k ∧ ru_any (B k) e = true := by
  rw [ru_any_iff]
  constructor
  · rintro ⟨r, hr, rfl⟩
    obtain ⟨a, ha, hl, b, hb, rfl⟩ := ru_both_mem hr
    exact ⟨a.1, ru_any_iff.mpr ⟨a, ha, rfl⟩, hl, ru_any_iff.mpr ⟨b, hb, rfl⟩⟩
  · rintro ⟨k, h1, hl, h2⟩
    obtain ⟨a, ha, rfl⟩ := ru_any_iff.mp h1
    obtain ⟨b, hb, rfl⟩ := ru_any_iff.mp h2
    refine ⟨ru_cb a b, List.mem_flatMap.mpr ⟨a, ha, ?_⟩, rfl⟩
    rw [if_pos hl]
    exact List.mem_map.mpr ⟨b, hb, rfl⟩
theorem ru_any_set (l : List ru_R) (g i e : Nat) : ru_any (l.map (ru_set g i)) e = ru_any l e := by
  unfold ru_any
  rw [List.any_map]
  rfl
theorem ru_bq {a b : Bool} (h : a = true ↔ b = true) : a = b := by
  cases a <;> cases b <;> simp_all
section
variable {K F S : Nat → Nat} {t : Nat → Int32} {n m p i : Nat}
theorem ru_sel_1 (x : Int32) (e : Nat) : ru_sel (bt x) [(e, ru_no)] = if bt x e = true then some (e, ru_no) else none := by
  cases h : bt x e with
  | true => rw [ru_sel_pos h]; rfl
  | false => rw [ru_sel_neg h]; rfl
theorem ru_w3 (wf : ru_wf K F S m) (hn : n ≤ 10) (hm : m ≤ 16) (hp : p < m) (hi : i ≤ n) (h : K p < 4) {x : Int32} {r : ru_R} (hr : ru_sel (bt x) (ru_tb K F S t n p i) = some r) : r = (i + 1, ru_no) ∧ i < n := by
  rw [ru_tb_eq wf hn hm hp hi] at hr
  have h1 := (ru_sel_some hr).1
  have h3 : K p < 3 ∨ K p = 3 := by omega
  rcases h3 with z | z
  · rw [ru_st0 z] at h1
    split at h1
    · rename_i q
      have h2 : r ∈ [((i + 1, ru_no) : ru_R)] := h1
      rw [List.mem_singleton] at h2
      exact ⟨h2, q.1⟩
    · cases h1
  · rw [ru_st3 z] at h1
    split at h1
    · rename_i q
      have h2 : r ∈ [((i + 1, ru_no) : ru_R)] := h1
      rw [List.mem_singleton] at h2
      exact ⟨h2, q⟩
    · cases h1
theorem ru_w4 (wf : ru_wf K F S m) (hn : n ≤ 10) (hm : m ≤ 16) (hp : p < m) (hi : i ≤ n) (h : K p = 4) {x : Int32} {r : ru_R} (hr : ru_sel (bt x) (ru_tb K F S t n p i) = some r) : r = (i, ru_no) := by
  rw [ru_tb_eq wf hn hm hp hi, ru_st4 h] at hr
  have h2 : r ∈ [((i, ru_no) : ru_R)] := (ru_sel_some hr).1
  rw [List.mem_singleton] at h2
  exact h2
theorem ru_w5 (wf : ru_wf K F S m) (hn : n ≤ 10) (hm : m ≤ 16) (hp : p < m) (hi : i ≤ n) (h : K p = 5) {x y : Int32} {r : ru_R} (hr : ru_sel (bt x) (ru_tb K F S t n p i) = some r)
    (hy : ∀ k, k ≤ n → bt y k = (ru_sel (bt x) (ru_tb K F S t n (S p) k)).isSome) : ∃ a b, ru_sel (bt y) (ru_tb K F S t n (F p) i) = some a ∧ ru_sel (bt x) (ru_tb K F S t n (S p) a.1) = some b ∧ r = ru_cb a b := by
  rw [ru_tb_eq wf hn hm hp hi, ru_st5 h, ru_sel_add] at hr
  have h0 : (ru_sel (bt x) []).or (ru_sel (bt x) (ru_both (ru_tb K F S t n (F p) i) (ru_tb K F S t n (S p)) i)) = ru_sel (bt x) (ru_both (ru_tb K F S t n (F p) i) (ru_tb K F S t n (S p)) i) := rfl
  rw [h0] at hr
  have hb := ru_s_both (x := x) (y := y) (A := ru_tb K F S t n (F p) i) (B := ru_tb K F S t n (S p)) (lo := i) (fun a ha => by
    have h1 := (ru_tb_ok (K := K) (F := F) (S := S) (t := t) (p := F p) hi).1 a ha
    rw [hy a.1 h1.2, decide_eq_true h1.1, Bool.true_and])
  cases q : ru_sel (bt y) (ru_tb K F S t n (F p) i) with
  | none => rw [hb.1 q] at hr; cases hr
  | some a =>
    obtain ⟨_, b, h2, h3⟩ := hb.2 a q
    rw [h3] at hr
    exact ⟨a, b, rfl, h2, (Option.some.inj hr).symm⟩
theorem ru_w6 (wf : ru_wf K F S m) (hn : n ≤ 10) (hm : m ≤ 16) (hp : p < m) (hi : i ≤ n) (h : K p = 6) {x : Int32} {r : ru_R} (hr : ru_sel (bt x) (ru_tb K F S t n p i) = some r) :
    (ru_sel (bt x) (ru_tb K F S t n (F p) i) = none → ru_sel (bt x) (ru_tb K F S t n (S p) i) = some r) ∧ (ru_sel (bt x) (ru_tb K F S t n (F p) i) ≠ none → ru_sel (bt x) (ru_tb K F S t n (F p) i) = some r) := by
  rw [ru_tb_eq wf hn hm hp hi, ru_st6 h, ru_sel_add, ru_sel_add] at hr
  have h0 : (ru_sel (bt x) []).or (ru_sel (bt x) (ru_tb K F S t n (F p) i)) = ru_sel (bt x) (ru_tb K F S t n (F p) i) := rfl
  rw [h0] at hr
  cases q : ru_sel (bt x) (ru_tb K F S t n (F p) i) with
  | none =>
    rw [q] at hr
    exact ⟨fun _ => hr, fun z => absurd rfl z⟩
  | some a =>
    rw [q] at hr
    exact ⟨fun z => (nomatch z), fun _ => hr⟩
theorem ru_w78 {x y : Int32} (hi : i ≤ n) (hy : ∀ k, k ≤ n → bt y k = (decide (i < k) && (ru_sel (bt x) (ru_tb K F S t n p k)).isSome)) :
    (ru_sel (bt y) (ru_tb K F S t n (F p) i) = none → ru_sel (bt x) (ru_both (ru_tb K F S t n (F p) i) (ru_tb K F S t n p) (i + 1)) = none) ∧
    (∀ a, ru_sel (bt y) (ru_tb K F S t n (F p) i) = some a → i + 1 ≤ a.1 ∧ ∃ b, ru_sel (bt x) (ru_tb K F S t n p a.1) = some b ∧ ru_sel (bt x) (ru_both (ru_tb K F S t n (F p) i) (ru_tb K F S t n p) (i + 1)) = some (ru_cb a b)) :=
  ru_s_both (x := x) (y := y) (A := ru_tb K F S t n (F p) i) (B := ru_tb K F S t n p) (lo := i + 1) (fun a ha => by
    have h1 := (ru_tb_ok (K := K) (F := F) (S := S) (t := t) (p := F p) hi).1 a ha
    rw [hy a.1 h1.2]
    rfl)
theorem ru_w7 (wf : ru_wf K F S m) (hn : n ≤ 10) (hm : m ≤ 16) (hp : p < m) (hi : i ≤ n) (h : K p = 7) {x y : Int32} {r : ru_R} (hr : ru_sel (bt x) (ru_tb K F S t n p i) = some r)
    (hy : ∀ k, k ≤ n → bt y k = (decide (i < k) && (ru_sel (bt x) (ru_tb K F S t n p k)).isSome)) :
    (ru_sel (bt y) (ru_tb K F S t n (F p) i) = none → r = (i, ru_no)) ∧ (ru_sel (bt y) (ru_tb K F S t n (F p) i) ≠ none → ∃ a b, ru_sel (bt y) (ru_tb K F S t n (F p) i) = some a ∧ i < a.1 ∧ ru_sel (bt x) (ru_tb K F S t n p a.1) = some b ∧ r = ru_cb a b) := by
  have hb := ru_w78 (K := K) (F := F) (S := S) (t := t) (p := p) hi hy
  rw [ru_tb_eq wf hn hm hp hi, ru_st7 h, ru_sel_add, ru_sel_add] at hr
  have h0 : (ru_sel (bt x) []).or (ru_sel (bt x) (ru_both (ru_tb K F S t n (F p) i) (ru_tb K F S t n p) (i + 1))) = ru_sel (bt x) (ru_both (ru_tb K F S t n (F p) i) (ru_tb K F S t n p) (i + 1)) := rfl
  rw [h0] at hr
  cases q : ru_sel (bt y) (ru_tb K F S t n (F p) i) with
  | none =>
    rw [hb.1 q] at hr
    have h2 : r ∈ [((i, ru_no) : ru_R)] := (ru_sel_some hr).1
    rw [List.mem_singleton] at h2
    exact ⟨fun _ => h2, fun z => absurd rfl z⟩
  | some a =>
    obtain ⟨h1, b, h2, h3⟩ := hb.2 a q
    rw [h3] at hr
    exact ⟨fun z => (nomatch z), fun _ => ⟨a, b, rfl, h1, h2, (Option.some.inj hr).symm⟩⟩
theorem ru_w8 (wf : ru_wf K F S m) (hn : n ≤ 10) (hm : m ≤ 16) (hp : p < m) (hi : i ≤ n) (h : K p = 8) {x : Int32} {r : ru_R} (hr : ru_sel (bt x) (ru_tb K F S t n p i) = some r) :
    (bt x i = true → r = (i, ru_no)) ∧ (bt x i = false → ∀ y : Int32, (∀ k, k ≤ n → bt y k = (decide (i < k) && (ru_sel (bt x) (ru_tb K F S t n p k)).isSome)) → ∃ a b, ru_sel (bt y) (ru_tb K F S t n (F p) i) = some a ∧ i < a.1 ∧ ru_sel (bt x) (ru_tb K F S t n p a.1) = some b ∧ r = ru_cb a b) := by
  rw [ru_tb_eq wf hn hm hp hi, ru_st8 h, ru_sel_add, ru_sel_add, ru_sel_1] at hr
  constructor
  · intro z
    rw [if_pos z] at hr
    exact (Option.some.inj hr).symm
  · intro z y hy
    have hb := ru_w78 (K := K) (F := F) (S := S) (t := t) (p := p) hi hy
    rw [if_neg (by rw [z]; decide)] at hr
    have h0 : ((ru_sel (bt x) []).or none).or (ru_sel (bt x) (ru_both (ru_tb K F S t n (F p) i) (ru_tb K F S t n p) (i + 1))) = ru_sel (bt x) (ru_both (ru_tb K F S t n (F p) i) (ru_tb K F S t n p) (i + 1)) := rfl
    rw [h0] at hr
    cases q : ru_sel (bt y) (ru_tb K F S t n (F p) i) with
    | none => rw [hb.1 q] at hr; cases hr
    | some a =>
      obtain ⟨h1, b, h2, h3⟩ := hb.2 a q
      rw [h3] at hr
      exact ⟨a, b, rfl, h1, h2, (Option.some.inj hr).symm⟩
theorem ru_w9 (wf : ru_wf K F S m) (hn : n ≤ 10) (hm : m ≤ 16) (hp : p < m) (hi : i ≤ n) (h : 9 ≤ K p) {x : Int32} {r : ru_R} (hr : ru_sel (bt x) (ru_tb K F S t n p i) = some r) :
    ∃ a, ru_sel (bt x) (ru_tb K F S t n (F p) i) = some a ∧ r = ru_set (K p - 9) i a := by
  rw [ru_tb_eq wf hn hm hp hi, ru_st9 h, ru_sel_set, ru_sel_add] at hr
  have h0 : (ru_sel (bt x) []).or (ru_sel (bt x) (ru_tb K F S t n (F p) i)) = ru_sel (bt x) (ru_tb K F S t n (F p) i) := rfl
  rw [h0] at hr
  obtain ⟨a, ha, e⟩ := Option.map_eq_some_iff.mp hr
  exact ⟨a, ha, e.symm⟩
end
