/-! the reference's machine of tasks, by its step rules alone -/
def ym_go (L : Nat → Nat → Nat → (Nat → Int32) → (Nat → Int32) → (Nat → Int32) → Prop) (i w : Nat) (tk wt gs : Nat → Int32) (i' w' : Nat) (tk' wt' gs' : Nat → Int32) : Prop :=
  ∃ c, ∀ n, L n i' w' tk' wt' gs' → L (n + c) i w tk wt gs
theorem ym_tr {L : Nat → Nat → Nat → (Nat → Int32) → (Nat → Int32) → (Nat → Int32) → Prop} {i w i' w' i2 w2 : Nat} {tk wt gs tk' wt' gs' tk2 wt2 gs2 : Nat → Int32}
    (h : ym_go L i w tk wt gs i' w' tk' wt' gs') (h' : ym_go L i' w' tk' wt' gs' i2 w2 tk2 wt2 gs2) : ym_go L i w tk wt gs i2 w2 tk2 wt2 gs2 := by
  obtain ⟨c, hc⟩ := h
  obtain ⟨d, hd⟩ := h'
  refine ⟨d + c, fun n z => ?_⟩
  rw [← Nat.add_assoc]
  exact hc (n + d) (hd n z)
def ym_R (L : Nat → Nat → Nat → (Nat → Int32) → (Nat → Int32) → (Nat → Int32) → Prop) (K F S : Nat → Nat) (t : Nat → Int32) (n m : Nat) : Prop :=
  ∀ (p i w : Nat) (tk wt gs : Nat → Int32), p < m → i ≤ n → w + 1 < 64 → tk w = nI p →
    (K p < 4 → ym_go L i (w + 1) tk wt gs (i + 1) w tk wt gs) ∧
    (K p = 4 → ym_go L i (w + 1) tk wt gs i w tk wt gs) ∧
    (K p = 5 → ∃ y : Int32, (∀ k, k ≤ n → bt y k = (ru_sel (bt (wt w)) (ru_tb K F S t n (S p) k)).isSome) ∧ ym_go L i (w + 1) tk wt gs i (w + 1 + 1) (upd (upd tk w (nI (S p))) (w + 1) (nI (F p))) (upd (upd wt w (wt w)) (w + 1) y) gs) ∧
    (K p = 6 → (ru_sel (bt (wt w)) (ru_tb K F S t n (F p) i) = none → ym_go L i (w + 1) tk wt gs i (w + 1) (upd tk w (nI (S p))) (upd wt w (wt w)) gs) ∧ (ru_sel (bt (wt w)) (ru_tb K F S t n (F p) i) ≠ none → ym_go L i (w + 1) tk wt gs i (w + 1) (upd tk w (nI (F p))) (upd wt w (wt w)) gs)) ∧
    (K p = 7 ∨ (K p = 8 ∧ bt (wt w) i = false) → ∃ y : Int32, (∀ k, k ≤ n → bt y k = (decide (i < k) && (ru_sel (bt (wt w)) (ru_tb K F S t n p k)).isSome)) ∧ (ru_sel (bt y) (ru_tb K F S t n (F p) i) = none → ym_go L i (w + 1) tk wt gs i w tk wt gs) ∧ (ru_sel (bt y) (ru_tb K F S t n (F p) i) ≠ none → ym_go L i (w + 1) tk wt gs i (w + 1 + 1) (upd (upd tk w (nI p)) (w + 1) (nI (F p))) (upd (upd wt w (wt w)) (w + 1) y) gs)) ∧
    (K p = 8 → bt (wt w) i = true → ym_go L i (w + 1) tk wt gs i w tk wt gs) ∧
    (9 ≤ K p → ym_go L i (w + 1) tk wt gs i (w + 1 + 1) (upd (upd tk w (nI (100 + 16 * (K p - 9) + i))) (w + 1) (nI (F p))) (upd (upd wt w 0) (w + 1) (wt w)) gs)
def ym_G (L : Nat → Nat → Nat → (Nat → Int32) → (Nat → Int32) → (Nat → Int32) → Prop) : Prop :=
  ∀ (g i j w : Nat) (tk wt gs : Nat → Int32), g < 3 → i ≤ 10 → j ≤ 10 → w < 64 → tk w = nI (100 + 16 * g + i) → ym_go L j (w + 1) tk wt gs j w tk wt (upd gs g (nI (16 * i + j)))
theorem ym_u2 (tk : Nat → Int32) (w : Nat) (a b : Int32) : upd (upd tk w a) (w + 1) b (w + 1) = b ∧ upd (upd tk w a) (w + 1) b w = a ∧ ∀ q, q < w → upd (upd tk w a) (w + 1) b q = tk q :=
  ⟨pk_us, (pk_un (by omega)).trans pk_us, fun q hq => (pk_un (by omega)).trans (pk_un (by omega))⟩
section
variable {L : Nat → Nat → Nat → (Nat → Int32) → (Nat → Int32) → (Nat → Int32) → Prop} {K F S : Nat → Nat} {t : Nat → Int32} {n m : Nat}
def ym_Q (L : Nat → Nat → Nat → (Nat → Int32) → (Nat → Int32) → (Nat → Int32) → Prop) (K F S : Nat → Nat) (t : Nat → Int32) (n m f : Nat) : Prop :=
  ∀ (p i w : Nat) (tk wt gs : Nat → Int32) (r : ru_R), 11 * p + (10 - i) < f → p < m → i ≤ n → w + p + 1 < 64 → tk w = nI p → ru_sel (bt (wt w)) (ru_tb K F S t n p i) = some r →
    ∃ tk' wt', (∀ q, q < w → tk' q = tk q ∧ wt' q = wt q) ∧ ym_go L i (w + 1) tk wt gs r.1 w tk' wt' (ru_ov gs r)
theorem ym_two {f : Nat} (ih : ym_Q L K F S t n m f) {p q i w : Nat} {tk wt gs : Nat → Int32} {a b : ru_R} {x y : Int32} (hn : n ≤ 10) (h1 : 11 * p + (10 - i) < f) (h2 : 11 * q + (10 - a.1) < f) (hp : p < m) (hq : q < m) (hi : i ≤ n) (hw : w + 1 + p + 1 < 64) (hw2 : w + q + 1 < 64)
    (ha : ru_sel (bt y) (ru_tb K F S t n p i) = some a) (hb : ru_sel (bt x) (ru_tb K F S t n q a.1) = some b)
    (hg : ym_go L i (w + 1) tk wt gs i (w + 1 + 1) (upd (upd tk w (nI q)) (w + 1) (nI p)) (upd (upd wt w x) (w + 1) y) gs) :
    ∃ tk' wt', (∀ q, q < w → tk' q = tk q ∧ wt' q = wt q) ∧ ym_go L i (w + 1) tk wt gs (ru_cb a b).1 w tk' wt' (ru_ov gs (ru_cb a b)) := by
  have hbd := (ru_tb_ok (K := K) (F := F) (S := S) (t := t) (p := p) hi).1 a (ru_sel_some ha).1
  obtain ⟨u1, u2, u3⟩ := ym_u2 tk w (nI q) (nI p)
  obtain ⟨v1, v2, v3⟩ := ym_u2 wt w x y
  obtain ⟨tk2, wt2, hk2, go2⟩ := ih p i (w + 1) (upd (upd tk w (nI q)) (w + 1) (nI p)) (upd (upd wt w x) (w + 1) y) gs a h1 hp hi hw u1 (by rw [v1]; exact ha)
  have e1 := hk2 w (by omega)
  obtain ⟨tk3, wt3, hk3, go3⟩ := ih q a.1 w tk2 wt2 (ru_ov gs a) b h2 hq hbd.2 hw2 (e1.1.trans u2) (by rw [e1.2, v2]; exact hb)
  refine ⟨tk3, wt3, fun k hk => ⟨?_, ?_⟩, ?_⟩
  · rw [(hk3 k hk).1, (hk2 k (by omega)).1, u3 k hk]
  · rw [(hk3 k hk).2, (hk2 k (by omega)).2, v3 k hk]
  · rw [ru_ov_cb]
    exact ym_tr hg (ym_tr go2 go3)
theorem ym_run (hR : ym_R L K F S t n m) (hG : ym_G L) (wf : ru_wf K F S m) (hn : n ≤ 10) (hm : m ≤ 16) : ∀ f, ym_Q L K F S t n m f := by
  intro f
  induction f with
  | zero => intro p i w tk wt gs r h; omega
  | succ f ih =>
    intro p i w tk wt gs r hf hp hi hw ht hr
    obtain ⟨R3, R4, R5, R6, R7, R8, R9⟩ := hR p i w tk wt gs hp hi (by omega) ht
    have h5 := (wf p hp).2
    have hK := (wf p hp).1
    rcases (by omega : K p < 4 ∨ K p = 4 ∨ K p = 5 ∨ K p = 6 ∨ K p = 7 ∨ K p = 8 ∨ 9 ≤ K p) with h | h | h | h | h | h | h
    · obtain ⟨rfl, _⟩ := ru_w3 wf hn hm hp hi h hr
      exact ⟨tk, wt, fun _ _ => ⟨rfl, rfl⟩, by rw [ru_ov_no]; exact R3 h⟩
    · obtain rfl := ru_w4 wf hn hm hp hi h hr
      exact ⟨tk, wt, fun _ _ => ⟨rfl, rfl⟩, by rw [ru_ov_no]; exact R4 h⟩
    · have h5 := h5 (by omega)
      obtain ⟨y, hy, hg⟩ := R5 h
      obtain ⟨a, b, ha, hb, rfl⟩ := ru_w5 wf hn hm hp hi h hr hy
      exact ym_two ih hn (by omega) (by omega) (by omega) (by omega) hi (by omega) (by omega) ha hb hg
    · have h5 := h5 (by omega)
      have h6 := ru_w6 wf hn hm hp hi h hr
      by_cases z : ru_sel (bt (wt w)) (ru_tb K F S t n (F p) i) = none
      · obtain ⟨tk2, wt2, hk2, go2⟩ := ih (S p) i w (upd tk w (nI (S p))) (upd wt w (wt w)) gs r (by omega) (by omega) hi (by omega) pk_us (by rw [pk_us]; exact h6.1 z)
        exact ⟨tk2, wt2, fun k hk => ⟨(hk2 k hk).1.trans (pk_un (by omega)), (hk2 k hk).2.trans (pk_un (by omega))⟩, ym_tr ((R6 h).1 z) go2⟩
      · obtain ⟨tk2, wt2, hk2, go2⟩ := ih (F p) i w (upd tk w (nI (F p))) (upd wt w (wt w)) gs r (by omega) (by omega) hi (by omega) pk_us (by rw [pk_us]; exact h6.2 z)
        exact ⟨tk2, wt2, fun k hk => ⟨(hk2 k hk).1.trans (pk_un (by omega)), (hk2 k hk).2.trans (pk_un (by omega))⟩, ym_tr ((R6 h).2 z) go2⟩
    · have h5 := h5 (by omega)
      obtain ⟨y, hy, hg0, hg1⟩ := R7 (Or.inl h)
      have h7 := ru_w7 wf hn hm hp hi h hr hy
      by_cases z : ru_sel (bt y) (ru_tb K F S t n (F p) i) = none
      · obtain rfl := h7.1 z
        exact ⟨tk, wt, fun _ _ => ⟨rfl, rfl⟩, by rw [ru_ov_no]; exact hg0 z⟩
      · obtain ⟨a, b, ha, hia, hb, rfl⟩ := h7.2 z
        have hbd := (ru_tb_ok (K := K) (F := F) (S := S) (t := t) (p := F p) hi).1 a (ru_sel_some ha).1
        exact ym_two ih hn (by omega) (by omega) (by omega) (by omega) hi (by omega) (by omega) ha hb (hg1 z)
    · have h5 := h5 (by omega)
      have h8 := ru_w8 wf hn hm hp hi h hr
      cases z : bt (wt w) i with
      | true =>
        obtain rfl := h8.1 z
        exact ⟨tk, wt, fun _ _ => ⟨rfl, rfl⟩, by rw [ru_ov_no]; exact R8 h z⟩
      | false =>
        obtain ⟨y, hy, hg0, hg1⟩ := R7 (Or.inr ⟨h, z⟩)
        obtain ⟨a, b, ha, hia, hb, rfl⟩ := h8.2 z y hy
        have hbd := (ru_tb_ok (K := K) (F := F) (S := S) (t := t) (p := F p) hi).1 a (ru_sel_some ha).1
        exact ym_two ih hn (by omega) (by omega) (by omega) (by omega) hi (by omega) (by omega) ha hb (hg1 (by rw [ha]; exact Option.some_ne_none a))
    · have h5 := h5 (by omega)
      obtain ⟨a, ha, rfl⟩ := ru_w9 wf hn hm hp hi h hr
      have hbd := (ru_tb_ok (K := K) (F := F) (S := S) (t := t) (p := F p) hi).1 a (ru_sel_some ha).1
      obtain ⟨u1, u2, u3⟩ := ym_u2 tk w (nI (100 + 16 * (K p - 9) + i)) (nI (F p))
      obtain ⟨v1, v2, v3⟩ := ym_u2 wt w 0 (wt w)
      obtain ⟨tk2, wt2, hk2, go2⟩ := ih (F p) i (w + 1) (upd (upd tk w (nI (100 + 16 * (K p - 9) + i))) (w + 1) (nI (F p))) (upd (upd wt w 0) (w + 1) (wt w)) gs a (by omega) (by omega) hi (by omega) u1 (by rw [v1]; exact ha)
      have e1 := hk2 w (by omega)
      refine ⟨tk2, wt2, fun k hk => ⟨(hk2 k (by omega)).1.trans (u3 k hk), (hk2 k (by omega)).2.trans (v3 k hk)⟩, ?_⟩
      rw [ru_ov_set gs a _ i (by omega)]
      exact ym_tr (R9 h) (ym_tr go2 (hG (K p - 9) i a.1 w tk2 wt2 (ru_ov gs a) (by omega) (by omega) (by omega) (by omega) (e1.1.trans u2)))
end
