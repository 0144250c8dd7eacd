/-! numbers and bits (rows out of kit/rows, then my own) -/
theorem pk_us {f : Nat → Int32} {k : Nat} {x : Int32} : upd f k x k = x := if_pos rfl
theorem pk_un {f : Nat → Int32} {k j : Nat} {x : Int32} (h : j ≠ k) : upd f k x j = f j := if_neg h
theorem pk_sub {a b : Nat} (h : b ≤ a) : nI a - nI b = nI (a - b) := by
  obtain ⟨c, rfl⟩ : ∃ c, a = c + b := ⟨a - b, by omega⟩
  rw [← nI_add, Int32.add_sub_cancel, Nat.add_sub_cancel]
theorem pk_m1 (n : Nat) : nI (n + 1) + (-1) = nI n := by
  rw [← nI_1, Int32.add_assoc, show (1 : Int32) + (-1) = 0 from rfl, Int32.add_zero]
theorem pk_mul (a b : Nat) : nI a * nI b = nI (a * b) := (Int32.ofNat_mul a b).symm
theorem pk_div {a d : Nat} (ha : a < 2 ^ 31) (h0 : 0 < d) (hd : d < 2 ^ 31) : nI a / nI d = nI (a / d) := by
  apply Int32.toInt_inj.mp
  rw [lg_idiv_nonneg (by rw [nI_toInt ha]; omega) (by rw [nI_toInt hd]; omega), nI_toInt ha, nI_toInt hd, nI_toInt (Nat.lt_of_le_of_lt (Nat.div_le_self a d) ha)]
  first | rfl | exact (Int.natCast_ediv _ _).symm
theorem pk_rem {a d : Nat} (ha : a < 2 ^ 31) (h0 : 0 < d) (hd : d < 2 ^ 31) : nI a - nI a / nI d * nI d = nI (a % d) := by
  rw [pk_div ha h0 hd, pk_mul, pk_sub (Nat.div_mul_le_self a d)]
  exact congrArg nI (by have := Nat.div_add_mod' a d; omega)
theorem pk_sub_toInt {a b : Nat} (ha : a < 2 ^ 30) (hb : b < 2 ^ 30) : (nI a - nI b).toInt = (a : Int) - b := by
  rw [Int32.toInt_sub, nI_toInt (by omega), nI_toInt (by omega)]
  exact Int.bmod_eq_of_le (by omega) (by omega)
theorem pk_sneg {a b : Nat} (hb : b < 2 ^ 30) (h : a < b) : nI a - nI b < 0 := by
  rw [Int32.lt_iff_toInt_lt, pk_sub_toInt (by omega) hb, show (0 : Int32).toInt = 0 from by decide]
  omega
theorem pk_ix (x : Int32) {n : Nat} (hn : n < 2 ^ 31) : x < 0 ∨ nI n ≤ x ∨ ∃ j : Nat, j < n ∧ x = nI j := by
  by_cases h : x < 0
  · exact Or.inl h
  · obtain ⟨j, hj, rfl⟩ := nI_of h
    by_cases h2 : j < n
    · exact Or.inr (Or.inr ⟨j, h2, rfl⟩)
    · exact Or.inr (Or.inl (nI_le (by omega) hj))
theorem pk_le {x y : Int32} {A B : Prop} (a b : Nat) (f : a ≤ b → A) (g : b < a → B) (hx : x = nI a := by rfl) (hy : y = nI b := by rfl) (ha : a < 2 ^ 31 := by omega) (hb : b < 2 ^ 31 := by omega) : (x ≤ y → A) ∧ (¬ x ≤ y → B) := by
  subst hx hy
  rw [nI_leI ha hb]
  exact ⟨f, fun z => g (by omega)⟩
theorem pk_lt {x y : Int32} {A B : Prop} (a b : Nat) (f : a < b → A) (g : b ≤ a → B) (hx : x = nI a := by rfl) (hy : y = nI b := by rfl) (ha : a < 2 ^ 31 := by omega) (hb : b < 2 ^ 31 := by omega) : (x < y → A) ∧ (¬ x < y → B) := by
  subst hx hy
  rw [nI_ltI ha hb]
  exact ⟨f, fun z => g (by omega)⟩
theorem pk_eq {x y : Int32} {A B : Prop} (a b : Nat) (f : a = b → A) (g : a ≠ b → B) (hx : x = nI a := by rfl) (hy : y = nI b := by rfl) (ha : a < 2 ^ 31 := by omega) (hb : b < 2 ^ 31 := by omega) : (x = y → A) ∧ (¬ x = y → B) := by
  subst hx hy
  rw [nI_eq ha hb]
  exact ⟨f, g⟩
theorem pk_in {x : Int32} (n N : Nat) (h : n < N) (hx : x = nI n := by rfl) (hN : N < 2 ^ 31 := by omega) : vp_in x N := by
  subst hx
  exact vp_in_nI h hN
theorem pk_cl {x : Int32} (n : Nat) (hx : x = nI n := by rfl) (h : n < 2 ^ 31 := by omega) : x.toNatClampNeg = n := by
  subst hx
  exact nI_clamp h
theorem pk_loop {σ : Type} (W : Nat → Nat → σ → Prop) (I : Nat → σ → Prop) (e i0 : Nat) (s : σ) (hi : i0 ≤ e) (h0 : I i0 s) (hx : ∀ n s, I e s → W (n + 1) e s)
    (hs : ∀ n i s, i < e → I i s → (∀ s', I (i + 1) s' → W n (i + 1) s') → W (n + 1) i s) : ∃ n, W n i0 s :=
  ⟨e + 1, loop_i W I e hx hs (e + 1) i0 s hi (by omega) h0⟩
theorem pk_loopD {σ : Type} (W : Nat → Nat → σ → Prop) (I : Nat → σ → Prop) (hx : ∀ n s, I 0 s → W (n + 1) 0 s)
    (hs : ∀ n i s, I (i + 1) s → (∀ s', I i s' → W n i s') → W (n + 1) (i + 1) s) : ∀ (e : Nat) (s : σ), I e s → W (e + 1) e s := by
  intro e
  induction e with
  | zero => exact fun s h => hx 0 s h
  | succ e ih => exact fun s h => hs (e + 1) e s h (fun s' h' => ih s' h')
theorem ek_if {c d A B : Prop} (e : c ↔ d) (f : d → A) (g : ¬ d → B) : (c → A) ∧ (¬ c → B) :=
  ⟨fun z => f (e.mp z), fun z => g (fun y => z (e.mpr y))⟩
theorem sb_m1 {p : Nat} (h : 0 < p) : nI p + (-1) = nI (p - 1) := by
  obtain ⟨q, rfl⟩ : ∃ q, p = q + 1 := ⟨p - 1, by omega⟩
  exact pk_m1 q
def bt (x : Int32) (i : Nat) : Bool := x.toBitVec.getLsbD i
theorem b_ext {x y : Int32} (h : ∀ i, i < 32 → bt x i = bt y i) : x = y := Int32.toBitVec_inj.mp (BitVec.eq_of_getLsbD_eq (fun i hi => h i hi))
theorem b_or (x y : Int32) (i : Nat) : bt (x ||| y) i = (bt x i || bt y i) := by unfold bt; rw [Int32.toBitVec_or, BitVec.getLsbD_or]
theorem b_and (x y : Int32) (i : Nat) : bt (x &&& y) i = (bt x i && bt y i) := by unfold bt; rw [Int32.toBitVec_and, BitVec.getLsbD_and]
theorem b_big {x : Int32} {i : Nat} (h : 32 ≤ i) : bt x i = false := BitVec.getLsbD_of_ge _ _ h
theorem b_0 (i : Nat) : bt 0 i = false := BitVec.getLsbD_zero
theorem s_l : ∀ n, n < 32 → ((nI n &&& 31).toBitVec.smod 32).toNat = n := by decide +kernel
theorem b_shl (n : Nat) (hn : n < 32) (x : Int32) {i : Nat} (hi : i < 32) : bt (x <<< (nI n &&& 31)) i = (decide (n ≤ i) && bt x (i - n)) := by
  unfold bt
  rw [Int32.toBitVec_shiftLeft]
  show (x.toBitVec <<< ((nI n &&& 31).toBitVec.smod 32).toNat).getLsbD i = _
  rw [s_l n hn, BitVec.getLsbD_shiftLeft]
  rcases Nat.lt_or_ge i n with h | h
  · simp [h, Nat.not_le.mpr h]
  · simp [hi, h, Nat.not_lt.mpr h]
theorem b_sshr (n : Nat) (hn : n < 32) (x : Int32) {i : Nat} (hi : i < 32) : bt (x >>> (nI n &&& 31)) i = if n + i < 32 then bt x (n + i) else bt x 31 := by
  unfold bt
  rw [Int32.toBitVec_shiftRight]
  show (x.toBitVec.sshiftRight ((nI n &&& 31).toBitVec.smod 32).toNat).getLsbD i = _
  rw [s_l n hn, BitVec.getLsbD_sshiftRight, BitVec.msb_eq_getLsbD_last]
  simp [hi]
theorem yb_1 (e : Nat) : bt 1 e = (e == 0) := by
  rcases Nat.lt_or_ge e 32 with h | h
  · exact (by decide +kernel : ∀ e, e < 32 → bt 1 e = (e == 0)) e h
  · rw [b_big h, beq_eq_false_iff_ne.mpr (by omega)]
theorem yb_2 (e : Nat) : bt 2 e = (e == 1) := by
  rcases Nat.lt_or_ge e 32 with h | h
  · exact (by decide +kernel : ∀ e, e < 32 → bt 2 e = (e == 1)) e h
  · rw [b_big h, beq_eq_false_iff_ne.mpr (by omega)]
theorem yb_2047 (e : Nat) : bt 2047 e = decide (e < 11) := by
  rcases Nat.lt_or_ge e 32 with h | h
  · exact (by decide +kernel : ∀ e, e < 32 → bt 2047 e = decide (e < 11)) e h
  · rw [b_big h, decide_eq_false (by omega)]
theorem yb_one {k : Nat} (hk : k < 32) (e : Nat) : bt ((1 : Int32) <<< (nI k &&& 31)) e = (e == k) := by
  rcases Nat.lt_or_ge e 32 with h | h
  · rw [b_shl k hk 1 h, yb_1]
    by_cases z : e = k
    · subst z; simp
    · rw [beq_eq_false_iff_ne.mpr z]
      rcases Nat.lt_or_ge e k with q | q
      · rw [decide_eq_false (by omega)]; rfl
      · rw [beq_eq_false_iff_ne.mpr (by omega), Bool.and_false]
  · rw [b_big h, beq_eq_false_iff_ne.mpr (by omega)]
theorem yb_two {k : Nat} (hk : k < 31) (e : Nat) : bt ((2 : Int32) <<< (nI k &&& 31)) e = (e == k + 1) := by
  rcases Nat.lt_or_ge e 32 with h | h
  · rw [b_shl k (by omega) 2 h, yb_2]
    by_cases z : e = k + 1
    · subst z; simp
    · rw [beq_eq_false_iff_ne.mpr z]
      rcases Nat.lt_or_ge e k with q | q
      · rw [decide_eq_false (by omega)]; rfl
      · rw [beq_eq_false_iff_ne.mpr (by omega), Bool.and_false]
  · rw [b_big h, beq_eq_false_iff_ne.mpr (by omega)]
theorem yb_hi : ∀ k, k < 11 → ∀ e, e < 32 → bt ((((2 : Int32) <<< (nI k &&& 31)) - 1) ^^^ (-1)) e = decide (k < e) := by decide +kernel
theorem yb_tst (x : Int32) {k : Nat} (hk : k < 32) : (x >>> (nI k &&& 31)) &&& 1 = if bt x k = true then 1 else 0 := by
  apply b_ext
  intro i hi
  rw [b_and, yb_1, b_sshr k hk x hi]
  by_cases z : i = 0
  · subst z
    rw [if_pos (by omega), Nat.add_zero]
    cases bt x k <;> decide
  · rw [beq_eq_false_iff_ne.mpr z, Bool.and_false]
    split
    · rw [yb_1, beq_eq_false_iff_ne.mpr z]
    · rw [b_0]
theorem yb_t (x : Int32) {k : Nat} (hk : k < 32) : (x >>> (nI k &&& 31)) &&& 1 = 1 ↔ bt x k = true := by
  rw [yb_tst x hk]
  cases bt x k <;> decide
theorem yb_and (x y : Int32) : x &&& y = 0 ↔ ∀ e, ¬ (bt x e = true ∧ bt y e = true) := by
  constructor
  · intro h e z
    have h1 := b_and x y e
    rw [h, b_0, z.1, z.2] at h1
    cases h1
  · intro h
    apply b_ext
    intro i _
    rw [b_and, b_0]
    have h1 := h i
    cases hx : bt x i <;> cases hy : bt y i <;> first | rfl | exact absurd ⟨hx, hy⟩ h1
theorem yb_grp (b : Int32) {g : Nat} (hg : g < 32) : ((b >>> (nI g &&& 31)) &&& 1 = 1) ↔ ¬ (b &&& ((1 : Int32) <<< (nI g &&& 31)) = 0) := by
  rw [yb_t b hg, yb_and]
  constructor
  · intro h z
    exact z g ⟨h, by rw [yb_one hg]; exact beq_self_eq_true g⟩
  · intro h
    cases z : bt b g with
    | true => rfl
    | false =>
      refine absurd (fun e q => ?_) h
      rw [yb_one hg] at q
      rw [eq_of_beq q.2, z] at q
      exact absurd q.1 (by decide)
theorem yb_sel {x : Int32} {R : Int32} {l : List ru_R} (hR : ∀ e, bt R e = ru_any l e) : R &&& x = 0 ↔ ru_sel (bt x) l = none := by
  rw [yb_and]
  constructor
  · intro h
    cases q : ru_sel (bt x) l with
    | none => rfl
    | some r =>
      have h1 := ru_sel_some q
      exact absurd ⟨by rw [hR]; exact ru_any_iff.mpr ⟨r, h1.1, rfl⟩, h1.2⟩ (h r.1)
  · intro h e z
    rw [hR] at z
    obtain ⟨r, hr, rfl⟩ := ru_any_iff.mp z.1
    have h1 := ru_sel_is.mpr ⟨r, hr, z.2⟩
    rw [h] at h1
    cases h1
