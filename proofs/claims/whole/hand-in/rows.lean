section
theorem pk_us {f : Nat → Int32} {k : Nat} {x : Int32} : upd f k x k = x := if_pos rfl
theorem pk_un {f : Nat → Int32} {k j : Nat} {x : Int32} (h : j ≠ k) : upd f k x j = f j := if_neg h
theorem pk_sub {a b : Nat} (h : b ≤ a) : nI a - nI b = nI (a - b) := by
  obtain ⟨c, rfl⟩ : ∃ c, a = c + b := ⟨a - b, by omega⟩
  rw [← nI_add, Int32.add_sub_cancel, Nat.add_sub_cancel]
theorem pk_m1 (n : Nat) : nI (n + 1) + (-1) = nI n := by
  rw [← nI_1, Int32.add_assoc, show (1 : Int32) + (-1) = 0 from rfl, Int32.add_zero]
theorem pk_mul (a b : Nat) : nI a * nI b = nI (a * b) := (Int32.ofNat_mul a b).symm
theorem pk_ix (x : Int32) {n : Nat} (hn : n < 2 ^ 31) : x < 0 ∨ nI n ≤ x ∨ ∃ j : Nat, j < n ∧ x = nI j := by
  by_cases h : x < 0
  · exact Or.inl h
  · obtain ⟨j, hj, rfl⟩ := nI_of h
    by_cases h2 : j < n
    · exact Or.inr (Or.inr ⟨j, h2, rfl⟩)
    · exact Or.inr (Or.inl (nI_le (by omega) hj))
theorem pk_le {x y : Int32} {A B : Prop} (a b : Nat) (f : a ≤ b → A) (g : b < a → B) (hx : x = nI a := by rfl) (hy : y = nI b := by rfl) (ha : a < 2 ^ 31 := by omega) (hb : b < 2 ^ 31 := by omega) : (x ≤ y → A) ∧ (¬ x ≤ y → B) := by
  subst hx hy
  rw [nI_leI ha hb]
  exact ⟨f, fun z => g (by omega)⟩
theorem pk_lt {x y : Int32} {A B : Prop} (a b : Nat) (f : a < b → A) (g : b ≤ a → B) (hx : x = nI a := by rfl) (hy : y = nI b := by rfl) (ha : a < 2 ^ 31 := by omega) (hb : b < 2 ^ 31 := by omega) : (x < y → A) ∧ (¬ x < y → B) := by
  subst hx hy
  rw [nI_ltI ha hb]
  exact ⟨f, fun z => g (by omega)⟩
theorem pk_eq {x y : Int32} {A B : Prop} (a b : Nat) (f : a = b → A) (g : a ≠ b → B) (hx : x = nI a := by rfl) (hy : y = nI b := by rfl) (ha : a < 2 ^ 31 := by omega) (hb : b < 2 ^ 31 := by omega) : (x = y → A) ∧ (¬ x = y → B) := by
  subst hx hy
  rw [nI_eq ha hb]
  exact ⟨f, g⟩
theorem pk_in {x : Int32} (n N : Nat) (h : n < N) (hx : x = nI n := by rfl) (hN : N < 2 ^ 31 := by omega) : vp_in x N := by
  subst hx
  exact vp_in_nI h hN
theorem pk_cl {x : Int32} (n : Nat) (hx : x = nI n := by rfl) (h : n < 2 ^ 31 := by omega) : x.toNatClampNeg = n := by
  subst hx
  exact nI_clamp h
theorem pk_tn {n : Nat} (h : n < 2 ^ 32) : (nI n).toBitVec.toNat = n := Nat.mod_eq_of_lt h
theorem pk_and (x : Int32) {m : Int32} (k : Nat) (hm : m.toBitVec.toNat = 2 ^ k - 1) : x &&& m = nI (x.toBitVec.toNat % 2 ^ k) := by
  apply Int32.toBitVec_inj.mp
  apply BitVec.eq_of_toNat_eq
  rw [Int32.toBitVec_and, BitVec.toNat_and, hm, Nat.and_two_pow_sub_one_eq_mod]
  show _ = (BitVec.ofNat 32 _).toNat
  rw [BitVec.toNat_ofNat]
  exact (Nat.mod_eq_of_lt (Nat.lt_of_le_of_lt (Nat.mod_le _ _) x.toBitVec.isLt)).symm
theorem pk_andE (x : Int32) {m : Int32} (k : Nat) (hm : m.toBitVec.toNat = 2 ^ k - 1) : ∃ j : Nat, j < 2 ^ k ∧ x &&& m = nI j := ⟨_, Nat.mod_lt _ (Nat.two_pow_pos k), pk_and x k hm⟩
theorem pk_loop {σ : Type} (W : Nat → Nat → σ → Prop) (I : Nat → σ → Prop) (e i0 : Nat) (s : σ) (hi : i0 ≤ e) (h0 : I i0 s) (hx : ∀ n s, I e s → W (n + 1) e s)
    (hs : ∀ n i s, i < e → I i s → (∀ s', I (i + 1) s' → W n (i + 1) s') → W (n + 1) i s) : ∃ n, W n i0 s :=
  ⟨e + 1, loop_i W I e hx hs (e + 1) i0 s hi (by omega) h0⟩
end
section
/-! whole: the mathematics, free of every printed name but nI, upd. Tables are functions; A alphabet, L length, Q states, Z modes -/
theorem rb_uu {f : Nat → Int32} {k : Nat} {x y : Int32} : upd (upd f k x) k y = upd f k y := by
  funext j
  by_cases h : j = k <;> simp [upd, h]
theorem rb_m1 {n : Nat} (h : n < 2 ^ 31) : ¬ nI n = -1 := by
  intro e
  have h1 := nI_toInt h
  rw [e] at h1
  have h2 : (-1 : Int32).toInt = -1 := by decide
  omega
/-- some edge leaves state s under a symbol below the last argument -/
def rb_he (ed : Nat → Int32) (s : Nat) : Nat → Bool
  | 0 => false
  | c + 1 => rb_he ed s c || decide (¬ ed (s * 8 + c) = -1)
theorem rb_he_f {ed : Nat → Int32} {s : Nat} : ∀ A : Nat, (∀ c, c < A → ed (s * 8 + c) = -1) → rb_he ed s A = false := by
  intro A
  induction A with
  | zero => intro _; rfl
  | succ A ih =>
    intro h
    have h1 := ih (fun c hc => h c (by omega))
    have h2 := h A (by omega)
    simp [rb_he, h1, h2]
theorem rb_he_t {ed : Nat → Int32} {s c : Nat} (h : ¬ ed (s * 8 + c) = -1) : ∀ A : Nat, c < A → rb_he ed s A = true := by
  intro A
  induction A with
  | zero => intro z; omega
  | succ A ih =>
    intro hc
    by_cases e : c = A
    · subst e; simp [rb_he, h]
    · have h1 := ih (by omega)
      simp [rb_he, h1]
/-- the mode after a token that ends in state s, begun in mode m -/
def rb_af (nx : Nat → Int32) (m s : Nat) : Nat := if nx s = -1 then m else (nx s).toNatClampNeg
/-- (END, KIND, mode after), as it stands behind a step to state s over position q -/
def rb_up (kd nx : Nat → Int32) (m q s : Nat) (b : Nat × Int32 × Nat) : Nat × Int32 × Nat :=
  if kd s = 0 then b else (q + 1, kd s, rb_af nx m s)
/-- the scan: fuel, state, q, best; gives looked and best -/
def rb_sc (ed kd nx tx : Nat → Int32) (A L m : Nat) : Nat → Nat → Nat → Nat × Int32 × Nat → Nat × Nat × Int32 × Nat
  | 0, _, q, b => (q, b)
  | d + 1, s, q, b =>
    if rb_he ed s A = false then (q, b)
    else if L ≤ q then (q + 1, b)
    else if ed (s * 8 + (tx q).toNatClampNeg) = -1 then (q + 1, b)
    else rb_sc ed kd nx tx A L m d (ed (s * 8 + (tx q).toNatClampNeg)).toNatClampNeg (q + 1) (rb_up kd nx m q (ed (s * 8 + (tx q).toNatClampNeg)).toNatClampNeg b)
theorem rb_sc1 {ed kd nx tx : Nat → Int32} {A L m d s q : Nat} {b : Nat × Int32 × Nat} (h : rb_he ed s A = false) : rb_sc ed kd nx tx A L m (d + 1) s q b = (q, b) := by
  rw [rb_sc, if_pos h]
theorem rb_sc2 {ed kd nx tx : Nat → Int32} {A L m d s q : Nat} {b : Nat × Int32 × Nat} (h : rb_he ed s A = true) (h2 : L ≤ q) : rb_sc ed kd nx tx A L m (d + 1) s q b = (q + 1, b) := by
  rw [rb_sc, if_neg (by rw [h]; decide), if_pos h2]
theorem rb_sc3 {ed kd nx tx : Nat → Int32} {A L m d s q c : Nat} {b : Nat × Int32 × Nat} (h : rb_he ed s A = true) (h2 : q < L) (hc : (tx q).toNatClampNeg = c) (h3 : ed (s * 8 + c) = -1) : rb_sc ed kd nx tx A L m (d + 1) s q b = (q + 1, b) := by
  subst hc
  rw [rb_sc, if_neg (by rw [h]; decide), if_neg (by omega), if_pos h3]
theorem rb_sc4 {ed kd nx tx : Nat → Int32} {A L m d s q c j : Nat} {b : Nat × Int32 × Nat} (h : rb_he ed s A = true) (h2 : q < L) (hc : (tx q).toNatClampNeg = c) (hj : j < 2 ^ 31) (h3 : ed (s * 8 + c) = nI j) : rb_sc ed kd nx tx A L m (d + 1) s q b = rb_sc ed kd nx tx A L m d j (q + 1) (rb_up kd nx m q j b) := by
  subst hc
  rw [rb_sc, if_neg (by rw [h]; decide), if_neg (by omega), if_neg (by rw [h3]; exact rb_m1 hj), h3, nI_clamp hj]
/-- the tables and the text are within -/
def rb_Env (ed nx so tx : Nat → Int32) (A L Q Z : Nat) : Prop :=
  A ≤ 8 ∧ Q ≤ 16 ∧ Z ≤ 4 ∧ L ≤ 64 ∧ (∀ i, ed i = -1 ∨ ∃ j, j < Q ∧ ed i = nI j) ∧ (∀ i, nx i = -1 ∨ ∃ j, j < Z ∧ nx i = nI j) ∧ (∀ i, ∃ j, j < Q ∧ so i = nI j) ∧ (∀ i, i < L → ∃ c, c < A ∧ tx i = nI c)
theorem rb_af_lt {nx : Nat → Int32} {Z m s : Nat} (hZ : Z ≤ 4) (hx : ∀ i, nx i = -1 ∨ ∃ j, j < Z ∧ nx i = nI j) (hm : m < Z) : rb_af nx m s < Z := by
  unfold rb_af
  by_cases h : nx s = -1
  · rw [if_pos h]; exact hm
  · rw [if_neg h]
    rcases hx s with h1 | ⟨j, hj, e⟩
    · exact absurd h1 h
    · rw [e, nI_clamp (by omega)]; exact hj
theorem rb_af_s {nx : Nat → Int32} {m s : Nat} (h : nx s = -1) : rb_af nx m s = m := if_pos h
theorem rb_af_nI {nx : Nat → Int32} {Z m s : Nat} (hZ : Z ≤ 4) (hx : ∀ i, nx i = -1 ∨ ∃ j, j < Z ∧ nx i = nI j) (h : ¬ nx s = -1) : nx s = nI (rb_af nx m s) := by
  unfold rb_af
  rw [if_neg h]
  rcases hx s with h1 | ⟨j, hj, e⟩
  · exact absurd h1 h
  · rw [e, nI_clamp (by omega)]
theorem rb_up_ok {kd nx : Nat → Int32} {Z L m q s f : Nat} {b : Nat × Int32 × Nat} (hZ : Z ≤ 4) (hx : ∀ i, nx i = -1 ∨ ∃ j, j < Z ∧ nx i = nI j) (hm : m < Z) (hq : q < L) (hf : f ≤ q)
    (hb : f < b.1 ∧ b.1 ≤ L ∧ b.2.2 < Z) : f < (rb_up kd nx m q s b).1 ∧ (rb_up kd nx m q s b).1 ≤ L ∧ (rb_up kd nx m q s b).2.2 < Z := by
  unfold rb_up
  by_cases h : kd s = 0
  · rw [if_pos h]; exact hb
  · rw [if_neg h]; exact ⟨by show f < q + 1; omega, by show q + 1 ≤ L; omega, rb_af_lt hZ hx hm⟩
theorem rb_sc_ok {ed kd nx tx : Nat → Int32} {A L m Z f : Nat} (hZ : Z ≤ 4) (hx : ∀ i, nx i = -1 ∨ ∃ j, j < Z ∧ nx i = nI j) (hm : m < Z) :
    ∀ (d s q : Nat) (b : Nat × Int32 × Nat), f ≤ q → (f < b.1 ∧ b.1 ≤ L ∧ b.2.2 < Z) →
      f < (rb_sc ed kd nx tx A L m d s q b).2.1 ∧ (rb_sc ed kd nx tx A L m d s q b).2.1 ≤ L ∧ (rb_sc ed kd nx tx A L m d s q b).2.2.2 < Z := by
  intro d
  induction d with
  | zero => intro s q b _ hb; exact hb
  | succ d ih =>
    intro s q b hq hb
    unfold rb_sc
    by_cases h1 : rb_he ed s A = false
    · rw [if_pos h1]; exact hb
    · rw [if_neg h1]
      by_cases h2 : L ≤ q
      · rw [if_pos h2]; exact hb
      · rw [if_neg h2]
        by_cases h3 : ed (s * 8 + (tx q).toNatClampNeg) = -1
        · rw [if_pos h3]; exact hb
        · rw [if_neg h3]
          exact ih _ _ _ (by omega) (rb_up_ok hZ hx hm (by omega) hq hb)
/-- looked stays within -/
theorem rb_sc_lk {ed kd nx tx : Nat → Int32} {A L m : Nat} :
    ∀ (d s q : Nat) (b : Nat × Int32 × Nat), (rb_sc ed kd nx tx A L m d s q b).1 ≤ q + d := by
  intro d
  induction d with
  | zero => intro s q b; exact Nat.le_refl _
  | succ d ih =>
    intro s q b
    unfold rb_sc
    by_cases h1 : rb_he ed s A = false
    · rw [if_pos h1]; show q ≤ q + (d + 1); omega
    · rw [if_neg h1]
      by_cases h2 : L ≤ q
      · rw [if_pos h2]; show q + 1 ≤ q + (d + 1); omega
      · rw [if_neg h2]
        by_cases h3 : ed (s * 8 + (tx q).toNatClampNeg) = -1
        · rw [if_pos h3]; show q + 1 ≤ q + (d + 1); omega
        · rw [if_neg h3]
          have h4 := ih (ed (s * 8 + (tx q).toNatClampNeg)).toNatClampNeg (q + 1) (rb_up kd nx m q (ed (s * 8 + (tx q).toNatClampNeg)).toNatClampNeg b)
          omega
/-- the token at s in mode m: looked, END, KIND, mode after -/
def rb_tk (ed kd nx so tx : Nat → Int32) (A L s m : Nat) : Nat × Nat × Int32 × Nat :=
  rb_sc ed kd nx tx A L m (L + 1 - s) (so m).toNatClampNeg s (s + 1, 0, m)
/-- START and MODE of token i -/
def rb_sm (ed kd nx so tx : Nat → Int32) (A L : Nat) : Nat → Nat × Nat
  | 0 => (0, 0)
  | i + 1 => ((rb_tk ed kd nx so tx A L (rb_sm ed kd nx so tx A L i).1 (rb_sm ed kd nx so tx A L i).2).2.1,
              (rb_tk ed kd nx so tx A L (rb_sm ed kd nx so tx A L i).1 (rb_sm ed kd nx so tx A L i).2).2.2.2)
theorem rb_tk_ok {ed kd nx so tx : Nat → Int32} {A L s m Q Z : Nat} (E : rb_Env ed nx so tx A L Q Z) (hm : m < Z) (hs : s < L) :
    s < (rb_tk ed kd nx so tx A L s m).2.1 ∧ (rb_tk ed kd nx so tx A L s m).2.1 ≤ L ∧ (rb_tk ed kd nx so tx A L s m).2.2.2 < Z :=
  rb_sc_ok E.2.2.1 E.2.2.2.2.2.1 hm _ _ _ _ (Nat.le_refl _) ⟨by show s < s + 1; omega, by show s + 1 ≤ L; omega, hm⟩
theorem rb_tk_lk {ed kd nx so tx : Nat → Int32} {A L s m : Nat} (hs : s < L) : (rb_tk ed kd nx so tx A L s m).1 ≤ L + 1 := by
  have h := rb_sc_lk (ed := ed) (kd := kd) (nx := nx) (tx := tx) (A := A) (L := L) (m := m) (L + 1 - s) (so m).toNatClampNeg s (s + 1, 0, m)
  unfold rb_tk
  omega
theorem rb_T_ex {ed kd nx so tx : Nat → Int32} {A L Q Z : Nat} (E : rb_Env ed nx so tx A L Q Z) : ∀ d i : Nat,
    (rb_sm ed kd nx so tx A L i).1 ≤ L → L - (rb_sm ed kd nx so tx A L i).1 ≤ d → (rb_sm ed kd nx so tx A L i).2 < Z →
    (∀ j, j < i → (rb_sm ed kd nx so tx A L j).1 < L ∧ (rb_sm ed kd nx so tx A L j).2 < Z ∧ (rb_sm ed kd nx so tx A L j).1 < (rb_sm ed kd nx so tx A L (j + 1)).1) →
    ∃ T, (∀ j, j < T → (rb_sm ed kd nx so tx A L j).1 < L ∧ (rb_sm ed kd nx so tx A L j).2 < Z ∧ (rb_sm ed kd nx so tx A L j).1 < (rb_sm ed kd nx so tx A L (j + 1)).1) ∧
      (rb_sm ed kd nx so tx A L T).1 = L ∧ (rb_sm ed kd nx so tx A L T).2 < Z := by
  intro d
  induction d with
  | zero => intro i h1 h2 h3 h4; exact ⟨i, h4, by omega, h3⟩
  | succ d ih =>
    intro i h1 h2 h3 h4
    by_cases h : (rb_sm ed kd nx so tx A L i).1 = L
    · exact ⟨i, h4, h, h3⟩
    · have ok := rb_tk_ok (kd := kd) E h3 (s := (rb_sm ed kd nx so tx A L i).1) (by omega)
      have e1 : (rb_sm ed kd nx so tx A L (i + 1)).1 = (rb_tk ed kd nx so tx A L (rb_sm ed kd nx so tx A L i).1 (rb_sm ed kd nx so tx A L i).2).2.1 := rfl
      have e2 : (rb_sm ed kd nx so tx A L (i + 1)).2 = (rb_tk ed kd nx so tx A L (rb_sm ed kd nx so tx A L i).1 (rb_sm ed kd nx so tx A L i).2).2.2.2 := rfl
      rw [← e1, ← e2] at ok
      exact ih (i + 1) ok.2.1 (by omega) ok.2.2 (lt_s h4 ⟨by omega, h3, ok.1⟩)
theorem rb_ch {S : Nat → Nat} {T : Nat} (h : ∀ i, i < T → S i < S (i + 1)) (i : Nat) : ∀ d, i + d ≤ T → S i + d ≤ S (i + d) := by
  intro d
  induction d with
  | zero => intro _; exact Nat.le_refl _
  | succ d ih =>
    intro hd
    have h1 := ih (by omega)
    have h2 := h (i + d) (by omega)
    show S i + (d + 1) ≤ S (i + d + 1)
    omega
theorem rb_ch_lt {S : Nat → Nat} {T i j : Nat} (h : ∀ i, i < T → S i < S (i + 1)) (hij : i < j) (hj : j ≤ T) : S i < S j := by
  have h1 := rb_ch h i (j - i) (by omega)
  rw [show i + (j - i) = j by omega] at h1
  omega
theorem rb_ch_in {S : Nat → Nat} {T : Nat} (h : ∀ i, i < T → S i < S (i + 1)) (i j : Nat) (hi : i < T) (hj : j < T) (e : S i = S j) : i = j := by
  rcases Nat.lt_trichotomy i j with h1 | h1 | h1
  · have h2 := rb_ch_lt h h1 (by omega); omega
  · exact h1
  · have h2 := rb_ch_lt h h1 (by omega); omega
/-- the token list of a text: T tokens -/
theorem rb_T {ed kd nx so tx : Nat → Int32} {A L Q Z : Nat} (E : rb_Env ed nx so tx A L Q Z) (hZ : 0 < Z) :
    ∃ T, T ≤ L ∧ (∀ j, j < T → (rb_sm ed kd nx so tx A L j).1 < L ∧ (rb_sm ed kd nx so tx A L j).2 < Z ∧ (rb_sm ed kd nx so tx A L j).1 < (rb_sm ed kd nx so tx A L (j + 1)).1) ∧
      (rb_sm ed kd nx so tx A L T).1 = L ∧ (rb_sm ed kd nx so tx A L T).2 < Z := by
  obtain ⟨T, h1, h2, h3⟩ := rb_T_ex (kd := kd) E L 0 (Nat.zero_le _) (Nat.sub_le _ _) hZ lt_0
  have h4 := rb_ch (S := fun i => (rb_sm ed kd nx so tx A L i).1) (T := T) (fun i hi => (h1 i hi).2.2) 0 T (by omega)
  have h5 : (rb_sm ed kd nx so tx A L 0).1 + T ≤ (rb_sm ed kd nx so tx A L (0 + T)).1 := h4
  rw [Nat.zero_add] at h5
  exact ⟨T, by omega, h1, h2, h3⟩
/-! births: the old list is (c, S, M, R, B) -/
def rb_F (S M : Nat → Nat) (R : Nat → Int32) (pos del n s m j : Nat) : Prop :=
  M j = m ∧ ((s < pos ∧ S j = s ∧ R j ≤ nI pos) ∨ (pos + n ≤ s ∧ S j + n = s + del))
noncomputable def rb_bn (c : Nat) (S M : Nat → Nat) (R : Nat → Int32) (B : Nat → Nat) (pos del n e s m : Nat) : Nat :=
  @dite _ (∃ j, j < c ∧ rb_F S M R pos del n s m j) (Classical.propDecidable _) (fun h => B h.choose) (fun _ => e + 1)
theorem rb_bn_n {c : Nat} {S M : Nat → Nat} {R : Nat → Int32} {B : Nat → Nat} {pos del n e s m : Nat} (h : ∀ j, j < c → ¬ rb_F S M R pos del n s m j) : rb_bn c S M R B pos del n e s m = e + 1 := by
  unfold rb_bn
  exact dif_neg (fun ⟨j, hj, hF⟩ => h j hj hF)
theorem rb_F_u {S M : Nat → Nat} {R : Nat → Int32} {pos del n s m i j : Nat} (hi : rb_F S M R pos del n s m i) (hj : rb_F S M R pos del n s m j) : S i = S j := by
  rcases hi with ⟨_, ⟨a, b, _⟩ | ⟨a, b⟩⟩ <;> rcases hj with ⟨_, ⟨a', b', _⟩ | ⟨a', b'⟩⟩ <;> omega
theorem rb_bn_s {c : Nat} {S M : Nat → Nat} {R : Nat → Int32} {B : Nat → Nat} {pos del n e s m j : Nat} (hS : ∀ i j, i < c → j < c → S i = S j → i = j) (hj : j < c) (hF : rb_F S M R pos del n s m j) : rb_bn c S M R B pos del n e s m = B j := by
  have h : ∃ j, j < c ∧ rb_F S M R pos del n s m j := ⟨j, hj, hF⟩
  unfold rb_bn
  rw [dif_pos h]
  have e1 : h.choose = j := hS _ _ h.choose_spec.1 hj (rb_F_u h.choose_spec.2 hF)
  rw [e1]
theorem rb_bn_le {c : Nat} {S M : Nat → Nat} {R : Nat → Int32} {B : Nat → Nat} {pos del n e s m : Nat} (hB : ∀ j, j < c → B j ≤ e) : rb_bn c S M R B pos del n e s m ≤ e + 1 := by
  unfold rb_bn
  by_cases h : ∃ j, j < c ∧ rb_F S M R pos del n s m j
  · rw [dif_pos h]
    have h1 := hB _ h.choose_spec.1
    omega
  · rw [dif_neg h]
    exact Nat.le_refl _
/-- how many of the first i births are the number e -/
def rb_fr (e : Nat) (b : Nat → Nat) : Nat → Nat
  | 0 => 0
  | i + 1 => if b i = e then rb_fr e b i + 1 else rb_fr e b i
theorem rb_fr_le (e : Nat) (b : Nat → Nat) : ∀ i, rb_fr e b i ≤ i := by
  intro i
  induction i with
  | zero => exact Nat.le_refl _
  | succ i ih =>
    unfold rb_fr
    by_cases h : b i = e
    · rw [if_pos h]; omega
    · rw [if_neg h]; omega
theorem rb_fr_t {e : Nat} {b : Nat → Nat} {i : Nat} (h : b i = e) : rb_fr e b (i + 1) = rb_fr e b i + 1 := if_pos h
theorem rb_fr_f {e : Nat} {b : Nat → Nat} {i : Nat} (h : b i ≠ e) : rb_fr e b (i + 1) = rb_fr e b i := if_neg h
/-- the class's three arrays by START hold the old list -/
def rb_Old (c : Nat) (S M : Nat → Nat) (R : Nat → Int32) (B : Nat → Nat) (oM oR oB : Nat → Int32) : Prop :=
  (∀ j, j < c → oM (S j) = nI (M j) ∧ oR (S j) = R j ∧ oB (S j) = nI (B j)) ∧ (∀ p, p < 64 → (∀ j, j < c → ¬ S j = p) → oM p = -1)
/-! the new text -/
def rb_nt (tx sy : Nat → Int32) (L pos del n : Nat) : Nat → Int32 := fun i =>
  if i < pos then tx i else if i < pos + n then sy (i - pos) else if i < L - del + n then tx (i + del - n) else tx i
def rb_w2 (tx sy : Nat → Int32) (pos k : Nat) : Nat → Int32 := fun i =>
  if i < pos then tx i else if i < pos + k then sy (i - pos) else tx i
def rb_w3 (tx sy : Nat → Int32) (pos del n k : Nat) : Nat → Int32 := fun i =>
  if i < pos then tx i else if i < pos + n then sy (i - pos) else if i < pos + n + k then tx (i + del - n) else tx i
theorem rb_w2_0 {tx sy : Nat → Int32} {pos : Nat} : rb_w2 tx sy pos 0 = tx := by
  funext i
  unfold rb_w2
  by_cases h : i < pos
  · rw [if_pos h]
  · rw [if_neg h, if_neg (show ¬ i < pos + 0 by omega)]
theorem rb_w2_s {tx sy : Nat → Int32} {pos k : Nat} : upd (rb_w2 tx sy pos k) (pos + k) (sy k) = rb_w2 tx sy pos (k + 1) := by
  funext i
  unfold upd rb_w2
  by_cases h1 : i = pos + k
  · subst h1
    rw [if_pos rfl, if_neg (show ¬ pos + k < pos by omega), if_pos (show pos + k < pos + (k + 1) by omega), show pos + k - pos = k by omega]
  · rw [if_neg h1]
    by_cases h2 : i < pos
    · rw [if_pos h2, if_pos h2]
    · rw [if_neg h2, if_neg h2]
      by_cases h3 : i < pos + k
      · rw [if_pos h3, if_pos (show i < pos + (k + 1) by omega)]
      · rw [if_neg h3, if_neg (show ¬ i < pos + (k + 1) by omega)]
theorem rb_w3_0 {tx sy : Nat → Int32} {pos del n : Nat} : rb_w3 tx sy pos del n 0 = rb_w2 tx sy pos n := by
  funext i
  unfold rb_w3 rb_w2
  by_cases h2 : i < pos
  · rw [if_pos h2, if_pos h2]
  · rw [if_neg h2, if_neg h2]
    by_cases h3 : i < pos + n
    · rw [if_pos h3, if_pos h3]
    · rw [if_neg h3, if_neg h3, if_neg (show ¬ i < pos + n + 0 by omega)]
theorem rb_w3_s {tx sy : Nat → Int32} {pos del n k : Nat} : upd (rb_w3 tx sy pos del n k) (pos + n + k) (tx (pos + del + k)) = rb_w3 tx sy pos del n (k + 1) := by
  funext i
  unfold upd rb_w3
  by_cases h1 : i = pos + n + k
  · subst h1
    rw [if_pos rfl, if_neg (show ¬ pos + n + k < pos by omega), if_neg (show ¬ pos + n + k < pos + n by omega), if_pos (show pos + n + k < pos + n + (k + 1) by omega), show pos + n + k + del - n = pos + del + k by omega]
  · rw [if_neg h1]
    by_cases h2 : i < pos
    · rw [if_pos h2, if_pos h2]
    · rw [if_neg h2, if_neg h2]
      by_cases h3 : i < pos + n
      · rw [if_pos h3, if_pos h3]
      · rw [if_neg h3, if_neg h3]
        by_cases h4 : i < pos + n + k
        · rw [if_pos h4, if_pos (show i < pos + n + (k + 1) by omega)]
        · rw [if_neg h4, if_neg (show ¬ i < pos + n + (k + 1) by omega)]
theorem rb_w3_e {tx sy : Nat → Int32} {L pos del n : Nat} (h : pos + del ≤ L) : rb_w3 tx sy pos del n (L - pos - del) = rb_nt tx sy L pos del n := by
  funext i
  unfold rb_w3 rb_nt
  rw [show pos + n + (L - pos - del) = L - del + n by omega]
def rb_y2 (nt tx : Nat → Int32) (k : Nat) : Nat → Int32 := fun i => if i < k then nt i else tx i
theorem rb_y2_0 {nt tx : Nat → Int32} : rb_y2 nt tx 0 = tx := by
  funext i
  exact if_neg (Nat.not_lt_zero i)
theorem rb_y2_s {nt tx : Nat → Int32} {k : Nat} : upd (rb_y2 nt tx k) k (nt k) = rb_y2 nt tx (k + 1) := by
  funext i
  unfold upd rb_y2
  by_cases h1 : i = k
  · subst h1
    rw [if_pos rfl, if_pos (show i < i + 1 by omega)]
  · rw [if_neg h1]
    by_cases h2 : i < k
    · rw [if_pos h2, if_pos (show i < k + 1 by omega)]
    · rw [if_neg h2, if_neg (show ¬ i < k + 1 by omega)]
theorem rb_y2_e {tx sy : Nat → Int32} {L pos del n : Nat} (h : pos + del ≤ L) : rb_y2 (rb_nt tx sy L pos del n) tx (L - del + n) = rb_nt tx sy L pos del n := by
  funext i
  unfold rb_y2
  by_cases h1 : i < L - del + n
  · rw [if_pos h1]
  · rw [if_neg h1]
    unfold rb_nt
    rw [if_neg (show ¬ i < pos by omega), if_neg (show ¬ i < pos + n by omega), if_neg h1]
theorem rb_nt_1 {tx sy : Nat → Int32} {L pos del n i : Nat} (h : i < pos) : rb_nt tx sy L pos del n i = tx i := if_pos h
theorem rb_nt_2 {tx sy : Nat → Int32} {L pos del n i : Nat} (h : pos ≤ i) (h2 : i < pos + n) : rb_nt tx sy L pos del n i = sy (i - pos) := by
  unfold rb_nt
  rw [if_neg (by omega), if_pos h2]
theorem rb_nt_3 {tx sy : Nat → Int32} {L pos del n i : Nat} (h : pos + n ≤ i) (h2 : i < L - del + n) : rb_nt tx sy L pos del n i = tx (i + del - n) := by
  unfold rb_nt
  rw [if_neg (by omega), if_neg (by omega), if_pos h2]
theorem rb_nt_in {tx sy : Nat → Int32} {A L pos del n : Nat} (hd : pos + del ≤ L) (ht : ∀ i, i < L → ∃ c, c < A ∧ tx i = nI c) (hs : ∀ k, k < n → ∃ c, c < A ∧ sy k = nI c) :
    ∀ i, i < L - del + n → ∃ c, c < A ∧ rb_nt tx sy L pos del n i = nI c := by
  intro i hi
  by_cases h1 : i < pos
  · rw [rb_nt_1 h1]; exact ht i (by omega)
  · by_cases h2 : i < pos + n
    · rw [rb_nt_2 (by omega) h2]; exact hs _ (by omega)
    · rw [rb_nt_3 (by omega) hi]; exact ht _ (by omega)
end
section
/-! births on the class's side: the look-up by START is the reference's search -/
theorem rb_old_at {c : Nat} {S M : Nat → Nat} {R : Nat → Int32} {B : Nat → Nat} {oM oR oB : Nat → Int32} {p m : Nat} (O : rb_Old c S M R B oM oR oB) (hM : ∀ j, j < c → M j < 4) (hm : m < 4) (hp : p < 64) (h : oM p = nI m) :
    ∃ j, j < c ∧ S j = p ∧ M j = m ∧ oR p = R j ∧ oB p = nI (B j) := by
  by_cases hj : ∃ j, j < c ∧ S j = p
  · obtain ⟨j, hj, e⟩ := hj
    obtain ⟨h1, h2, h3⟩ := O.1 j hj
    have h4 := hM j hj
    rw [e] at h1 h2 h3
    rw [h1] at h
    exact ⟨j, hj, e, (nI_eq (by omega) (by omega)).mp h, h2, h3⟩
  · have h1 := O.2 p hp (fun j h1 h2 => hj ⟨j, h1, h2⟩)
    rw [h1] at h
    exact absurd h.symm (rb_m1 (by omega))
theorem rb_xb1 {c : Nat} {S M : Nat → Nat} {R : Nat → Int32} {B : Nat → Nat} {oM oR oB : Nat → Int32} {pos del n e s m : Nat} (O : rb_Old c S M R B oM oR oB) (hS : ∀ i j, i < c → j < c → S i = S j → i = j) (hM : ∀ j, j < c → M j < 4) (hm : m < 4) (hs : s < 64)
    (h : s < pos) (h1 : oM s = nI m) (h2 : oR s ≤ nI pos) : oB s = nI (rb_bn c S M R B pos del n e s m) := by
  obtain ⟨j, hj, a, b, d, f⟩ := rb_old_at O hM hm hs h1
  rw [d] at h2
  rw [f, rb_bn_s hS hj ⟨b, Or.inl ⟨h, a, h2⟩⟩]
theorem rb_xb1n {c : Nat} {S M : Nat → Nat} {R : Nat → Int32} {B : Nat → Nat} {oM oR oB : Nat → Int32} {pos del n e s m : Nat} (O : rb_Old c S M R B oM oR oB)
    (h : s < pos) (h1 : ¬ (oM s = nI m ∧ oR s ≤ nI pos)) : rb_bn c S M R B pos del n e s m = e + 1 := by
  refine rb_bn_n (fun j hj hF => h1 ?_)
  obtain ⟨a, ⟨_, b, d⟩ | ⟨b, _⟩⟩ := hF
  · obtain ⟨g1, g2, _⟩ := O.1 j hj
    rw [b] at g1 g2
    exact ⟨by rw [g1, a], by rw [g2]; exact d⟩
  · omega
theorem rb_xb2 {c : Nat} {S M : Nat → Nat} {R : Nat → Int32} {B : Nat → Nat} {oM oR oB : Nat → Int32} {pos del n e s m p : Nat} (O : rb_Old c S M R B oM oR oB) (hS : ∀ i j, i < c → j < c → S i = S j → i = j) (hM : ∀ j, j < c → M j < 4) (hm : m < 4) (hp : p < 64)
    (h : pos + n ≤ s) (hps : p + n = s + del) (h1 : oM p = nI m) : oB p = nI (rb_bn c S M R B pos del n e s m) := by
  obtain ⟨j, hj, a, b, d, f⟩ := rb_old_at O hM hm hp h1
  rw [f, rb_bn_s hS hj ⟨b, Or.inr ⟨h, by omega⟩⟩]
theorem rb_xb2n {c : Nat} {S M : Nat → Nat} {R : Nat → Int32} {B : Nat → Nat} {oM oR oB : Nat → Int32} {pos del n e s m p : Nat} (O : rb_Old c S M R B oM oR oB)
    (h : pos + n ≤ s) (hps : p + n = s + del) (h1 : ¬ oM p = nI m) : rb_bn c S M R B pos del n e s m = e + 1 := by
  refine rb_bn_n (fun j hj hF => h1 ?_)
  obtain ⟨a, ⟨b, _, _⟩ | ⟨_, b⟩⟩ := hF
  · omega
  · obtain ⟨g1, _, _⟩ := O.1 j hj
    rw [show S j = p by omega] at g1
    rw [g1, a]
theorem rb_xb3 {c : Nat} {S M : Nat → Nat} {R : Nat → Int32} {B : Nat → Nat} {pos del n e s m : Nat} (h : pos ≤ s) (h2 : s < pos + n) : rb_bn c S M R B pos del n e s m = e + 1 := by
  refine rb_bn_n (fun j hj hF => ?_)
  obtain ⟨a, ⟨b, _, _⟩ | ⟨b, _⟩⟩ := hF <;> omega
/-- the class's remembering, one token more -/
theorem rb_old_s {i : Nat} {S M : Nat → Nat} {R : Nat → Int32} {B : Nat → Nat} {oM oR oB : Nat → Int32} (O : rb_Old i S M R B oM oR oB) (hS : ∀ j, j < i → ¬ S j = S i) :
    rb_Old (i + 1) S M R B (upd oM (S i) (nI (M i))) (upd oR (S i) (R i)) (upd oB (S i) (nI (B i))) := by
  refine ⟨fun j hj => ?_, fun p hp h => ?_⟩
  · by_cases e : j = i
    · rw [e, pk_us, pk_us, pk_us]; exact ⟨rfl, rfl, rfl⟩
    · have h1 := hS j (by omega)
      rw [pk_un h1, pk_un h1, pk_un h1]
      exact O.1 j (by omega)
  · have h1 := h i (by omega)
    rw [pk_un (fun z => h1 z.symm)]
    exact O.2 p hp (fun j hj => h j (by omega))
/-- what the reference's search has found among the first j -/
def rb_Fd (S M : Nat → Nat) (R : Nat → Int32) (pos del n s m j : Nat) (x : Int32) : Prop :=
  (x = -1 ∧ ∀ i, i < j → ¬ rb_F S M R pos del n s m i) ∨ (∃ i, i < j ∧ rb_F S M R pos del n s m i ∧ x = nI i)
theorem rb_Fd_0 {S M : Nat → Nat} {R : Nat → Int32} {pos del n s m : Nat} : rb_Fd S M R pos del n s m 0 (-1) := Or.inl ⟨rfl, lt_0⟩
theorem rb_Fd_t {S M : Nat → Nat} {R : Nat → Int32} {pos del n s m j : Nat} (h : rb_F S M R pos del n s m j) : rb_Fd S M R pos del n s m (j + 1) (nI j) := Or.inr ⟨j, by omega, h, rfl⟩
theorem rb_Fd_f {S M : Nat → Nat} {R : Nat → Int32} {pos del n s m j : Nat} {x : Int32} (I : rb_Fd S M R pos del n s m j x) (h : ¬ rb_F S M R pos del n s m j) : rb_Fd S M R pos del n s m (j + 1) x := by
  rcases I with ⟨a, b⟩ | ⟨i, a, b, d⟩
  · exact Or.inl ⟨a, lt_s b h⟩
  · exact Or.inr ⟨i, by omega, b, d⟩
end
section
/-! the relation -/
/-- the class's cells and the reference's arrays hold the same tokens -/
def rb_Tok (T : Nat) (tok tS tE tK tM tR tB : Nat → Int32) : Prop :=
  ∀ i, i < T → tok (i * 6) = tS i ∧ tok (i * 6 + 1) = tE i ∧ tok (i * 6 + 2) = tK i ∧ tok (i * 6 + 3) = tM i ∧ tok (i * 6 + 4) = tR i ∧ tok (i * 6 + 5) = tB i
/-- a list of T tokens that covers a text of L symbols -/
def rb_Lst (T L Z e : Nat) (tS tE tM tB : Nat → Int32) (S M B : Nat → Nat) : Prop :=
  S 0 = 0 ∧ S T = L ∧ (∀ i, i < T → S i < S (i + 1)) ∧ (∀ i, i < T → tS i = nI (S i) ∧ tE i = nI (S (i + 1)) ∧ tM i = nI (M i) ∧ tB i = nI (B i) ∧ M i < Z ∧ B i ≤ e)
def rb_C (k cap Q A Z L T e : Nat) (me : Int32) (ed nx so tx tok tS tE tK tM tR tB tA : Nat → Int32) (S M B : Nat → Nat) : Prop :=
  (8 ≤ cap ∧ cap ≤ 64 ∧ 4 ≤ Q ∧ 2 ≤ A ∧ 1 ≤ Z ∧ L ≤ cap ∧ e ≤ k) ∧ rb_Env ed nx so tx A L Q Z ∧ rb_Tok T tok tS tE tK tM tR tB ∧ rb_Lst T L Z e tS tE tM tB S M B ∧ (T = 0 → me = 0) ∧ (∀ i, T = i + 1 → me = tA i)
/-- the relation at the head of a turn whose first cell is k -/
def i_Rel (k : Nat) (u : SX) (v : SY) : Prop :=
  ∃ (cap Q A Z L T e : Nat) (me oc : Int32) (ed kd nx so tx tl tok xM xR xB nt tS tE tK tM tR tB tA yS yM yR yB : Nat → Int32) (S M B : Nat → Nat),
    u = (nI cap, nI Q, nI A, nI Z, nI L, nI T, me, nI e, ed, kd, nx, so, tx, tl, tok, xM, xR, xB) ∧ v = (nI cap, nI Q, nI A, nI Z, nI L, nI e, nI T, oc, ed, kd, nx, so, tx, nt, tS, tE, tK, tM, tR, tB, tA, yS, yM, yR, yB) ∧ rb_C k cap Q A Z L T e me ed nx so tx tok tS tE tK tM tR tB tA S M B
theorem rb_mk {k cap Q A Z L T e : Nat} {me oc : Int32} {ed kd nx so tx tl tok xM xR xB nt tS tE tK tM tR tB tA yS yM yR yB : Nat → Int32} {S M B : Nat → Nat}
    (h : rb_C k cap Q A Z L T e me ed nx so tx tok tS tE tK tM tR tB tA S M B) : i_Rel k (nI cap, nI Q, nI A, nI Z, nI L, nI T, me, nI e, ed, kd, nx, so, tx, tl, tok, xM, xR, xB) (nI cap, nI Q, nI A, nI Z, nI L, nI e, nI T, oc, ed, kd, nx, so, tx, nt, tS, tE, tK, tM, tR, tB, tA, yS, yM, yR, yB) :=
  ⟨cap, Q, A, Z, L, T, e, me, oc, ed, kd, nx, so, tx, tl, tok, xM, xR, xB, nt, tS, tE, tK, tM, tR, tB, tA, yS, yM, yR, yB, S, M, B, rfl, rfl, h⟩
theorem rb_C_up {k cap Q A Z L T e : Nat} {me : Int32} {ed nx so tx tok tS tE tK tM tR tB tA : Nat → Int32} {S M B : Nat → Nat}
    (h : rb_C k cap Q A Z L T e me ed nx so tx tok tS tE tK tM tR tB tA S M B) : rb_C (k + 5) cap Q A Z L T e me ed nx so tx tok tS tE tK tM tR tB tA S M B := by
  obtain ⟨⟨a, b, c, d, f, g, h⟩, r⟩ := h
  exact ⟨⟨a, b, c, d, f, g, by omega⟩, r⟩
theorem i_up {k : Nat} {u : SX} {v : SY} (h : i_Rel k u v) : i_Rel (k + 5) u v := by
  obtain ⟨cap, Q, A, Z, L, T, e, me, oc, ed, kd, nx, so, tx, tl, tok, xM, xR, xB, nt, tS, tE, tK, tM, tR, tB, tA, yS, yM, yR, yB, S, M, B, rfl, rfl, h⟩ := h
  exact rb_mk (rb_C_up h)
theorem rb_Lst_T {T L Z e : Nat} {tS tE tM tB : Nat → Int32} {S M B : Nat → Nat} (h : rb_Lst T L Z e tS tE tM tB S M B) : T ≤ L := by
  obtain ⟨h1, h2, h3, _⟩ := h
  have h4 := rb_ch h3 0 T (by omega)
  rw [Nat.zero_add] at h4
  omega
theorem rb_Lst_S {T L Z e : Nat} {tS tE tM tB : Nat → Int32} {S M B : Nat → Nat} (h : rb_Lst T L Z e tS tE tM tB S M B) {i : Nat} (hi : i < T) : S i < L := by
  obtain ⟨h1, h2, h3, _⟩ := h
  have h4 := rb_ch_lt h3 hi (Nat.le_refl T)
  omega
/-- an int against a bound: three cases, each with all that a branch may ask -/
theorem rb_c3 (p : Int32) {Q : Nat} (hQ : Q < 2 ^ 31) : (p < 0 ∧ ¬ 0 ≤ p ∧ ¬ nI Q ≤ p ∧ p < nI Q) ∨ (¬ p < 0 ∧ 0 ≤ p ∧ nI Q ≤ p ∧ ¬ p < nI Q) ∨ ∃ j, j < Q ∧ p = nI j ∧ ¬ p < 0 ∧ 0 ≤ p ∧ ¬ nI Q ≤ p ∧ p < nI Q := by
  rcases pk_ix p hQ with h | h | ⟨j, hj, rfl⟩
  · have h0 : ¬ nI Q ≤ p := fun z => Int32.not_le.mpr h (Int32.le_trans (nI_pos' hQ) z)
    exact Or.inl ⟨h, Int32.not_le.mpr h, h0, Int32.not_le.mp h0⟩
  · have h0 : 0 ≤ p := Int32.le_trans (nI_pos' hQ) h
    exact Or.inr (Or.inl ⟨Int32.not_lt.mpr h0, h0, h, Int32.not_lt.mpr h⟩)
  · exact Or.inr (Or.inr ⟨j, hj, rfl, nI_pos (by omega), nI_pos' (by omega), nI_ge hj hQ, nI_lt hj hQ⟩)
end
section
/-! the class's scan of one token -/
theorem rb_i6 (i f : Nat) : nI i * 6 + nI f = nI (i * 6 + f) := (congrArg (fun z => z + nI f) (pk_mul i 6)).trans (nI_add (i * 6) f)
theorem rb_i8 (i f : Nat) : nI i * 8 + nI f = nI (i * 8 + f) := (congrArg (fun z => z + nI f) (pk_mul i 8)).trans (nI_add (i * 8) f)
theorem rb_rcl {a : Nat → Int32} {x : Int32} {n : Nat} (hx : x = nI n) (hn : n < 2 ^ 31) : a x.toNatClampNeg = a n := congrArg a (pk_cl n hx hn)
theorem rb_rd {a : Nat → Int32} {x w : Int32} {n : Nat} (hx : x = nI n) (hn : n < 2 ^ 31) (h : a n = w) : a x.toNatClampNeg = w := (rb_rcl hx hn).trans h
theorem rb_ucl {a : Nat → Int32} {x v w : Int32} {n : Nat} (hx : x = nI n) (hn : n < 2 ^ 31) (hv : v = w) : upd a x.toNatClampNeg v = upd a n w := by
  subst hx hv
  rw [nI_clamp hn]
/-- REACH of a token at s that looked up to lk -/
def rb_rc (s lk : Nat) : Nat := if lk ≤ s + 1 then s + 1 else lk
/-- the five cells that a scan writes -/
def rb_t5 (tok : Nat → Int32) (i : Nat) (v0 v1 v2 v3 v4 : Int32) : Nat → Int32 :=
  upd (upd (upd (upd (upd tok (i * 6) v0) (i * 6 + 1) v1) (i * 6 + 2) v2) (i * 6 + 3) v3) (i * 6 + 4) v4
theorem rb_up_0 {kd nx : Nat → Int32} {m q s : Nat} {b : Nat × Int32 × Nat} (h : kd s = 0) : rb_up kd nx m q s b = b := if_pos h
theorem rb_up_1 {kd nx : Nat → Int32} {m q s : Nat} {b : Nat × Int32 × Nat} (h : ¬ kd s = 0) : rb_up kd nx m q s b = (q + 1, kd s, rb_af nx m s) := if_neg h
section
variable {cap Q A Z L T e : Nat} {me : Int32} {ed kd nx so tx tl tok xM xR xB : Nat → Int32}
theorem rb_xwe {post : Int32 → Prop} {s : Nat} (hA : A ≤ 8) (hs : s < 16) (h1 : rb_he ed s A = true → post 0) (h2 : rb_he ed s A = false → post 1) : wpX_isWithoutEdges post (nI cap, nI Q, nI A, nI Z, nI L, nI T, me, nI e, ed, kd, nx, so, tx, tl, tok, xM, xR, xB) (nI s) :=
  pk_loop (σ := Unit) (fun n i _ => wX_isWithoutEdges_2 post (nI s) (nI cap) (nI Q) (nI A) (nI Z) (nI L) (nI T) me (nI e) ed kd nx so tx tl tok xM xR xB n (nI i)) (fun i _ => ∀ c, c < i → ed (s * 8 + c) = -1) A 0 () (Nat.zero_le _) lt_0
    (fun n _ h => pk_le A A (fun _ => h2 (rb_he_f A h)) (fun z => absurd z (by omega)))
    (fun n i _ hi h hw => pk_le A i (fun z => absurd z (by omega)) (fun _ => ⟨pk_in (s * 8 + i) 128 (by omega) (rb_i8 s i),
      br_c (fun z => nm_r (nI_1 i) (hw () (lt_s h ((rb_rcl (rb_i8 s i) (by omega)).symm.trans z)))) (fun z => h1 (rb_he_t (fun g => z ((rb_rcl (rb_i8 s i) (by omega)).trans g)) A hi))⟩))
theorem rb_xta {post : Int32 → Prop} {s q : Nat} (E : rb_Env ed nx so tx A L Q Z) (hs : s < Q) (h1 : L ≤ q → post (-1)) (h2 : ∀ c, q < L → c < A → tx q = nI c → post (ed (s * 8 + c))) (hq : q ≤ L) : wpX_targetAt post (nI cap, nI Q, nI A, nI Z, nI L, nI T, me, nI e, ed, kd, nx, so, tx, tl, tok, xM, xR, xB) (nI s) (nI q) := by
  obtain ⟨E1, E2, E3, E4, E5, E6, E7, E8⟩ := E
  refine pk_lt q L (fun h => ?_) h1
  obtain ⟨c, hc, ec⟩ := E8 q h
  have e1 : tx (nI q).toNatClampNeg = nI c := rb_rd rfl (by omega) ec
  have e2 : nI s * 8 + tx (nI q).toNatClampNeg = nI (s * 8 + c) := by rw [e1]; exact rb_i8 s c
  refine ⟨pk_in q 64 (by omega), pk_in (s * 8 + c) 128 (by omega) e2, ?_⟩
  rw [e2, nI_clamp (by omega)]
  exact h2 c h hc ec
theorem rb_x130 {post : Int32 → SX → Prop} {i s m lk : Nat} {x6 x7 x8 : Int32} (hi : i < 64) (hs : s < 64) (hlk : lk < 2 ^ 31)
    (hp : post x8 (nI cap, nI Q, nI A, nI Z, nI L, nI T, me, nI e, ed, kd, nx, so, tx, tl, rb_t5 tok i (nI s) x6 x7 (nI m) (nI (rb_rc s lk)), xM, xR, xB)) : wX_scanToken_130 post (nI i) (nI s) (nI m) (nI lk) x6 x7 x8 (nI cap) (nI Q) (nI A) (nI Z) (nI L) (nI T) me (nI e) ed kd nx so tx tl tok xM xR xB := by
  refine nm_r (pk_mul i 6) ⟨pk_in (i * 6) 384 (by omega) (nI_add (i * 6) 0), nm_r (rb_ucl (nI_add (i * 6) 0) (by omega) rfl)
    ⟨pk_in (i * 6 + 1) 384 (by omega) (nI_add (i * 6) 1), nm_r (rb_ucl (nI_add (i * 6) 1) (by omega) rfl)
    ⟨pk_in (i * 6 + 2) 384 (by omega) (nI_add (i * 6) 2), nm_r (rb_ucl (nI_add (i * 6) 2) (by omega) rfl)
    ⟨pk_in (i * 6 + 3) 384 (by omega) (nI_add (i * 6) 3), nm_r (rb_ucl (nI_add (i * 6) 3) (by omega) rfl) ?_⟩⟩⟩⟩
  refine pk_le lk (s + 1) (fun h => ⟨pk_in (i * 6 + 4) 384 (by omega) (nI_add (i * 6) 4), nm_r (rb_ucl (nI_add (i * 6) 4) (by omega) (nI_1 s)) ?_⟩)
    (fun h => ⟨pk_in (i * 6 + 4) 384 (by omega) (nI_add (i * 6) 4), nm_r (rb_ucl (nI_add (i * 6) 4) (by omega) rfl) ?_⟩) rfl (nI_1 s)
  · have hr : rb_rc s lk = s + 1 := if_pos h
    rw [hr] at hp
    exact hp
  · have hr : rb_rc s lk = lk := if_neg (by omega)
    rw [hr] at hp
    exact hp
theorem rb_xsc {post : Int32 → SX → Prop} {i s0 m : Nat} (E : rb_Env ed nx so tx A L Q Z) (hm : m < Z) : ∀ (d s q : Nat) (b : Nat × Int32 × Nat), q ≤ L → L + 1 - q ≤ d → s < Q →
    wX_scanToken_130 post (nI i) (nI s0) (nI m) (nI (rb_sc ed kd nx tx A L m d s q b).1) (nI (rb_sc ed kd nx tx A L m d s q b).2.1) (rb_sc ed kd nx tx A L m d s q b).2.2.1 (nI (rb_sc ed kd nx tx A L m d s q b).2.2.2) (nI cap) (nI Q) (nI A) (nI Z) (nI L) (nI T) me (nI e) ed kd nx so tx tl tok xM xR xB →
    wX_scanToken_25 post (nI i) (nI s0) (nI m) (nI cap) (nI Q) (nI A) (nI Z) (nI L) (nI T) me (nI e) ed kd nx so tx tl tok xM xR xB d (nI s) (nI q) (nI b.1) b.2.1 (nI b.2.2) (nI q) := by
  have E' := E
  obtain ⟨E1, E2, E3, E4, E5, E6, E7, E8⟩ := E'
  intro d
  induction d with
  | zero => intro s q b h1 h2 _ _; omega
  | succ d ih =>
    intro s q b hq hd hs H
    refine pk_lt L q (fun z => absurd z (by omega)) (fun _ => rb_xwe E1 (by omega) (fun he => ?_) (fun he => ?_))
    · refine br_t rfl (nm_r (nI_1 q) (rb_xta E hs (fun hL => ?_) (fun c hL hc ec => ?_) hq))
      · rw [rb_sc2 he hL] at H
        exact br_t rfl H
      · have hcl : (tx q).toNatClampNeg = c := by rw [ec, nI_clamp (by omega)]
        rcases E5 (s * 8 + c) with h | ⟨j, hj, ej⟩
        · rw [rb_sc3 he hL hcl h] at H
          exact br_t h H
        · have hj' : j < 2 ^ 31 := by omega
          rw [rb_sc4 he hL hcl hj' ej] at H
          rw [ej]
          refine br_f (rb_m1 hj') ⟨pk_in j 16 (by omega), ?_⟩
          by_cases hz : kd j = 0
          · rw [rb_up_0 hz] at H
            exact br_t (rb_rd rfl hj' hz) (nm_r (nI_1 q) (ih j (q + 1) b (by omega) (by omega) hj H))
          · rw [rb_up_1 hz] at H
            refine br_f (fun g => hz ((rb_rcl rfl hj').symm.trans g)) (nm_r (nI_1 q) ⟨pk_in j 16 (by omega), nm_r (rb_rcl rfl hj') ⟨pk_in j 16 (by omega), ?_⟩⟩)
            by_cases hn : nx j = -1
            · rw [rb_af_s hn] at H
              exact br_t (rb_rd rfl hj' hn) (nm_r (nI_1 q) (ih j (q + 1) (q + 1, kd j, m) (by omega) (by omega) hj H))
            · exact br_f (fun g => hn ((rb_rcl rfl hj').symm.trans g)) ⟨pk_in j 16 (by omega), nm_r (rb_rd rfl hj' (rb_af_nI E3 E6 hn)) (nm_r (nI_1 q) (ih j (q + 1) (q + 1, kd j, rb_af nx m j) (by omega) (by omega) hj H))⟩
    · rw [rb_sc1 he] at H
      exact br_f (by decide) H
theorem rb_xsk {post : Int32 → SX → Prop} {i s m lk en af : Nat} {k : Int32} (E : rb_Env ed nx so tx A L Q Z) (hi : i < 64) (hs : s < L) (hm : m < Z) (htk : rb_tk ed kd nx so tx A L s m = (lk, en, k, af))
    (hp : post (nI af) (nI cap, nI Q, nI A, nI Z, nI L, nI T, me, nI e, ed, kd, nx, so, tx, tl, rb_t5 tok i (nI s) (nI en) k (nI m) (nI (rb_rc s lk)), xM, xR, xB)) : wpX_scanToken post (nI cap, nI Q, nI A, nI Z, nI L, nI T, me, nI e, ed, kd, nx, so, tx, tl, tok, xM, xR, xB) (nI i) (nI s) (nI m) := by
  have E' := E
  obtain ⟨E1, E2, E3, E4, E5, E6, E7, E8⟩ := E'
  obtain ⟨j, hj, ej⟩ := E7 m
  have hlk := rb_tk_lk (ed := ed) (kd := kd) (nx := nx) (so := so) (tx := tx) (A := A) (m := m) hs
  rw [htk] at hlk
  have hlk' : lk ≤ L + 1 := hlk
  unfold rb_tk at htk
  rw [ej, nI_clamp (show j < 2 ^ 31 by omega)] at htk
  refine ⟨pk_in m 4 (by omega), nm_r (rb_rd rfl (by omega) ej) (nm_r (nI_1 s) ⟨L + 1 - s, ?_⟩)⟩
  refine rb_xsc E hm (L + 1 - s) j s (s + 1, 0, m) (by omega) (by omega) hj ?_
  rw [htk]
  exact rb_x130 hi (by omega) (by omega) hp
end
end
section
/-! the class's cut, its memory of the old list, its text, its births -/
theorem rb_t5_0 {tok : Nat → Int32} {i : Nat} {v0 v1 v2 v3 v4 : Int32} : rb_t5 tok i v0 v1 v2 v3 v4 (i * 6) = v0 := by
  unfold rb_t5
  rw [pk_un (by omega), pk_un (by omega), pk_un (by omega), pk_un (by omega), pk_us]
theorem rb_t5_1 {tok : Nat → Int32} {i : Nat} {v0 v1 v2 v3 v4 : Int32} : rb_t5 tok i v0 v1 v2 v3 v4 (i * 6 + 1) = v1 := by
  unfold rb_t5
  rw [pk_un (by omega), pk_un (by omega), pk_un (by omega), pk_us]
theorem rb_t5_2 {tok : Nat → Int32} {i : Nat} {v0 v1 v2 v3 v4 : Int32} : rb_t5 tok i v0 v1 v2 v3 v4 (i * 6 + 2) = v2 := by
  unfold rb_t5
  rw [pk_un (by omega), pk_un (by omega), pk_us]
theorem rb_t5_3 {tok : Nat → Int32} {i : Nat} {v0 v1 v2 v3 v4 : Int32} : rb_t5 tok i v0 v1 v2 v3 v4 (i * 6 + 3) = v3 := by
  unfold rb_t5
  rw [pk_un (by omega), pk_us]
theorem rb_t5_4 {tok : Nat → Int32} {i : Nat} {v0 v1 v2 v3 v4 : Int32} : rb_t5 tok i v0 v1 v2 v3 v4 (i * 6 + 4) = v4 := by
  unfold rb_t5
  rw [pk_us]
theorem rb_t5_n {tok : Nat → Int32} {i p : Nat} {v0 v1 v2 v3 v4 : Int32} (h : p < i * 6) : rb_t5 tok i v0 v1 v2 v3 v4 p = tok p := by
  unfold rb_t5
  rw [pk_un (by omega), pk_un (by omega), pk_un (by omega), pk_un (by omega), pk_un (by omega)]
/-- the whole cut of a text -/
def rb_Seq (ed kd nx so tx : Nat → Int32) (A L Z T : Nat) (S M : Nat → Nat) (K : Nat → Int32) (lk : Nat → Nat) : Prop :=
  S 0 = 0 ∧ M 0 = 0 ∧ T ≤ L ∧ S T = L ∧ M T < Z ∧ ∀ i, i < T → S i < L ∧ M i < Z ∧ S i < S (i + 1) ∧ rb_tk ed kd nx so tx A L (S i) (M i) = (lk i, S (i + 1), K i, M (i + 1))
theorem rb_Seq_ex {ed kd nx so tx : Nat → Int32} {A L Q Z : Nat} (E : rb_Env ed nx so tx A L Q Z) (hZ : 0 < Z) : ∃ (T : Nat) (S M : Nat → Nat) (K : Nat → Int32) (lk : Nat → Nat), rb_Seq ed kd nx so tx A L Z T S M K lk := by
  obtain ⟨T, h1, h2, h3, h4⟩ := rb_T (kd := kd) E hZ
  exact ⟨T, fun i => (rb_sm ed kd nx so tx A L i).1, fun i => (rb_sm ed kd nx so tx A L i).2,
    fun i => (rb_tk ed kd nx so tx A L (rb_sm ed kd nx so tx A L i).1 (rb_sm ed kd nx so tx A L i).2).2.2.1,
    fun i => (rb_tk ed kd nx so tx A L (rb_sm ed kd nx so tx A L i).1 (rb_sm ed kd nx so tx A L i).2).1, rfl, rfl, h1, h3, h4,
    fun i hi => ⟨(h2 i hi).1, (h2 i hi).2.1, (h2 i hi).2.2, rfl⟩⟩
/-- the class's cells hold the first i tokens of the cut -/
def rb_Cut (S M : Nat → Nat) (K : Nat → Int32) (lk : Nat → Nat) (i : Nat) (tok : Nat → Int32) : Prop :=
  ∀ j, j < i → tok (j * 6) = nI (S j) ∧ tok (j * 6 + 1) = nI (S (j + 1)) ∧ tok (j * 6 + 2) = K j ∧ tok (j * 6 + 3) = nI (M j) ∧ tok (j * 6 + 4) = nI (rb_rc (S j) (lk j))
theorem rb_Cut_s {S M : Nat → Nat} {K : Nat → Int32} {lk : Nat → Nat} {i : Nat} {tok : Nat → Int32} (h : rb_Cut S M K lk i tok) :
    rb_Cut S M K lk (i + 1) (rb_t5 tok i (nI (S i)) (nI (S (i + 1))) (K i) (nI (M i)) (nI (rb_rc (S i) (lk i)))) := by
  intro j hj
  by_cases ej : j = i
  · rw [ej, rb_t5_0, rb_t5_1, rb_t5_2, rb_t5_3, rb_t5_4]
    exact ⟨rfl, rfl, rfl, rfl, rfl⟩
  · rw [rb_t5_n (by omega), rb_t5_n (by omega), rb_t5_n (by omega), rb_t5_n (by omega), rb_t5_n (by omega)]
    exact h j (by omega)
section
variable {cap Q A Z L T e : Nat} {me : Int32} {ed kd nx so tx tl tok xM xR xB : Nat → Int32}
theorem rb_xcut {post : SX → Prop} {T' : Nat} {S M : Nat → Nat} {K : Nat → Int32} {lk : Nat → Nat} (E : rb_Env ed nx so tx A L Q Z) (hs : rb_Seq ed kd nx so tx A L Z T' S M K lk)
    (hp : ∀ tok', rb_Cut S M K lk T' tok' → post (nI cap, nI Q, nI A, nI Z, nI L, nI T', nI (M T'), nI e, ed, kd, nx, so, tx, tl, tok', xM, xR, xB)) : wpX_cutIntoTokens post (nI cap, nI Q, nI A, nI Z, nI L, nI T, me, nI e, ed, kd, nx, so, tx, tl, tok, xM, xR, xB) := by
  obtain ⟨s1, s2, s3, s4, s5, s6⟩ := hs
  have hL : L ≤ 64 := E.2.2.2.1
  have G := pk_loop (fun n i tok => wX_cutIntoTokens_6 post n (nI (S i)) (nI (M i)) (nI i) (nI cap) (nI Q) (nI A) (nI Z) (nI L) (nI T) me (nI e) ed kd nx so tx tl tok xM xR xB) (fun i tok => rb_Cut S M K lk i tok) T' 0 tok (Nat.zero_le _) (fun j hj => absurd hj (by omega))
    (fun n tok h => pk_le 64 T' (fun _ => hp tok h) (fun _ => pk_le L (S T') (fun _ => hp tok h) (fun z => absurd z (by omega))))
    (fun n i tok hi h hw => pk_le 64 i (fun z => absurd z (by omega)) (fun _ => pk_le L (S i) (fun z => absurd z (by have := (s6 i hi).1; omega)) (fun _ =>
      rb_xsk E (by omega) (s6 i hi).1 (s6 i hi).2.1 (s6 i hi).2.2.2 ⟨pk_in (i * 6 + 1) 384 (by omega) (rb_i6 i 1), nm_r (rb_rd (rb_i6 i 1) (by omega) rb_t5_1) (nm_r (nI_1 i) (hw _ (rb_Cut_s h)))⟩)
      rfl rfl (by omega) (by have := (s6 i hi).1; omega)))
  rw [s1, s2] at G
  exact G
theorem rb_xrem {post : SX → Prop} {S M B : Nat → Nat} {R : Nat → Int32} (hT : T ≤ 64) (hc : ∀ i, i < T → tok (i * 6) = nI (S i) ∧ tok (i * 6 + 3) = nI (M i) ∧ tok (i * 6 + 4) = R i ∧ tok (i * 6 + 5) = nI (B i) ∧ S i < 64)
    (hS : ∀ i j, i < T → j < T → S i = S j → i = j)
    (hp : ∀ xM' xR' xB', rb_Old T S M R B xM' xR' xB' → post (nI cap, nI Q, nI A, nI Z, nI L, nI T, me, nI e, ed, kd, nx, so, tx, tl, tok, xM', xR', xB')) : wpX_rememberTokens post (nI cap, nI Q, nI A, nI Z, nI L, nI T, me, nI e, ed, kd, nx, so, tx, tl, tok, xM, xR, xB) := by
  refine pk_loop (fun n i s => wX_rememberTokens_2 post (nI cap) (nI Q) (nI A) (nI Z) (nI L) (nI T) me (nI e) n (nI i) ed kd nx so tx tl tok s xR xB) (fun i s => ∀ p, p < i → s p = -1) 64 0 xM (Nat.zero_le _) lt_0 ?_ ?_
  · intro n s h
    refine pk_le 64 64 (fun _ => ?_) (fun z => absurd z (by omega))
    refine pk_loop (fun n i (w : (Nat → Int32) × (Nat → Int32) × (Nat → Int32)) => wX_rememberTokens_23 post (nI cap) (nI Q) (nI A) (nI Z) (nI L) (nI T) me (nI e) n (nI i) ed kd nx so tx tl tok w.1 w.2.1 w.2.2) (fun i w => rb_Old i S M R B w.1 w.2.1 w.2.2) T 0 (s, xR, xB) (Nat.zero_le _) ⟨fun j hj => absurd hj (by omega), fun p hp _ => h p hp⟩ ?_ ?_
    · intro n w hw
      exact pk_le T T (fun _ => hp _ _ _ hw) (fun z => absurd z (by omega))
    · intro n i w hi h hw
      obtain ⟨c0, c3, c4, c5, c6⟩ := hc i hi
      exact pk_le T i (fun z => absurd z (by omega)) (fun _ => nm_r (pk_mul i 6) ⟨pk_in (i * 6) 384 (by omega) (nI_add (i * 6) 0), nm_r (rb_rd (nI_add (i * 6) 0) (by omega) c0)
        ⟨pk_in (i * 6 + 3) 384 (by omega) (nI_add (i * 6) 3), pk_in (S i) 64 c6, nm_r (rb_ucl rfl (by omega) (rb_rd (nI_add (i * 6) 3) (by omega) c3))
        ⟨pk_in (i * 6 + 4) 384 (by omega) (nI_add (i * 6) 4), pk_in (S i) 64 c6, nm_r (rb_ucl rfl (by omega) (rb_rd (nI_add (i * 6) 4) (by omega) c4))
        ⟨pk_in (i * 6 + 5) 384 (by omega) (nI_add (i * 6) 5), pk_in (S i) 64 c6, nm_r (rb_ucl rfl (by omega) (rb_rd (nI_add (i * 6) 5) (by omega) c5)) (nm_r (nI_1 i)
          (hw (upd w.1 (S i) (nI (M i)), upd w.2.1 (S i) (R i), upd w.2.2 (S i) (nI (B i))) (rb_old_s h (fun j hj z => absurd (hS j i (by omega) hi z) (by omega)))))⟩⟩⟩⟩)
  · intro n i s hi h hw
    exact pk_le 64 i (fun z => absurd z (by omega)) (fun _ => ⟨pk_in i 64 hi, nm_r (rb_ucl rfl (by omega) rfl) (nm_r (nI_1 i) (hw _ (fun p hp => by
      by_cases ep : p = i
      · rw [ep, pk_us]
      · rw [pk_un ep]; exact h p (by omega))))⟩)
/-- the symbol number k of a packed word -/
def rb_sy (pk : Int32) (k : Nat) : Int32 := ((pk.toUInt32 >>> ((4 * nI k).toUInt32 &&& Int32.toUInt32 31)).toInt32) &&& 15
theorem rb_sy_in (pk : Int32) (k : Nat) : ∃ j, j < 16 ∧ rb_sy pk k = nI j := pk_andE _ 4 (by decide)
theorem rb_xrep {post : SX → Prop} {pos del n : Nat} {pk : Int32} (hd : pos + del ≤ L) (hL : L ≤ 64) (hn : L - del + n ≤ 64)
    (hp : ∀ tl', post (nI cap, nI Q, nI A, nI Z, nI (L - del + n), nI T, me, nI e, ed, kd, nx, so, rb_nt tx (rb_sy pk) L pos del n, tl', tok, xM, xR, xB)) : wpX_replaceText post (nI cap, nI Q, nI A, nI Z, nI L, nI T, me, nI e, ed, kd, nx, so, tx, tl, tok, xM, xR, xB) (nI pos) (nI del) (nI n) pk := by
  refine nm_r (show nI L - nI pos - nI del = nI (L - pos - del) by rw [pk_sub (by omega), pk_sub (by omega)]) ?_
  refine pk_loop (fun f i s => wX_replaceText_13 post (nI pos) (nI del) (nI n) pk (nI (L - pos - del)) (nI cap) (nI Q) (nI A) (nI Z) (nI L) (nI T) me (nI e) f (nI i) ed kd nx so tx s tok xM xR xB) (fun i s => ∀ j, j < i → s j = tx (pos + del + j)) (L - pos - del) 0 tl (Nat.zero_le _) lt_0 ?_ ?_
  · intro f s h
    refine pk_le (L - pos - del) (L - pos - del) (fun _ => ?_) (fun z => absurd z (by omega))
    have G := pk_loop (fun f i (_ : Unit) => wX_replaceText_47 post (nI pos) (nI n) pk (nI (L - pos - del)) (nI cap) (nI Q) (nI A) (nI Z) (nI L) (nI T) me (nI e) f (nI i) ed kd nx so (rb_w2 tx (rb_sy pk) pos i) s tok xM xR xB) (fun _ _ => True) n 0 () (Nat.zero_le _) trivial ?_ ?_
    · rw [rb_w2_0] at G
      exact G
    · intro f _ _
      refine pk_le n n (fun _ => ?_) (fun z => absurd z (by omega))
      have G := pk_loop (fun f i (_ : Unit) => wX_replaceText_78 post (nI pos) (nI n) (nI (L - pos - del)) (nI cap) (nI Q) (nI A) (nI Z) (nI L) (nI T) me (nI e) f (nI i) ed kd nx so (rb_w3 tx (rb_sy pk) pos del n i) s tok xM xR xB) (fun _ _ => True) (L - pos - del) 0 () (Nat.zero_le _) trivial ?_ ?_
      · rw [rb_w3_0] at G
        exact G
      · intro f _ _
        refine pk_le (L - pos - del) (L - pos - del) (fun _ => nm_r (show nI pos + nI n + nI (L - pos - del) = nI (L - del + n) by rw [nI_add, nI_add]; exact congrArg nI (by omega)) ?_) (fun z => absurd z (by omega))
        rw [rb_w3_e hd]
        exact hp s
      · intro f i _ hi _ hw
        have hw' := hw () trivial
        rw [← rb_w3_s] at hw'
        exact pk_le (L - pos - del) i (fun z => absurd z (by omega)) (fun _ => ⟨pk_in i 64 (by omega), pk_in (pos + n + i) 64 (by omega) (by rw [nI_add, nI_add]),
          nm_r (rb_ucl (by rw [nI_add, nI_add]) (by omega) (rb_rd rfl (by omega) (h i hi))) (nm_r (nI_1 i) hw')⟩)
    · intro f i _ hi _ hw
      have hw' := hw () trivial
      rw [← rb_w2_s] at hw'
      exact pk_le n i (fun z => absurd z (by omega)) (fun _ => ⟨pk_in (pos + i) 64 (by omega) (nI_add pos i), nm_r (rb_ucl (nI_add pos i) (by omega) rfl) (nm_r (nI_1 i) hw')⟩)
  · intro f i s hi h hw
    exact pk_le (L - pos - del) i (fun z => absurd z (by omega)) (fun _ => ⟨pk_in (pos + del + i) 64 (by omega) (by rw [nI_add, nI_add]), pk_in i 64 (by omega),
      nm_r (rb_ucl rfl (by omega) (rb_rcl (by rw [nI_add, nI_add]) (by omega))) (nm_r (nI_1 i) (hw _ (fun p hp => by
        by_cases ep : p = i
        · rw [ep, pk_us]
        · rw [pk_un ep]; exact h p (by omega))))⟩)
end
end
section
/-! the class's births -/
section
variable {cap Q A Z L T e : Nat} {me : Int32} {ed kd nx so tx tl tok xM xR xB : Nat → Int32}
theorem rb_x127 {post : Int32 → SX → Prop} {J : Int32 → Int32 → (Nat → Int32) → (Nat → Int32) → (Nat → Int32) → (Nat → Int32) → (Nat → Int32) → (Nat → Int32) → (Nat → Int32) → (Nat → Int32) → (Nat → Int32) → (Nat → Int32) → Prop} {x1 x2 x3 : Int32} {i fr b : Nat} (hi : i < 64) (hb : b < 2 ^ 31) (he : e + 1 < 2 ^ 31)
    (h1 : b = e + 1 → J (nI (fr + 1)) (nI (i + 1)) ed kd nx so tx tl (upd tok (i * 6 + 5) (nI b)) xM xR xB) (h2 : b ≠ e + 1 → J (nI fr) (nI (i + 1)) ed kd nx so tx tl (upd tok (i * 6 + 5) (nI b)) xM xR xB) : wX_settleBirths_127 post J x1 x2 x3 (nI fr) (nI i) (nI b) (nI cap) (nI Q) (nI A) (nI Z) (nI L) (nI T) me (nI (e + 1)) ed kd nx so tx tl tok xM xR xB :=
  ⟨pk_in (i * 6 + 5) 384 (by omega) (rb_i6 i 5), nm_r (rb_ucl (rb_i6 i 5) (by omega) rfl) (pk_eq b (e + 1) (fun z => nm_r (nI_1 fr) (nm_r (nI_1 i) (h1 z))) (fun z => nm_r (nI_1 i) (h2 z)))⟩
theorem rb_xset {post : Int32 → SX → Prop} {pos del n c : Nat} {S M B S' M' : Nat → Nat} {R : Nat → Int32} (O : rb_Old c S M R B xM xR xB) (hS : ∀ i j, i < c → j < c → S i = S j → i = j) (hM : ∀ j, j < c → M j < 4) (hB : ∀ j, j < c → B j ≤ e) (he : e + 1 < 2 ^ 31) (hT : T ≤ 64) (hpn : pos + n < 2 ^ 20)
    (hc : ∀ i, i < T → tok (i * 6) = nI (S' i) ∧ tok (i * 6 + 3) = nI (M' i) ∧ S' i < 64 ∧ M' i < 4 ∧ S' i + del < 64 + n)
    (hp : ∀ tok', (∀ i, i < T → ∀ f, f < 5 → tok' (i * 6 + f) = tok (i * 6 + f)) → (∀ i, i < T → tok' (i * 6 + 5) = nI (rb_bn c S M R B pos del n e (S' i) (M' i))) →
      post (nI (rb_fr (e + 1) (fun i => rb_bn c S M R B pos del n e (S' i) (M' i)) T)) (nI cap, nI Q, nI A, nI Z, nI L, nI T, me, nI (e + 1), ed, kd, nx, so, tx, tl, tok', xM, xR, xB)) : wpX_settleBirths post (nI cap, nI Q, nI A, nI Z, nI L, nI T, me, nI (e + 1), ed, kd, nx, so, tx, tl, tok, xM, xR, xB) (nI pos) (nI del) (nI n) := by
  refine pk_loop (fun f i s => wX_settleBirths_6 post (nI pos) (nI del) (nI n) (nI cap) (nI Q) (nI A) (nI Z) (nI L) (nI T) me (nI (e + 1)) f (nI (rb_fr (e + 1) (fun i => rb_bn c S M R B pos del n e (S' i) (M' i)) i)) (nI i) ed kd nx so tx tl s xM xR xB)
    (fun i s => (∀ j, j < T → ∀ f, f < 5 → s (j * 6 + f) = tok (j * 6 + f)) ∧ (∀ j, j < i → s (j * 6 + 5) = nI (rb_bn c S M R B pos del n e (S' j) (M' j)))) T 0 tok (Nat.zero_le _) ⟨fun j _ f _ => rfl, lt_0⟩ ?_ ?_
  · intro f s h
    exact pk_le T T (fun _ => hp s h.1 h.2) (fun z => absurd z (by omega))
  · intro f i s hi h hw
    obtain ⟨h1, h2⟩ := h
    obtain ⟨c0, c3, c4, c5, c6⟩ := hc i hi
    have d0 : s (i * 6) = nI (S' i) := (h1 i hi 0 (by omega)).trans c0
    have d3 : s (i * 6 + 3) = nI (M' i) := (h1 i hi 3 (by omega)).trans c3
    have hb := rb_bn_le (S := S) (M := M) (R := R) (pos := pos) (del := del) (n := n) (s := S' i) (m := M' i) hB
    have hI : ((∀ j, j < T → ∀ f, f < 5 → upd s (i * 6 + 5) (nI (rb_bn c S M R B pos del n e (S' i) (M' i))) (j * 6 + f) = tok (j * 6 + f)) ∧ (∀ j, j < i + 1 → upd s (i * 6 + 5) (nI (rb_bn c S M R B pos del n e (S' i) (M' i))) (j * 6 + 5) = nI (rb_bn c S M R B pos del n e (S' j) (M' j)))) := by
      refine ⟨fun j hj g hg => ?_, fun j hj => ?_⟩
      · rw [pk_un (by omega)]
        exact h1 j hj g hg
      · by_cases ej : j = i
        · rw [ej, pk_us]
        · rw [pk_un (by omega)]
          exact h2 j (by omega)
    have key : ∀ x : Int32, x = nI (rb_bn c S M R B pos del n e (S' i) (M' i)) → wX_settleBirths_127 post (wX_settleBirths_6 post (nI pos) (nI del) (nI n) (nI cap) (nI Q) (nI A) (nI Z) (nI L) (nI T) me (nI (e + 1)) f) (nI pos) (nI del) (nI n) (nI (rb_fr (e + 1) (fun i => rb_bn c S M R B pos del n e (S' i) (M' i)) i)) (nI i) x (nI cap) (nI Q) (nI A) (nI Z) (nI L) (nI T) me (nI (e + 1)) ed kd nx so tx tl s xM xR xB := by
      intro x ex
      rw [ex]
      refine rb_x127 (by omega) (by omega) he (fun z => ?_) (fun z => ?_)
      · have w := hw _ hI
        rw [rb_fr_t (b := fun i => rb_bn c S M R B pos del n e (S' i) (M' i)) (i := i) z] at w
        exact w
      · have w := hw _ hI
        rw [rb_fr_f (b := fun i => rb_bn c S M R B pos del n e (S' i) (M' i)) (i := i) z] at w
        exact w
    refine pk_le T i (fun z => absurd z (by omega)) (fun _ => ⟨pk_in (i * 6) 384 (by omega) (rb_i6 i 0), nm_r (rb_rd (rb_i6 i 0) (by omega) d0) ⟨pk_in (i * 6 + 3) 384 (by omega) (rb_i6 i 3), nm_r (rb_rd (rb_i6 i 3) (by omega) d3) ?_⟩⟩)
    refine pk_le pos (S' i) (fun h => pk_lt (S' i) (pos + n) (fun h' => key _ (congrArg nI (rb_xb3 h h').symm)) (fun h' => ?_) rfl (nI_add pos n)) (fun h => ⟨pk_in (S' i) 64 c4, ?_⟩)
    · have ep : nI (S' i) - nI n + nI del = nI (S' i - n + del) := by rw [pk_sub (by omega), nI_add]
      refine nm_r ep ⟨pk_in (S' i - n + del) 64 (by omega), br_c (fun z => ⟨pk_in (S' i - n + del) 64 (by omega), fun x ex => key x ?_⟩) (fun z => key _ ?_)⟩
      · have z' : xM (S' i - n + del) = nI (M' i) := (rb_rcl rfl (by omega)).symm.trans z
        exact ex.trans (rb_rd rfl (by omega) (rb_xb2 O hS hM c5 (by omega) h' (by omega) z'))
      · exact congrArg nI (rb_xb2n O h' (p := S' i - n + del) (by omega) (fun g => z (rb_rd rfl (by omega) g))).symm
    · have rr : xR (nI (S' i)).toNatClampNeg = xR (S' i) := rb_rcl rfl (by omega)
      refine br_c (fun z => ⟨pk_in (S' i) 64 c4, br_c (fun g => key _ ?_) (fun g => ⟨pk_in (S' i) 64 c4, fun x ex => key x ?_⟩)⟩) (fun z => key _ ?_)
      · rw [rr] at g
        exact congrArg nI (rb_xb1n O h (fun q => Int32.not_le.mpr g q.2)).symm
      · rw [rr] at g
        exact ex.trans (rb_rd rfl (by omega) (rb_xb1 O hS hM c5 c4 h ((rb_rcl rfl (by omega)).symm.trans z) (Int32.not_lt.mp g)))
      · exact congrArg nI (rb_xb1n O h (fun q => z (rb_rd rfl (by omega) q.1))).symm
end
end
section
/-! the reference's cut -/
section
variable {cap Q A Z L T e : Nat} {oc : Int32} {ed kd nx so tx nt tS tE tK tM tR tB tA yS yM yR yB : Nat → Int32}
theorem rb_yhe {post : Int32 → Prop} {s : Nat} (hA : A ≤ 8) (hs : s < 16) (h1 : rb_he ed s A = true → post 1) (h2 : rb_he ed s A = false → post 0) : wpY_hasEdges post (nI cap, nI Q, nI A, nI Z, nI L, nI e, nI T, oc, ed, kd, nx, so, tx, nt, tS, tE, tK, tM, tR, tB, tA, yS, yM, yR, yB) (nI s) :=
  pk_loop (σ := Unit) (fun n i _ => wY_hasEdges_2 post (nI s) (nI cap) (nI Q) (nI A) (nI Z) (nI L) (nI e) (nI T) oc ed kd nx so tx nt tS tE tK tM tR tB tA yS yM yR yB n (nI i)) (fun i _ => ∀ c, c < i → ed (s * 8 + c) = -1) A 0 () (Nat.zero_le _) lt_0
    (fun n _ h => pk_le A A (fun _ => h2 (rb_he_f A h)) (fun z => absurd z (by omega)))
    (fun n i _ hi h hw => pk_le A i (fun z => absurd z (by omega)) (fun _ => ⟨pk_in (s * 8 + i) 128 (by omega) (rb_i8 s i),
      br_c (fun z => nm_r (nI_1 i) (hw () (lt_s h ((rb_rcl (rb_i8 s i) (by omega)).symm.trans z)))) (fun z => h1 (rb_he_t (fun g => z ((rb_rcl (rb_i8 s i) (by omega)).trans g)) A hi))⟩))
/-- the reference's bestEnd and bestState against (END, KIND, mode after) -/
def rb_Be (kd nx : Nat → Int32) (Q s m : Nat) (x6 x7 : Int32) (b : Nat × Int32 × Nat) : Prop :=
  (x7 = -1 ∧ b = (s + 1, 0, m)) ∨ (∃ t en, t < Q ∧ x7 = nI t ∧ x6 = nI en ∧ b = (en, kd t, rb_af nx m t))
theorem rb_y182 {post : SY → Prop} {i s m : Nat} {x6 x7 z0 : Int32} {b : Nat × Int32 × Nat} (E : rb_Env ed nx so tx A L Q Z) (hi : i < 64) (hb : rb_Be kd nx Q s m x6 x7 b)
    (hp : post (nI cap, nI Q, nI A, nI Z, nI L, nI e, nI T, oc, ed, kd, nx, so, tx, nt, tS, upd tE i (nI b.1), upd tK i b.2.1, tM, upd tR i z0, tB, upd tA i (nI b.2.2), yS, yM, yR, yB)) : wY_cutOne_182 post (nI i) (nI s) (nI m) x6 x7 z0 (nI i) (nI cap) (nI Q) (nI A) (nI Z) (nI L) (nI e) (nI T) oc ed kd nx so tx nt tS tE tK tM tR tB tA yS yM yR yB := by
  obtain ⟨E1, E2, E3, E4, E5, E6, E7, E8⟩ := E
  have hi' : i < 2 ^ 31 := by omega
  refine ⟨pk_in i 64 hi, nm_r (rb_ucl rfl hi' rfl) ⟨pk_in i 64 hi, nm_r (rb_ucl rfl hi' (nI_1 s)) ⟨pk_in i 64 hi, nm_r (rb_ucl rfl hi' rfl) ⟨pk_in i 64 hi, nm_r (rb_ucl rfl hi' rfl) ?_⟩⟩⟩⟩
  rcases hb with ⟨rfl, rfl⟩ | ⟨t, en, ht, rfl, rfl, rfl⟩
  · exact br_t (by decide) hp
  · have ht' : t < 2 ^ 31 := by omega
    refine br_f (nI_pos ht') ⟨pk_in i 64 hi, nm_r (rb_ucl rfl hi' rfl) ⟨pk_in t 16 (by omega), pk_in i 64 hi, nm_r (rb_ucl rfl hi' (rb_rcl rfl ht')) ⟨pk_in t 16 (by omega), ?_⟩⟩⟩
    by_cases hn : nx t = -1
    · refine br_t (rb_rd rfl ht' hn) ?_
      rw [rb_uu, rb_uu]
      rw [rb_af_s hn] at hp
      exact hp
    · refine br_f (fun g => hn ((rb_rcl rfl ht').symm.trans g)) ⟨pk_in t 16 (by omega), pk_in i 64 hi, nm_r (rb_ucl rfl hi' (rb_rd rfl ht' (rb_af_nI (m := m) E3 E6 hn))) ?_⟩
      rw [rb_uu, rb_uu, rb_uu]
      exact hp
theorem rb_y147 {post : SY → Prop} {i s m lk : Nat} {x6 x7 : Int32} {b : Nat × Int32 × Nat} (E : rb_Env ed nx so tx A L Q Z) (hi : i < 64) (hs : s < 64) (hlk : lk < 2 ^ 31) (hb : rb_Be kd nx Q s m x6 x7 b)
    (hp : post (nI cap, nI Q, nI A, nI Z, nI L, nI e, nI T, oc, ed, kd, nx, so, tx, nt, upd tS i (nI s), upd tE i (nI b.1), upd tK i b.2.1, upd tM i (nI m), upd tR i (nI (rb_rc s lk)), tB, upd tA i (nI b.2.2), yS, yM, yR, yB)) : wY_cutOne_147 post (nI i) (nI s) (nI m) x6 x7 (nI lk) (nI cap) (nI Q) (nI A) (nI Z) (nI L) (nI e) (nI T) oc ed kd nx so tx nt tS tE tK tM tR tB tA yS yM yR yB := by
  have hi' : i < 2 ^ 31 := by omega
  refine ⟨pk_in i 64 hi, nm_r (rb_ucl rfl hi' rfl) ⟨pk_in i 64 hi, nm_r (rb_ucl rfl hi' rfl) (pk_le lk (s + 1) (fun h => ?_) (fun h => ?_) rfl (nI_1 s))⟩⟩
  · have hr : rb_rc s lk = s + 1 := if_pos h
    rw [hr] at hp
    rw [nI_1]
    exact rb_y182 E hi hb hp
  · have hr : rb_rc s lk = lk := if_neg (by omega)
    rw [hr] at hp
    exact rb_y182 E hi hb hp
theorem rb_y26 {post : SY → Prop} {x1 x2 x3 x4 x5 x6 x7 x8 x10 : Int32} {n : Nat} (H : wY_cutOne_147 post x1 x2 x3 x6 x7 x8 (nI cap) (nI Q) (nI A) (nI Z) (nI L) (nI e) (nI T) oc ed kd nx so tx nt tS tE tK tM tR tB tA yS yM yR yB) : wY_cutOne_26 post x1 x2 x3 (nI cap) (nI Q) (nI A) (nI Z) (nI L) (nI e) (nI T) oc ed kd nx so tx nt tS tE tK tM tR tB tA yS yM yR yB (n + 1) x4 x5 x6 x7 x8 0 x10 :=
  br_c (fun _ => H) (fun _ => br_t rfl H)
theorem rb_ysc {post : SY → Prop} {i s0 m : Nat} (E : rb_Env ed nx so tx A L Q Z) (hm : m < Z) : ∀ (d s q st : Nat) (b : Nat × Int32 × Nat) (x6 x7 x8 : Int32), q ≤ L → L + 1 - q ≤ d → s < Q → st + s0 = q → rb_Be kd nx Q s0 m x6 x7 b →
    (∀ (x6' x7' : Int32), rb_Be kd nx Q s0 m x6' x7' (rb_sc ed kd nx tx A L m d s q b).2 → wY_cutOne_147 post (nI i) (nI s0) (nI m) x6' x7' (nI (rb_sc ed kd nx tx A L m d s q b).1) (nI cap) (nI Q) (nI A) (nI Z) (nI L) (nI e) (nI T) oc ed kd nx so tx nt tS tE tK tM tR tB tA yS yM yR yB) →
    wY_cutOne_26 post (nI i) (nI s0) (nI m) (nI cap) (nI Q) (nI A) (nI Z) (nI L) (nI e) (nI T) oc ed kd nx so tx nt tS tE tK tM tR tB tA yS yM yR yB (d + 1) (nI q) (nI s) x6 x7 x8 1 (nI st) := by
  have E' := E
  obtain ⟨E1, E2, E3, E4, E5, E6, E7, E8⟩ := E'
  intro d
  induction d with
  | zero => intro s q st b x6 x7 x8 h1 h2 _ _ _ _; omega
  | succ d ih =>
    intro s q st b x6 x7 x8 hq hd hs hst hb H
    refine pk_lt 64 st (fun z => absurd z (by omega)) (fun _ => br_f (by decide) (rb_yhe E1 (by omega) (fun he => ?_) (fun he => ?_)))
    · refine br_f (by decide) (pk_le L q (fun hL => ?_) (fun hL => ?_))
      · rw [rb_sc2 he hL] at H
        exact nm_r (nI_1 q) (nm_e (rb_y26 (H x6 x7 hb)))
      · obtain ⟨c, hc, ec⟩ := E8 q hL
        have hcl : (tx q).toNatClampNeg = c := by rw [ec, nI_clamp (by omega)]
        have e1 : tx (nI q).toNatClampNeg = nI c := rb_rd rfl (by omega) ec
        have e2 : nI s * 8 + tx (nI q).toNatClampNeg = nI (s * 8 + c) := by rw [e1]; exact rb_i8 s c
        have hsc : s * 8 + c < 2 ^ 31 := by omega
        refine ⟨pk_in q 64 (by omega), pk_in (s * 8 + c) 128 (by omega) e2, ?_⟩
        rcases E5 (s * 8 + c) with h | ⟨j, hj, ej⟩
        · rw [rb_sc3 he hL hcl h] at H
          exact br_t (rb_rd e2 hsc h) (nm_r (nI_1 q) (nm_e (rb_y26 (H x6 x7 hb))))
        · have hj' : j < 2 ^ 31 := by omega
          have es : nI st + 1 = nI (st + 1) := nI_1 st
          rw [rb_sc4 he hL hcl hj' ej] at H
          refine br_f (fun g => rb_m1 hj' (ej.symm.trans ((rb_rcl e2 hsc).symm.trans g))) ⟨pk_in q 64 (by omega), pk_in (s * 8 + c) 128 (by omega) e2, nm_r (rb_rd e2 hsc ej) (nm_r (nI_1 q) ⟨pk_in j 16 (by omega), ?_⟩)⟩
          by_cases hz : kd j = 0
          · rw [rb_up_0 hz] at H
            exact br_t (rb_rd rfl hj' hz) (nm_r es (ih j (q + 1) (st + 1) b x6 x7 x8 (by omega) (by omega) hj (by omega) hb H))
          · rw [rb_up_1 hz] at H
            exact br_f (fun g => hz ((rb_rcl rfl hj').symm.trans g)) (nm_r es (ih j (q + 1) (st + 1) (q + 1, kd j, rb_af nx m j) (nI (q + 1)) (nI j) x8 (by omega) (by omega) hj (by omega) (Or.inr ⟨j, q + 1, hj, rfl, rfl, rfl⟩) H))
    · rw [rb_sc1 he] at H
      exact br_t rfl (nm_e (rb_y26 (H x6 x7 hb)))
theorem rb_ysk {post : SY → Prop} {i s m lk en af : Nat} {k : Int32} (E : rb_Env ed nx so tx A L Q Z) (hi : i < 64) (hs : s < L) (hm : m < Z) (htk : rb_tk ed kd nx so tx A L s m = (lk, en, k, af))
    (hp : post (nI cap, nI Q, nI A, nI Z, nI L, nI e, nI T, oc, ed, kd, nx, so, tx, nt, upd tS i (nI s), upd tE i (nI en), upd tK i k, upd tM i (nI m), upd tR i (nI (rb_rc s lk)), tB, upd tA i (nI af), yS, yM, yR, yB)) : wpY_cutOne post (nI cap, nI Q, nI A, nI Z, nI L, nI e, nI T, oc, ed, kd, nx, so, tx, nt, tS, tE, tK, tM, tR, tB, tA, yS, yM, yR, yB) (nI i) (nI s) (nI m) := by
  have E' := E
  obtain ⟨E1, E2, E3, E4, E5, E6, E7, E8⟩ := E'
  obtain ⟨j, hj, ej⟩ := E7 m
  have hlk := rb_tk_lk (ed := ed) (kd := kd) (nx := nx) (so := so) (tx := tx) (A := A) (m := m) hs
  rw [htk] at hlk
  have hlk' : lk ≤ L + 1 := hlk
  unfold rb_tk at htk
  rw [ej, nI_clamp (show j < 2 ^ 31 by omega)] at htk
  refine ⟨pk_in m 4 (by omega), nm_r (rb_rd rfl (by omega) ej) ⟨L + 1 - s + 1, ?_⟩⟩
  refine rb_ysc E hm (L + 1 - s) j s 0 (s + 1, 0, m) (-1) (-1) (nI s) (by omega) (by omega) hj (by omega) (Or.inl ⟨rfl, rfl⟩) ?_
  rw [htk]
  intro x6 x7 hb
  exact rb_y147 E hi (by omega) (by omega) hb hp
/-- the reference's arrays hold the first i tokens of the cut -/
def rb_CutY (S M : Nat → Nat) (K : Nat → Int32) (lk : Nat → Nat) (i : Nat) (tS tE tK tM tR tA : Nat → Int32) : Prop :=
  ∀ j, j < i → tS j = nI (S j) ∧ tE j = nI (S (j + 1)) ∧ tK j = K j ∧ tM j = nI (M j) ∧ tR j = nI (rb_rc (S j) (lk j)) ∧ tA j = nI (M (j + 1))
theorem rb_ycut {post : SY → Prop} {T' : Nat} {S M : Nat → Nat} {K : Nat → Int32} {lk : Nat → Nat} (E : rb_Env ed nx so tx A L Q Z) (hs : rb_Seq ed kd nx so tx A L Z T' S M K lk)
    (hp : ∀ tS' tE' tK' tM' tR' tA', rb_CutY S M K lk T' tS' tE' tK' tM' tR' tA' → post (nI cap, nI Q, nI A, nI Z, nI L, nI e, nI T', oc, ed, kd, nx, so, tx, nt, tS', tE', tK', tM', tR', tB, tA', yS, yM, yR, yB)) : wpY_cutAll post (nI cap, nI Q, nI A, nI Z, nI L, nI e, nI T, oc, ed, kd, nx, so, tx, nt, tS, tE, tK, tM, tR, tB, tA, yS, yM, yR, yB) := by
  obtain ⟨s1, s2, s3, s4, s5, s6⟩ := hs
  have hL : L ≤ 64 := E.2.2.2.1
  have G := pk_loop (fun n i (w : (Nat → Int32) × (Nat → Int32) × (Nat → Int32) × (Nat → Int32) × (Nat → Int32) × (Nat → Int32)) => wY_cutAll_11 post n (nI (S i)) (nI (M i)) (nI i) (nI cap) (nI Q) (nI A) (nI Z) (nI L) (nI e) (nI i) oc ed kd nx so tx nt w.1 w.2.1 w.2.2.1 w.2.2.2.1 w.2.2.2.2.1 tB w.2.2.2.2.2 yS yM yR yB)
    (fun i w => rb_CutY S M K lk i w.1 w.2.1 w.2.2.1 w.2.2.2.1 w.2.2.2.2.1 w.2.2.2.2.2) T' 0 (tS, tE, tK, tM, tR, tA) (Nat.zero_le _) (fun j hj => absurd hj (by omega)) ?_ ?_
  · rw [s1, s2] at G
    exact G
  · intro n w h
    exact pk_le 64 T' (fun _ => hp _ _ _ _ _ _ h) (fun _ => pk_le L (S T') (fun _ => hp _ _ _ _ _ _ h) (fun z => absurd z (by omega)))
  · intro n i w hi h hw
    obtain ⟨g1, g2, g3, g4⟩ := s6 i hi
    have hi' : i < 2 ^ 31 := by omega
    refine pk_le 64 i (fun z => absurd z (by omega)) (fun _ => pk_le L (S i) (fun z => absurd z (by omega)) (fun _ => rb_ysk E (by omega) g1 g2 g4 ?_))
    refine nm_r (nI_1 i) ⟨pk_in i 64 (by omega), nm_r (rb_rd rfl hi' pk_us) ⟨pk_in i 64 (by omega), nm_r (rb_rd rfl hi' pk_us) (nm_r (nI_1 i) ?_)⟩⟩
    refine hw (upd w.1 i (nI (S i)), upd w.2.1 i (nI (S (i + 1))), upd w.2.2.1 i (K i), upd w.2.2.2.1 i (nI (M i)), upd w.2.2.2.2.1 i (nI (rb_rc (S i) (lk i))), upd w.2.2.2.2.2 i (nI (M (i + 1)))) ?_
    intro j hj
    dsimp only
    by_cases ej : j = i
    · rw [ej, pk_us, pk_us, pk_us, pk_us, pk_us, pk_us]
      exact ⟨rfl, rfl, rfl, rfl, rfl, rfl⟩
    · rw [pk_un ej, pk_un ej, pk_un ej, pk_un ej, pk_un ej, pk_un ej]
      exact h j (by omega)
end
end
section
/-! the reference's splice -/
section
variable {cap Q A Z L T e : Nat} {oc : Int32} {ed kd nx so tx nt tS tE tK tM tR tB tA yS yM yR yB : Nat → Int32}
theorem rb_y361 {post : Int32 → SY → Prop} {J : Int32 → Int32 → (Nat → Int32) → (Nat → Int32) → (Nat → Int32) → (Nat → Int32) → (Nat → Int32) → (Nat → Int32) → (Nat → Int32) → (Nat → Int32) → (Nat → Int32) → (Nat → Int32) → (Nat → Int32) → (Nat → Int32) → (Nat → Int32) → (Nat → Int32) → (Nat → Int32) → (Nat → Int32) → (Nat → Int32) → Prop}
    {pos del n c i s m fr : Nat} {S M B : Nat → Nat} {R : Nat → Int32} (hS : ∀ i j, i < c → j < c → S i = S j → i = j) (hc : c ≤ 64) (hi : i < 64) (hs : s < 64) (hm : m < 4) (hpn : pos + n + del < 2 ^ 20)
    (ho : ∀ j, j < c → yS j = nI (S j) ∧ yM j = nI (M j) ∧ yR j = R j ∧ yB j = nI (B j) ∧ S j < 64 ∧ M j < 4 ∧ B j ≤ e) (htM : tM i = nI m)
    (h1 : rb_bn c S M R B pos del n e s m = e + 1 → J (nI (fr + 1)) (nI (i + 1)) ed kd nx so tx nt tS tE tK tM tR (upd tB i (nI (rb_bn c S M R B pos del n e s m))) tA yS yM yR yB)
    (h2 : rb_bn c S M R B pos del n e s m ≠ e + 1 → J (nI fr) (nI (i + 1)) ed kd nx so tx nt tS tE tK tM tR (upd tB i (nI (rb_bn c S M R B pos del n e s m))) tA yS yM yR yB) :
    ∃ f, wY_splice_361 post J (nI pos) (nI del) (nI n) (nI fr) (nI i) (nI s) (nI cap) (nI Q) (nI A) (nI Z) (nI L) (nI (e + 1)) (nI T) (nI c) ed kd nx so tx nt tS tE tK tM tR tB tA yS yM yR yB f (-1) 0 := by
  have hi' : i < 2 ^ 31 := by omega
  refine pk_loop (fun f j x => wY_splice_361 post J (nI pos) (nI del) (nI n) (nI fr) (nI i) (nI s) (nI cap) (nI Q) (nI A) (nI Z) (nI L) (nI (e + 1)) (nI T) (nI c) ed kd nx so tx nt tS tE tK tM tR tB tA yS yM yR yB f x (nI j)) (fun j x => rb_Fd S M R pos del n s m j x) c 0 (-1) (Nat.zero_le _) rb_Fd_0 ?_ ?_
  · intro f x h
    refine pk_le c c (fun _ => ?_) (fun z => absurd z (by omega))
    rcases h with ⟨rfl, hn⟩ | ⟨j, hj, hF, rfl⟩
    · have hb : rb_bn c S M R B pos del n e s m = e + 1 := rb_bn_n hn
      exact br_t (by decide) ⟨pk_in i 64 hi, nm_r (rb_ucl rfl hi' (congrArg nI hb.symm)) (nm_r (nI_1 fr) (nm_r (nI_1 i) (h1 hb)))⟩
    · obtain ⟨_, _, _, o4, _, _, o7⟩ := ho j hj
      have hb : rb_bn c S M R B pos del n e s m = B j := rb_bn_s hS hj hF
      exact br_f (nI_pos (by omega)) ⟨pk_in j 64 (by omega), pk_in i 64 hi, nm_r (rb_ucl rfl hi' (rb_rd rfl (by omega) (o4.trans (congrArg nI hb.symm)))) (nm_r (nI_1 i) (h2 (by omega)))⟩
  · intro f j x hj h hw
    obtain ⟨o1, o2, o3, o4, o5, o6, o7⟩ := ho j hj
    have hj' : j < 2 ^ 31 := by omega
    have r1 : yS (nI j).toNatClampNeg = nI (S j) := rb_rd rfl hj' o1
    have r2 : yM (nI j).toNatClampNeg = nI (M j) := rb_rd rfl hj' o2
    have r3 : yR (nI j).toNatClampNeg = R j := rb_rd rfl hj' o3
    have r4 : tM (nI i).toNatClampNeg = nI m := rb_rd rfl hi' htM
    have h4 : ∀ x' : Int32, s < pos + n → rb_Fd S M R pos del n s m (j + 1) x' → wY_splice_420 post J (wY_splice_361 post J (nI pos) (nI del) (nI n) (nI fr) (nI i) (nI s) (nI cap) (nI Q) (nI A) (nI Z) (nI L) (nI (e + 1)) (nI T) (nI c) ed kd nx so tx nt tS tE tK tM tR tB tA yS yM yR yB f) (nI pos) (nI del) (nI n) (nI fr) (nI i) (nI s) x' (nI j) (nI cap) (nI Q) (nI A) (nI Z) (nI L) (nI (e + 1)) (nI T) (nI c) ed kd nx so tx nt tS tE tK tM tR tB tA yS yM yR yB :=
      fun x' hlt hF => pk_lt s (pos + n) (fun _ => nm_r (nI_1 j) (hw x' hF)) (fun z => absurd z (by omega)) rfl (nI_add pos n)
    refine pk_le c j (fun z => absurd z (by omega)) (fun _ => ⟨pk_in j 64 (by omega), pk_in i 64 hi, pk_eq (M j) m (fun hm => ?_) (fun hm => nm_r (nI_1 j) (hw x (rb_Fd_f h (fun hF => hm hF.1)))) r2 r4⟩)
    refine pk_le pos s (fun hp => ?_) (fun hp => ⟨pk_in j 64 (by omega), ?_⟩)
    · refine pk_lt s (pos + n) (fun hq => nm_r (nI_1 j) (hw x (rb_Fd_f h ?_))) (fun hq => ⟨pk_in j 64 (by omega), ?_⟩) rfl (nI_add pos n)
      · rintro ⟨_, ⟨z, _, _⟩ | ⟨z, _⟩⟩ <;> omega
      · have ep : nI s - nI n + nI del = nI (s - n + del) := by rw [pk_sub (by omega), nI_add]
        refine pk_eq (S j) (s - n + del) (fun hz => nm_r (nI_1 j) (hw _ (rb_Fd_t ⟨hm, Or.inr ⟨hq, by omega⟩⟩))) (fun hz => nm_r (nI_1 j) (hw x (rb_Fd_f h ?_))) r1 ep
        rintro ⟨_, ⟨z, _, _⟩ | ⟨_, z⟩⟩ <;> omega
    · refine pk_eq (S j) s (fun hz => ⟨pk_in j 64 (by omega), ?_⟩) (fun hz => h4 x (by omega) (rb_Fd_f h ?_)) r1 rfl
      · rw [r3]
        refine br_c (fun g => h4 x (by omega) (rb_Fd_f h ?_)) (fun g => h4 _ (by omega) (rb_Fd_t ⟨hm, Or.inl ⟨hp, hz, Int32.not_lt.mp g⟩⟩))
        rintro ⟨_, ⟨_, _, z⟩ | ⟨z, _⟩⟩
        · exact Int32.not_le.mpr g z
        · omega
      · rintro ⟨_, ⟨_, z, _⟩ | ⟨z, _⟩⟩ <;> omega
theorem rb_y337 {post : Int32 → SY → Prop} {pos del n c : Nat} {S M B S' M' : Nat → Nat} {R : Nat → Int32} (hS : ∀ i j, i < c → j < c → S i = S j → i = j) (hc : c ≤ 64) (hT : T ≤ 64) (hpn : pos + n + del < 2 ^ 20)
    (ho : ∀ j, j < c → yS j = nI (S j) ∧ yM j = nI (M j) ∧ yR j = R j ∧ yB j = nI (B j) ∧ S j < 64 ∧ M j < 4 ∧ B j ≤ e) (hn : ∀ i, i < T → tS i = nI (S' i) ∧ tM i = nI (M' i) ∧ S' i < 64 ∧ M' i < 4)
    (hp : ∀ tB', (∀ i, i < T → tB' i = nI (rb_bn c S M R B pos del n e (S' i) (M' i))) → post (nI (rb_fr (e + 1) (fun i => rb_bn c S M R B pos del n e (S' i) (M' i)) T)) (nI cap, nI Q, nI A, nI Z, nI L, nI (e + 1), nI T, nI c, ed, kd, nx, so, tx, nt, tS, tE, tK, tM, tR, tB', tA, yS, yM, yR, yB)) :
    ∃ f, wY_splice_337 post (nI pos) (nI del) (nI n) (nI cap) (nI Q) (nI A) (nI Z) (nI L) (nI (e + 1)) (nI T) (nI c) f 0 0 ed kd nx so tx nt tS tE tK tM tR tB tA yS yM yR yB := by
  refine pk_loop (fun f i s => wY_splice_337 post (nI pos) (nI del) (nI n) (nI cap) (nI Q) (nI A) (nI Z) (nI L) (nI (e + 1)) (nI T) (nI c) f (nI (rb_fr (e + 1) (fun i => rb_bn c S M R B pos del n e (S' i) (M' i)) i)) (nI i) ed kd nx so tx nt tS tE tK tM tR s tA yS yM yR yB)
    (fun i s => ∀ j, j < i → s j = nI (rb_bn c S M R B pos del n e (S' j) (M' j))) T 0 tB (Nat.zero_le _) lt_0 ?_ ?_
  · intro f s h
    exact pk_le T T (fun _ => hp s h) (fun z => absurd z (by omega))
  · intro f i s hi h hw
    obtain ⟨n1, n2, n3, n4⟩ := hn i hi
    have hI : ∀ j, j < i + 1 → upd s i (nI (rb_bn c S M R B pos del n e (S' i) (M' i))) j = nI (rb_bn c S M R B pos del n e (S' j) (M' j)) := by
      intro j hj
      by_cases ej : j = i
      · rw [ej, pk_us]
      · rw [pk_un ej]
        exact h j (by omega)
    have w := hw _ hI
    refine pk_le T i (fun z => absurd z (by omega)) (fun _ => ⟨pk_in i 64 (by omega), nm_r (rb_rd rfl (by omega) n1) (rb_y361 hS hc (by omega) n3 n4 hpn ho n2 (fun z => ?_) (fun z => ?_))⟩)
    · rw [rb_fr_t (b := fun i => rb_bn c S M R B pos del n e (S' i) (M' i)) (i := i) z] at w
      exact w
    · rw [rb_fr_f (b := fun i => rb_bn c S M R B pos del n e (S' i) (M' i)) (i := i) z] at w
      exact w
theorem rb_y133 {post : Int32 → SY → Prop} {x1 x2 x3 x4 x5 : Int32} (hT : T ≤ 64)
    (hp : ∀ yS' yM' yR' yB', (∀ j, j < T → yS' j = tS j ∧ yM' j = tM j ∧ yR' j = tR j ∧ yB' j = tB j) → ∃ f, wY_splice_207 post x1 x2 x3 x4 x5 (nI cap) (nI Q) (nI A) (nI Z) (nI L) (nI e) (nI T) oc f 0 ed kd nx so tx nt tS tE tK tM tR tB tA yS' yM' yR' yB') :
    ∃ f, wY_splice_133 post x1 x2 x3 x4 x5 (nI cap) (nI Q) (nI A) (nI Z) (nI L) (nI e) (nI T) oc f 0 ed kd nx so tx nt tS tE tK tM tR tB tA yS yM yR yB := by
  refine pk_loop (fun f i (w : (Nat → Int32) × (Nat → Int32) × (Nat → Int32) × (Nat → Int32)) => wY_splice_133 post x1 x2 x3 x4 x5 (nI cap) (nI Q) (nI A) (nI Z) (nI L) (nI e) (nI T) oc f (nI i) ed kd nx so tx nt tS tE tK tM tR tB tA w.1 w.2.1 w.2.2.1 w.2.2.2)
    (fun i w => ∀ j, j < i → w.1 j = tS j ∧ w.2.1 j = tM j ∧ w.2.2.1 j = tR j ∧ w.2.2.2 j = tB j) T 0 (yS, yM, yR, yB) (Nat.zero_le _) lt_0 ?_ ?_
  · intro f w h
    exact pk_le T T (fun _ => hp _ _ _ _ h) (fun z => absurd z (by omega))
  · intro f i w hi h hw
    have hi' : i < 2 ^ 31 := by omega
    have hv : vp_in (nI i) 64 := pk_in i 64 (by omega)
    refine pk_le T i (fun z => absurd z (by omega)) (fun _ => ⟨hv, hv, nm_r (rb_ucl rfl hi' (rb_rcl rfl hi')) ⟨hv, hv, nm_r (rb_ucl rfl hi' (rb_rcl rfl hi')) ⟨hv, hv, nm_r (rb_ucl rfl hi' (rb_rcl rfl hi')) ⟨hv, hv, nm_r (rb_ucl rfl hi' (rb_rcl rfl hi')) (nm_r (nI_1 i) ?_)⟩⟩⟩⟩)
    refine hw (upd w.1 i (tS i), upd w.2.1 i (tM i), upd w.2.2.1 i (tR i), upd w.2.2.2 i (tB i)) ?_
    intro j hj
    dsimp only
    by_cases ej : j = i
    · rw [ej, pk_us, pk_us, pk_us, pk_us]
      exact ⟨rfl, rfl, rfl, rfl⟩
    · rw [pk_un ej, pk_un ej, pk_un ej, pk_un ej]
      exact h j (by omega)
theorem rb_y207 {post : Int32 → SY → Prop} {pos del n : Nat} {pk : Int32} (hd : pos + del ≤ L) (hL : L ≤ 64) (hn : L - del + n ≤ 64)
    (hp : ∀ nt', (∀ j, j < L - del + n → nt' j = rb_nt tx (rb_sy pk) L pos del n j) → ∃ f, wY_splice_294 post (nI pos) (nI del) (nI n) (nI (L - del + n)) (nI cap) (nI Q) (nI A) (nI Z) (nI L) (nI e) (nI T) oc f 0 ed kd nx so tx nt' tS tE tK tM tR tB tA yS yM yR yB) :
    ∃ f, wY_splice_207 post (nI pos) (nI del) (nI n) pk (nI (L - del + n)) (nI cap) (nI Q) (nI A) (nI Z) (nI L) (nI e) (nI T) oc f 0 ed kd nx so tx nt tS tE tK tM tR tB tA yS yM yR yB := by
  refine pk_loop (fun f i s => wY_splice_207 post (nI pos) (nI del) (nI n) pk (nI (L - del + n)) (nI cap) (nI Q) (nI A) (nI Z) (nI L) (nI e) (nI T) oc f (nI i) ed kd nx so tx s tS tE tK tM tR tB tA yS yM yR yB) (fun i s => ∀ j, j < i → s j = rb_nt tx (rb_sy pk) L pos del n j) (L - del + n) 0 nt (Nat.zero_le _) lt_0 ?_ ?_
  · intro f s h
    exact pk_le (L - del + n) (L - del + n) (fun _ => hp s h) (fun z => absurd z (by omega))
  · intro f i s hi h hw
    have hi' : i < 2 ^ 31 := by omega
    have hv : vp_in (nI i) 64 := pk_in i 64 (by omega)
    have hI : ∀ j, j < i + 1 → upd s i (rb_nt tx (rb_sy pk) L pos del n i) j = rb_nt tx (rb_sy pk) L pos del n j := by
      intro j hj
      by_cases ej : j = i
      · rw [ej, pk_us]
      · rw [pk_un ej]
        exact h j (by omega)
    have w := hw _ hI
    refine pk_le (L - del + n) i (fun z => absurd z (by omega)) (fun _ => pk_le pos i (fun h1 => pk_le (pos + n) i (fun h2 => ?_) (fun h2 => ?_) (nI_add pos n) rfl) (fun h1 => ?_))
    · have ep : nI i - nI n + nI del = nI (i + del - n) := by rw [pk_sub (by omega), nI_add]; exact congrArg nI (by omega)
      exact ⟨pk_in (i + del - n) 64 (by omega) ep, hv, nm_r (rb_ucl rfl hi' (rb_rd ep (by omega) (rb_nt_3 h2 hi).symm)) (nm_r (nI_1 i) w)⟩
    · have es : nI i - nI pos = nI (i - pos) := pk_sub h1
      refine ⟨hv, nm_r (rb_ucl rfl hi' ?_) (nm_r (nI_1 i) w)⟩
      rw [es, rb_nt_2 h1 h2]
      rfl
    · exact ⟨hv, hv, nm_r (rb_ucl rfl hi' (rb_rd rfl hi' (rb_nt_1 h1).symm)) (nm_r (nI_1 i) w)⟩
theorem rb_y294 {post : Int32 → SY → Prop} {x1 x2 x3 : Int32} {pos del n : Nat} {sy : Nat → Int32} (hd : pos + del ≤ L) (hL : L ≤ 64) (hn : L - del + n ≤ 64) (hnt : ∀ j, j < L - del + n → nt j = rb_nt tx sy L pos del n j)
    (hp : wpY_cutAll (fun u => match u with | (c1, c2, c3, c4, c5, c6, c7, c8, b1, b2, b3, b4, b5, b6, b7, b8, b9, b10, b11, b12, b13, b14, b15, b16, b17) => ∃ f, wY_splice_337 post x1 x2 x3 c1 c2 c3 c4 c5 c6 c7 c8 f 0 0 b1 b2 b3 b4 b5 b6 b7 b8 b9 b10 b11 b12 b13 b14 b15 b16 b17) (nI cap, nI Q, nI A, nI Z, nI (L - del + n), nI e, nI T, oc, ed, kd, nx, so, rb_nt tx sy L pos del n, nt, tS, tE, tK, tM, tR, tB, tA, yS, yM, yR, yB)) :
    ∃ f, wY_splice_294 post x1 x2 x3 (nI (L - del + n)) (nI cap) (nI Q) (nI A) (nI Z) (nI L) (nI e) (nI T) oc f 0 ed kd nx so tx nt tS tE tK tM tR tB tA yS yM yR yB := by
  have G := pk_loop (fun f i (_ : Unit) => wY_splice_294 post x1 x2 x3 (nI (L - del + n)) (nI cap) (nI Q) (nI A) (nI Z) (nI L) (nI e) (nI T) oc f (nI i) ed kd nx so (rb_y2 (rb_nt tx sy L pos del n) tx i) nt tS tE tK tM tR tB tA yS yM yR yB) (fun _ _ => True) (L - del + n) 0 () (Nat.zero_le _) trivial ?_ ?_
  · rw [rb_y2_0] at G
    exact G
  · intro f _ _
    refine pk_le (L - del + n) (L - del + n) (fun _ => ?_) (fun z => absurd z (by omega))
    rw [rb_y2_e hd]
    exact hp
  · intro f i _ hi _ hw
    have w := hw () trivial
    rw [← rb_y2_s] at w
    have hv : vp_in (nI i) 64 := pk_in i 64 (by omega)
    exact pk_le (L - del + n) i (fun z => absurd z (by omega)) (fun _ => ⟨hv, hv, nm_r (rb_ucl rfl (by omega) (rb_rd rfl (by omega) (hnt i hi))) (nm_r (nI_1 i) w)⟩)
theorem rb_y90 {post : Int32 → SY → Prop} {pos del n T' : Nat} {pk : Int32} {S M B S' M' : Nat → Nat} {K : Nat → Int32} {lk : Nat → Nat} (hL : L ≤ cap) (hcap : cap ≤ 64) (hZ : Z ≤ 4) (he : e + 1 < 2 ^ 31)
    (E' : rb_Env ed nx so (rb_nt tx (rb_sy pk) L pos del n) A (L - del + n) Q Z) (hs : rb_Seq ed kd nx so (rb_nt tx (rb_sy pk) L pos del n) A (L - del + n) Z T' S' M' K lk) (hl : rb_Lst T L Z e tS tE tM tB S M B)
    (hd : pos + del ≤ L) (hn : n ≤ 8) (hc : L - del + n ≤ cap)
    (hp : ∀ nt' tS' tE' tK' tM' tR' tB' tA' yS' yM' yR' yB', rb_CutY S' M' K lk T' tS' tE' tK' tM' tR' tA' → (∀ i, i < T' → tB' i = nI (rb_bn T S M tR B pos del n e (S' i) (M' i))) →
      post (nI (rb_fr (e + 1) (fun i => rb_bn T S M tR B pos del n e (S' i) (M' i)) T')) (nI cap, nI Q, nI A, nI Z, nI (L - del + n), nI (e + 1), nI T', nI T, ed, kd, nx, so, rb_nt tx (rb_sy pk) L pos del n, nt', tS', tE', tK', tM', tR', tB', tA', yS', yM', yR', yB')) :
    wY_splice_90 post (nI pos) (nI del) (nI n) pk (nI cap) (nI Q) (nI A) (nI Z) (nI L) (nI e) (nI T) oc ed kd nx so tx nt tS tE tK tM tR tB tA yS yM yR yB := by
  have hT : T ≤ L := rb_Lst_T hl
  have hSL := fun i (hi : i < T) => rb_Lst_S hl hi
  obtain ⟨l1, l2, l3, l4⟩ := hl
  have hs' := hs
  obtain ⟨s1, s2, s3, s4, s5, s6⟩ := hs'
  refine nm_r (show nI L - nI del + nI n = nI (L - del + n) by rw [pk_sub (by omega), nI_add]) (pk_le (L - del + n) cap (fun _ => nm_r (nI_1 e) ?_) (fun z => absurd z (by omega)))
  refine rb_y133 (by omega) (fun yS' yM' yR' yB' ho => rb_y207 hd (by omega) (by omega) (fun nt' hnt => rb_y294 hd (by omega) (by omega) hnt (rb_ycut E' hs (fun tS' tE' tK' tM' tR' tA' hC => ?_))))
  refine rb_y337 (S := S) (M := M) (B := B) (S' := S') (M' := M') (R := tR) (rb_ch_in l3) (by omega) (by omega) (by omega) (fun j hj => ?_) (fun i hi => ?_) (fun tB' hB => hp _ _ _ _ _ _ _ _ _ _ _ _ hC hB)
  · obtain ⟨o1, o2, o3, o4⟩ := ho j hj
    obtain ⟨p1, p2, p3, p4, p5, p6⟩ := l4 j hj
    have p7 := hSL j hj
    exact ⟨o1.trans p1, o2.trans p3, o3, o4.trans p4, by omega, by omega, p6⟩
  · obtain ⟨o1, o2, o3, o4, o5, o6⟩ := hC i hi
    obtain ⟨p1, p2, p3, p4⟩ := s6 i hi
    exact ⟨o1, o4, by omega, by omega⟩
end
end
section
/-! splice, both sides -/
section
variable {cap Q A Z L T e : Nat} {me oc : Int32} {ed kd nx so tx tl tok xM xR xB nt tS tE tK tM tR tB tA yS yM yR yB : Nat → Int32}
theorem rb_x68 {post : Int32 → SX → Prop} {pos del n T' : Nat} {pk : Int32} {S M B S' M' : Nat → Nat} {K : Nat → Int32} {lk : Nat → Nat} (hL : L ≤ cap) (hcap : cap ≤ 64) (hZ : Z ≤ 4) (he : e + 1 < 2 ^ 31)
    (E' : rb_Env ed nx so (rb_nt tx (rb_sy pk) L pos del n) A (L - del + n) Q Z) (hs : rb_Seq ed kd nx so (rb_nt tx (rb_sy pk) L pos del n) A (L - del + n) Z T' S' M' K lk) (ht : rb_Tok T tok tS tE tK tM tR tB) (hl : rb_Lst T L Z e tS tE tM tB S M B)
    (hd : pos + del ≤ L) (hn : n ≤ 8) (hc : L - del + n ≤ cap)
    (hp : ∀ tl' tok' xM' xR' xB', rb_Cut S' M' K lk T' tok' → (∀ i, i < T' → tok' (i * 6 + 5) = nI (rb_bn T S M tR B pos del n e (S' i) (M' i))) →
      post (nI (rb_fr (e + 1) (fun i => rb_bn T S M tR B pos del n e (S' i) (M' i)) T')) (nI cap, nI Q, nI A, nI Z, nI (L - del + n), nI T', nI (M' T'), nI (e + 1), ed, kd, nx, so, rb_nt tx (rb_sy pk) L pos del n, tl', tok', xM', xR', xB')) :
    wX_splice_68 post (nI pos) (nI del) (nI n) pk (nI cap) (nI Q) (nI A) (nI Z) (nI L) (nI T) me (nI e) ed kd nx so tx tl tok xM xR xB := by
  have hT : T ≤ L := rb_Lst_T hl
  have hSL := fun i (hi : i < T) => rb_Lst_S hl hi
  obtain ⟨l1, l2, l3, l4⟩ := hl
  have hs' := hs
  obtain ⟨s1, s2, s3, s4, s5, s6⟩ := hs'
  refine pk_le (L - del + n) cap (fun _ => ?_) (fun z => absurd z (by omega)) (by rw [pk_sub (by omega), nI_add]) rfl
  refine rb_xrem (S := S) (M := M) (B := B) (R := tR) (by omega) (fun i hi => ?_) (rb_ch_in l3) (fun xM' xR' xB' O => rb_xrep hd (by omega) (by omega) (fun tl' => rb_xcut E' hs (fun tok' hC => nm_r (nI_1 e) ?_)))
  · obtain ⟨o1, o2, o3, o4, o5, o6⟩ := ht i hi
    obtain ⟨p1, p2, p3, p4, p5, p6⟩ := l4 i hi
    have p7 := hSL i hi
    exact ⟨o1.trans p1, o4.trans p3, o5, o6.trans p4, by omega⟩
  · refine rb_xset (S' := S') (M' := M') O (rb_ch_in l3) (fun j hj => ?_) (fun j hj => (l4 j hj).2.2.2.2.2) he (by omega) (by omega) (fun i hi => ?_) (fun tok'' g1 g2 => hp _ _ _ _ _ (fun j hj => ?_) g2)
    · have p5 := (l4 j hj).2.2.2.2.1
      omega
    · obtain ⟨o1, o2, o3, o4, o5⟩ := hC i hi
      obtain ⟨p1, p2, p3, p4⟩ := s6 i hi
      exact ⟨o1, o4, by omega, by omega, by omega⟩
    · have q0 : tok'' (j * 6) = tok' (j * 6) := g1 j hj 0 (by omega)
      rw [q0, g1 j hj 1 (by omega), g1 j hj 2 (by omega), g1 j hj 3 (by omega), g1 j hj 4 (by omega)]
      exact hC j hj
theorem rb_xas {post : Int32 → Prop} {n : Nat} {pk : Int32} (hA : A ≤ 8) (hn : n ≤ 8) (h1 : (∀ k, k < n → ∃ c, c < A ∧ rb_sy pk k = nI c) → post 1) (h2 : (∃ k, k < n ∧ ¬ rb_sy pk k < nI A) → post 0) : wpX_areSymbols post (nI cap, nI Q, nI A, nI Z, nI L, nI T, me, nI e, ed, kd, nx, so, tx, tl, tok, xM, xR, xB) (nI n) pk := by
  refine pk_loop (σ := Unit) (fun f k _ => wX_areSymbols_2 post (nI n) pk (nI cap) (nI Q) (nI A) (nI Z) (nI L) (nI T) me (nI e) ed kd nx so tx tl tok xM xR xB f (nI k)) (fun k _ => ∀ j, j < k → ∃ c, c < A ∧ rb_sy pk j = nI c) n 0 () (Nat.zero_le _) lt_0 ?_ ?_
  · intro f _ h
    exact pk_le n n (fun _ => h1 h) (fun z => absurd z (by omega))
  · intro f k _ hk h hw
    obtain ⟨c, hc, ec⟩ := rb_sy_in pk k
    refine pk_le n k (fun z => absurd z (by omega)) (fun _ => ?_)
    have G : wpX_isSymbol (fun r_3 => (((r_3 = 0 → (post 0)) ∧ (¬ r_3 = 0 → (∀ x3_23 : Int32, x3_23 = nI k + 1 → (wX_areSymbols_2 post (nI n) pk (nI cap) (nI Q) (nI A) (nI Z) (nI L) (nI T) me (nI e) ed kd nx so tx tl tok xM xR xB f x3_23)))))) (nI cap, nI Q, nI A, nI Z, nI L, nI T, me, nI e, ed, kd, nx, so, tx, tl, tok, xM, xR, xB) (rb_sy pk k) := by
      rw [ec]
      refine br_f (nI_pos (by omega)) (pk_le A c (fun z => br_t rfl (h2 ⟨k, hk, ?_⟩)) (fun z => br_f (by decide) (nm_r (nI_1 k) (hw () (lt_s h ⟨c, z, ec⟩)))))
      rw [ec]
      exact nI_nlt z (by omega)
    exact G
theorem rb_y48 {post : Int32 → SY → Prop} {n : Nat} {x1 x2 pk : Int32} (hA : A ≤ 8) (hn : n ≤ 8)
    (h1 : (∀ k, k < n → ∃ c, c < A ∧ rb_sy pk k = nI c) → (((x2 = 0 → (((nI n = 0 → (post 0 (nI cap, nI Q, nI A, nI Z, nI L, nI e, nI T, oc, ed, kd, nx, so, tx, nt, tS, tE, tK, tM, tR, tB, tA, yS, yM, yR, yB))) ∧ (¬ nI n = 0 → (wY_splice_90 post x1 x2 (nI n) pk (nI cap) (nI Q) (nI A) (nI Z) (nI L) (nI e) (nI T) oc ed kd nx so tx nt tS tE tK tM tR tB tA yS yM yR yB))))) ∧ (¬ x2 = 0 → (wY_splice_90 post x1 x2 (nI n) pk (nI cap) (nI Q) (nI A) (nI Z) (nI L) (nI e) (nI T) oc ed kd nx so tx nt tS tE tK tM tR tB tA yS yM yR yB)))))
    (h2 : (∃ k, k < n ∧ ¬ rb_sy pk k < nI A) → post (-2) (nI cap, nI Q, nI A, nI Z, nI L, nI e, nI T, oc, ed, kd, nx, so, tx, nt, tS, tE, tK, tM, tR, tB, tA, yS, yM, yR, yB)) : ∃ f, wY_splice_48 post x1 x2 (nI n) pk (nI cap) (nI Q) (nI A) (nI Z) (nI L) (nI e) (nI T) oc ed kd nx so tx nt tS tE tK tM tR tB tA yS yM yR yB f 0 := by
  refine pk_loop (σ := Unit) (fun f k _ => wY_splice_48 post x1 x2 (nI n) pk (nI cap) (nI Q) (nI A) (nI Z) (nI L) (nI e) (nI T) oc ed kd nx so tx nt tS tE tK tM tR tB tA yS yM yR yB f (nI k)) (fun k _ => ∀ j, j < k → ∃ c, c < A ∧ rb_sy pk j = nI c) n 0 () (Nat.zero_le _) lt_0 ?_ ?_
  · intro f _ h
    exact pk_le n n (fun _ => h1 h) (fun z => absurd z (by omega))
  · intro f k _ hk h hw
    obtain ⟨c, hc, ec⟩ := rb_sy_in pk k
    refine pk_le n k (fun z => absurd z (by omega)) (fun _ => ?_)
    have G : (rb_sy pk k < nI A → (∀ x5_101 : Int32, x5_101 = nI k + 1 → (wY_splice_48 post x1 x2 (nI n) pk (nI cap) (nI Q) (nI A) (nI Z) (nI L) (nI e) (nI T) oc ed kd nx so tx nt tS tE tK tM tR tB tA yS yM yR yB f x5_101))) ∧ (¬ rb_sy pk k < nI A → (post (-2) (nI cap, nI Q, nI A, nI Z, nI L, nI e, nI T, oc, ed, kd, nx, so, tx, nt, tS, tE, tK, tM, tR, tB, tA, yS, yM, yR, yB))) := by
      refine br_c (fun z => ?_) (fun z => h2 ⟨k, hk, z⟩)
      rw [ec, nI_ltI (by omega) (by omega)] at z
      exact nm_r (nI_1 k) (hw () (lt_s h ⟨c, z, ec⟩))
    exact G
end
theorem i_vc_splice {k : Nat} {u : SX} {v : SY} (I : i_Rel k u v) (hk : k + 5 ≤ 2564) (v1 : Int32) (v2 : Int32) (v3 : Int32) (v4 : Int32) : wpX_splice (fun r u' => wpY_splice (fun r' v' => r' = r ∧ i_Rel (k + 5) u' v') v v1 v2 v3 v4) u v1 v2 v3 v4 := by
  obtain ⟨cap, Q, A, Z, L, T, e, me, oc, ed, kd, nx, so, tx, tl, tok, xM, xR, xB, nt, tS, tE, tK, tM, tR, tB, tA, yS, yM, yR, yB, S, M, B, rfl, rfl, h⟩ := I
  have J : i_Rel (k + 5) (nI cap, nI Q, nI A, nI Z, nI L, nI T, me, nI e, ed, kd, nx, so, tx, tl, tok, xM, xR, xB) (nI cap, nI Q, nI A, nI Z, nI L, nI e, nI T, oc, ed, kd, nx, so, tx, nt, tS, tE, tK, tM, tR, tB, tA, yS, yM, yR, yB) := rb_mk (rb_C_up h)
  obtain ⟨⟨c1, c2, c3, c4, c5, c6, c7⟩, E, ht, hl, hm0, hm1⟩ := h
  have E' := E
  obtain ⟨E1, E2, E3, E4, E5, E6, E7, E8⟩ := E'
  by_cases a1 : v1 < 0
  · exact br_t a1 (br_t a1 ⟨rfl, J⟩)
  by_cases a2 : v1 ≤ nI L
  rotate_left
  · exact br_f a1 (br_f a2 (br_f a1 (br_f a2 ⟨rfl, J⟩)))
  by_cases a3 : v2 < 0
  · exact br_f a1 (br_t a2 (br_t a3 (br_f a1 (br_t a2 (br_t a3 ⟨rfl, J⟩)))))
  by_cases a4 : v2 ≤ nI L - v1
  rotate_left
  · exact br_f a1 (br_t a2 (br_f a3 (br_f a4 (br_f a1 (br_t a2 (br_f a3 (br_f a4 ⟨rfl, J⟩)))))))
  by_cases a5 : v3 < 0
  · exact br_f a1 (br_t a2 (br_f a3 (br_t a4 (br_t a5 (br_f a1 (br_t a2 (br_f a3 (br_t a4 (br_t a5 ⟨rfl, J⟩)))))))))
  by_cases a6 : v3 ≤ 8
  rotate_left
  · exact br_f a1 (br_t a2 (br_f a3 (br_t a4 (br_f a5 (br_f a6 (br_f a1 (br_t a2 (br_f a3 (br_t a4 (br_f a5 (br_f a6 ⟨rfl, J⟩)))))))))))
  obtain ⟨pos, hpos, rfl⟩ := nI_of a1
  obtain ⟨del, hdel, rfl⟩ := nI_of a3
  obtain ⟨n, hn', rfl⟩ := nI_of a5
  have hp : pos ≤ L := (nI_leI hpos (by omega)).mp a2
  have a4' := a4
  rw [pk_sub hp] at a4'
  have hd' : del ≤ L - pos := (nI_leI hdel (by omega)).mp a4'
  have hd : pos + del ≤ L := by omega
  have hn : n ≤ 8 := (nI_leI (b := 8) hn' (by omega)).mp a6
  have YW : ∀ post : Int32 → SY → Prop, ((∀ k, k < n → ∃ c, c < A ∧ rb_sy v4 k = nI c) → (((nI del = 0 → (((nI n = 0 → (post 0 (nI cap, nI Q, nI A, nI Z, nI L, nI e, nI T, oc, ed, kd, nx, so, tx, nt, tS, tE, tK, tM, tR, tB, tA, yS, yM, yR, yB))) ∧ (¬ nI n = 0 → (wY_splice_90 post (nI pos) (nI del) (nI n) v4 (nI cap) (nI Q) (nI A) (nI Z) (nI L) (nI e) (nI T) oc ed kd nx so tx nt tS tE tK tM tR tB tA yS yM yR yB))))) ∧ (¬ nI del = 0 → (wY_splice_90 post (nI pos) (nI del) (nI n) v4 (nI cap) (nI Q) (nI A) (nI Z) (nI L) (nI e) (nI T) oc ed kd nx so tx nt tS tE tK tM tR tB tA yS yM yR yB))))) →
      ((∃ k, k < n ∧ ¬ rb_sy v4 k < nI A) → post (-2) (nI cap, nI Q, nI A, nI Z, nI L, nI e, nI T, oc, ed, kd, nx, so, tx, nt, tS, tE, tK, tM, tR, tB, tA, yS, yM, yR, yB)) → wpY_splice post (nI cap, nI Q, nI A, nI Z, nI L, nI e, nI T, oc, ed, kd, nx, so, tx, nt, tS, tE, tK, tM, tR, tB, tA, yS, yM, yR, yB) (nI pos) (nI del) (nI n) v4 :=
    fun post h1 h2 => br_f a1 (br_t a2 (br_f a3 (br_t a4 (br_f a5 (br_t a6 (rb_y48 E1 hn h1 h2))))))
  have bad : ∀ k, k < n → ¬ rb_sy v4 k < nI A → (∀ k, k < n → ∃ c, c < A ∧ rb_sy v4 k = nI c) → False := by
    intro j hj z hall
    obtain ⟨c, hc, ec⟩ := hall j hj
    exact z (by rw [ec]; exact nI_lt hc (by omega))
  refine br_f a1 (br_t a2 (br_f a3 (br_t a4 (br_f a5 (br_t a6 (rb_xas E1 hn (fun hsy => br_f (by decide) ?_) (fun hsy => br_t rfl ?_)))))))
  · have X68 : ¬ (del = 0 ∧ n = 0) → wX_splice_68 (fun r u' => wpY_splice (fun r' v' => r' = r ∧ i_Rel (k + 5) u' v') (nI cap, nI Q, nI A, nI Z, nI L, nI e, nI T, oc, ed, kd, nx, so, tx, nt, tS, tE, tK, tM, tR, tB, tA, yS, yM, yR, yB) (nI pos) (nI del) (nI n) v4) (nI pos) (nI del) (nI n) v4 (nI cap) (nI Q) (nI A) (nI Z) (nI L) (nI T) me (nI e) ed kd nx so tx tl tok xM xR xB := by
      intro hne
      have hz : ∀ {P R : Prop}, R → ((nI del = 0 → ((nI n = 0 → P) ∧ (¬ nI n = 0 → R))) ∧ (¬ nI del = 0 → R)) := fun r => pk_eq del 0 (fun z1 => pk_eq n 0 (fun z2 => absurd ⟨z1, z2⟩ hne) (fun _ => r)) (fun _ => r)
      by_cases hc : L - del + n ≤ cap
      · have E'' : rb_Env ed nx so (rb_nt tx (rb_sy v4) L pos del n) A (L - del + n) Q Z := ⟨E1, E2, E3, by omega, E5, E6, E7, rb_nt_in hd E8 hsy⟩
        obtain ⟨T', S', M', K, lk, hs⟩ := rb_Seq_ex (kd := kd) E'' (by omega)
        have hs' := hs
        obtain ⟨s1, s2, s3, s4, s5, s6⟩ := hs'
        refine rb_x68 c6 c2 E3 (by omega) E'' hs ht hl hd hn hc (fun tl' tok' xM' xR' xB' hC hB => YW _ (fun _ => hz (rb_y90 c6 c2 E3 (by omega) E'' hs hl hd hn hc (fun nt' tS' tE' tK' tM' tR' tB' tA' yS' yM' yR' yB' hC' hB' => ⟨rfl, rb_mk (S := S') (M := M') (B := fun i => rb_bn T S M tR B pos del n e (S' i) (M' i)) ⟨⟨c1, c2, c3, c4, c5, hc, by omega⟩, E'', ?_, ⟨s1, s4, fun i hi => (s6 i hi).2.2.1, ?_⟩, ?_, ?_⟩⟩))) (fun hb => ?_))
        · intro i hi
          obtain ⟨x1, x2, x3, x4, x5⟩ := hC i hi
          obtain ⟨y1, y2, y3, y4, y5, y6⟩ := hC' i hi
          exact ⟨x1.trans y1.symm, x2.trans y2.symm, x3.trans y3.symm, x4.trans y4.symm, x5.trans y5.symm, (hB i hi).trans (hB' i hi).symm⟩
        · intro i hi
          obtain ⟨y1, y2, y3, y4, y5, y6⟩ := hC' i hi
          exact ⟨y1, y2, y4, hB' i hi, (s6 i hi).2.1, rb_bn_le (fun j hj => (hl.2.2.2 j hj).2.2.2.2.2)⟩
        · intro z
          rw [z, s2]
          rfl
        · intro i z
          have y6 := (hC' i (by omega)).2.2.2.2.2
          rw [y6, z]
        · obtain ⟨j, hj, z⟩ := hb
          exact absurd hsy (fun hall => bad j hj z hall)
      · have ef : nI L - nI del + nI n = nI (L - del + n) := by rw [pk_sub (by omega), nI_add]
        have hf : ¬ nI L - nI del + nI n ≤ nI cap := by rw [ef]; exact nI_ge (by omega) (by omega)
        refine br_f hf (YW _ (fun _ => hz (nm_e (br_f hf ⟨rfl, J⟩))) (fun hb => ?_))
        obtain ⟨j, hj, z⟩ := hb
        exact absurd hsy (fun hall => bad j hj z hall)
    refine pk_eq del 0 (fun z1 => pk_eq n 0 (fun z2 => ?_) (fun z2 => X68 (fun z => z2 z.2))) (fun z1 => X68 (fun z => z1 z.1))
    subst z1 z2
    refine YW _ (fun _ => br_t rfl (br_t rfl ⟨rfl, J⟩)) (fun hb => ?_)
    obtain ⟨j, hj, z⟩ := hb
    omega
  · refine YW _ (fun hall => ?_) (fun _ => ⟨rfl, J⟩)
    obtain ⟨j, hj, z⟩ := hsy
    exact absurd hall (fun hall => bad j hj z hall)
end
section
/-! the constructor and the tables -/
theorem rb_cl (p : Int32) (lo hi : Nat) (h : lo ≤ hi) (hh : hi < 2 ^ 31) : ∃ c, lo ≤ c ∧ c ≤ hi ∧ ∀ W : Int32 → Prop, W (nI c) → ((nI lo ≤ p → ((p ≤ nI hi → W p) ∧ (¬ p ≤ nI hi → W (nI hi)))) ∧ (¬ nI lo ≤ p → W (nI lo))) := by
  by_cases h1 : nI lo ≤ p
  · by_cases h2 : p ≤ nI hi
    · have h0 : ¬ p < 0 := Int32.not_lt.mpr (Int32.le_trans (nI_pos' (by omega)) h1)
      obtain ⟨c, hc, rfl⟩ := nI_of h0
      exact ⟨c, (nI_leI (by omega) hc).mp h1, (nI_leI hc hh).mp h2, fun W w => br_t h1 (br_t h2 w)⟩
    · exact ⟨hi, h, Nat.le_refl _, fun W w => br_t h1 (br_f h2 w)⟩
  · exact ⟨lo, Nat.le_refl _, h, fun W w => br_f h1 w⟩
def rb_fl (k : Nat) : Nat → Int32 := rb_y2 (fun _ => -1) (fun _ => 0) k
theorem rb_fl_in {k : Nat} (i : Nat) {Q : Nat} (hQ : 0 < Q) : rb_fl k i = -1 ∨ ∃ j, j < Q ∧ rb_fl k i = nI j := by
  unfold rb_fl rb_y2
  by_cases h : i < k
  · rw [if_pos h]; exact Or.inl rfl
  · rw [if_neg h]; exact Or.inr ⟨0, hQ, rfl⟩
theorem rb_xini {post : SX → Prop} {x1 x2 x3 x4 : Int32} (hp : post (x1, x2, x3, x4, 0, 0, 0, 0, rb_fl 128, (fun _ => 0), rb_fl 16, (fun _ => 0), (fun _ => 0), (fun _ => 0), (fun _ => 0), (fun _ => 0), (fun _ => 0), (fun _ => 0))) :
    ∃ f, wX_init_153 post x1 x2 x3 x4 0 0 0 0 f 0 (fun _ => 0) (fun _ => 0) (fun _ => 0) (fun _ => 0) (fun _ => 0) (fun _ => 0) (fun _ => 0) (fun _ => 0) (fun _ => 0) (fun _ => 0) := by
  have G := pk_loop (fun f i (_ : Unit) => wX_init_153 post x1 x2 x3 x4 0 0 0 0 f (nI i) (rb_y2 (fun _ => -1) (fun _ => 0) i) (fun _ => 0) (fun _ => 0) (fun _ => 0) (fun _ => 0) (fun _ => 0) (fun _ => 0) (fun _ => 0) (fun _ => 0) (fun _ => 0)) (fun _ _ => True) 128 0 () (Nat.zero_le _) trivial ?_ ?_
  · rw [rb_y2_0] at G
    exact G
  · intro f _ _
    refine pk_le 128 128 (fun _ => ?_) (fun z => absurd z (by omega))
    have G := pk_loop (fun f i (_ : Unit) => wX_init_178 post x1 x2 x3 x4 0 0 0 0 f (nI i) (rb_fl 128) (fun _ => 0) (rb_y2 (fun _ => -1) (fun _ => 0) i) (fun _ => 0) (fun _ => 0) (fun _ => 0) (fun _ => 0) (fun _ => 0) (fun _ => 0) (fun _ => 0)) (fun _ _ => True) 16 0 () (Nat.zero_le _) trivial ?_ ?_
    · rw [rb_y2_0] at G
      exact G
    · intro f _ _
      exact pk_le 16 16 (fun _ => hp) (fun z => absurd z (by omega))
    · intro f i _ hi _ hw
      have w := hw () trivial
      rw [← rb_y2_s] at w
      exact pk_le 16 i (fun z => absurd z (by omega)) (fun _ => ⟨pk_in i 16 hi, nm_r (rb_ucl rfl (by omega) rfl) (nm_r (nI_1 i) w)⟩)
  · intro f i _ hi _ hw
    have w := hw () trivial
    rw [← rb_y2_s] at w
    exact pk_le 128 i (fun z => absurd z (by omega)) (fun _ => ⟨pk_in i 128 hi, nm_r (rb_ucl rfl (by omega) rfl) (nm_r (nI_1 i) w)⟩)
theorem rb_yini {post : SY → Prop} {x1 x2 x3 x4 : Int32} (hp : post (x1, x2, x3, x4, 0, 0, 0, 0, rb_fl 128, (fun _ => 0), rb_fl 16, (fun _ => 0), (fun _ => 0), (fun _ => 0), (fun _ => 0), (fun _ => 0), (fun _ => 0), (fun _ => 0), (fun _ => 0), (fun _ => 0), (fun _ => 0), (fun _ => 0), (fun _ => 0), (fun _ => 0), (fun _ => 0))) :
    ∃ f, wY_init_246 post x1 x2 x3 x4 0 0 0 0 f 0 (fun _ => 0) (fun _ => 0) (fun _ => 0) (fun _ => 0) (fun _ => 0) (fun _ => 0) (fun _ => 0) (fun _ => 0) (fun _ => 0) (fun _ => 0) (fun _ => 0) (fun _ => 0) (fun _ => 0) (fun _ => 0) (fun _ => 0) (fun _ => 0) (fun _ => 0) := by
  have G := pk_loop (fun f i (_ : Unit) => wY_init_246 post x1 x2 x3 x4 0 0 0 0 f (nI i) (rb_y2 (fun _ => -1) (fun _ => 0) i) (fun _ => 0) (fun _ => 0) (fun _ => 0) (fun _ => 0) (fun _ => 0) (fun _ => 0) (fun _ => 0) (fun _ => 0) (fun _ => 0) (fun _ => 0) (fun _ => 0) (fun _ => 0) (fun _ => 0) (fun _ => 0) (fun _ => 0) (fun _ => 0)) (fun _ _ => True) 128 0 () (Nat.zero_le _) trivial ?_ ?_
  · rw [rb_y2_0] at G
    exact G
  · intro f _ _
    refine pk_le 128 128 (fun _ => ?_) (fun z => absurd z (by omega))
    have G := pk_loop (fun f i (_ : Unit) => wY_init_271 post x1 x2 x3 x4 0 0 0 0 f (nI i) (rb_fl 128) (fun _ => 0) (rb_y2 (fun _ => -1) (fun _ => 0) i) (fun _ => 0) (fun _ => 0) (fun _ => 0) (fun _ => 0) (fun _ => 0) (fun _ => 0) (fun _ => 0) (fun _ => 0) (fun _ => 0) (fun _ => 0) (fun _ => 0) (fun _ => 0) (fun _ => 0) (fun _ => 0)) (fun _ _ => True) 16 0 () (Nat.zero_le _) trivial ?_ ?_
    · rw [rb_y2_0] at G
      exact G
    · intro f _ _
      exact pk_le 16 16 (fun _ => hp) (fun z => absurd z (by omega))
    · intro f i _ hi _ hw
      have w := hw () trivial
      rw [← rb_y2_s] at w
      exact pk_le 16 i (fun z => absurd z (by omega)) (fun _ => ⟨pk_in i 16 hi, nm_r (rb_ucl rfl (by omega) rfl) (nm_r (nI_1 i) w)⟩)
  · intro f i _ hi _ hw
    have w := hw () trivial
    rw [← rb_y2_s] at w
    exact pk_le 128 i (fun z => absurd z (by omega)) (fun _ => ⟨pk_in i 128 hi, nm_r (rb_ucl rfl (by omega) rfl) (nm_r (nI_1 i) w)⟩)
theorem i_vc0 (k0 : Int32) (k1 : Int32) (k2 : Int32) (k3 : Int32) : wpX_init (fun u => wpY_init (fun v => i_Rel 4 u v) k0 k1 k2 k3) k0 k1 k2 k3 := by
  obtain ⟨cap, p1, p2, P⟩ := rb_cl k0 8 64 (by omega) (by omega)
  obtain ⟨Q, q1, q2, Q'⟩ := rb_cl k1 4 16 (by omega) (by omega)
  obtain ⟨A, a1, a2, A'⟩ := rb_cl k2 2 8 (by omega) (by omega)
  obtain ⟨Z, z1, z2, Z'⟩ := rb_cl k3 1 4 (by omega) (by omega)
  have J : i_Rel 4 (nI cap, nI Q, nI A, nI Z, 0, 0, 0, 0, rb_fl 128, (fun _ => 0), rb_fl 16, (fun _ => 0), (fun _ => 0), (fun _ => 0), (fun _ => 0), (fun _ => 0), (fun _ => 0), (fun _ => 0))
      (nI cap, nI Q, nI A, nI Z, 0, 0, 0, 0, rb_fl 128, (fun _ => 0), rb_fl 16, (fun _ => 0), (fun _ => 0), (fun _ => 0), (fun _ => 0), (fun _ => 0), (fun _ => 0), (fun _ => 0), (fun _ => 0), (fun _ => 0), (fun _ => 0), (fun _ => 0), (fun _ => 0), (fun _ => 0), (fun _ => 0)) :=
    rb_mk (L := 0) (T := 0) (e := 0) (S := fun _ => 0) (M := fun _ => 0) (B := fun _ => 0) ⟨⟨p1, p2, q1, a1, z1, Nat.zero_le _, Nat.zero_le _⟩, ⟨a2, q2, z2, by omega, fun i => rb_fl_in i (by omega), fun i => rb_fl_in i (by omega), fun i => ⟨0, by omega, rfl⟩, fun i hi => absurd hi (by omega)⟩,
      fun i hi => absurd hi (by omega), ⟨rfl, rfl, fun i hi => absurd hi (by omega), fun i hi => absurd hi (by omega)⟩, fun _ => rfl, fun i hi => absurd hi (by omega)⟩
  have P2 : ∀ W : Int32 → Prop, W (nI cap) → wpX_clamp W k0 8 64 := fun W w => P W w
  have Q2 : ∀ W : Int32 → Prop, W (nI Q) → wpX_clamp W k1 4 16 := fun W w => Q' W w
  have A2 : ∀ W : Int32 → Prop, W (nI A) → wpX_clamp W k2 2 8 := fun W w => A' W w
  have Z2 : ∀ W : Int32 → Prop, W (nI Z) → wpX_clamp W k3 1 4 := fun W w => Z' W w
  unfold wpX_init
  refine P2 _ ?_
  refine Q2 _ ?_
  refine A2 _ ?_
  refine Z2 _ ?_
  refine rb_xini ?_
  unfold wpY_init
  refine P (fun r => wY_init_164 _ k1 k2 k3 r 0 0 0 0 0 0 0 0 _ _ _ _ _ _ _ _ _ _ _ _ _ _ _ _ _) ?_
  refine Q' (fun r => wY_init_189 _ k2 k3 r (nI cap) 0 0 0 0 0 0 0 _ _ _ _ _ _ _ _ _ _ _ _ _ _ _ _ _) ?_
  refine A' (fun r => wY_init_214 _ k3 r (nI cap) (nI Q) 0 0 0 0 0 0 _ _ _ _ _ _ _ _ _ _ _ _ _ _ _ _ _) ?_
  refine Z' (fun r => ∃ f, wY_init_246 _ (nI cap) (nI Q) (nI A) r 0 0 0 0 f 0 _ _ _ _ _ _ _ _ _ _ _ _ _ _ _ _ _) ?_
  exact rb_yini J
section
variable {cap Q A Z L T e : Nat} {me oc : Int32} {ed kd nx so tx tl tok xM xR xB nt tS tE tK tM tR tB tA yS yM yR yB : Nat → Int32}
theorem rb_xst {post : Int32 → Prop} {p : Int32} (hQ : Q ≤ 16) (h0 : p < 0 → post 0) (h1 : ¬ p < 0 → nI Q ≤ p → post 0) (h2 : ∀ j, j < Q → p = nI j → post 1) : wpX_isState post (nI cap, nI Q, nI A, nI Z, nI L, nI T, me, nI e, ed, kd, nx, so, tx, tl, tok, xM, xR, xB) p :=
  br_c h0 (fun a => br_c (h1 a) (fun b => by
    obtain ⟨j, hj, rfl⟩ := nI_of a
    exact h2 j (by rw [nI_leI (by omega) hj] at b; omega) rfl))
theorem rb_xmo {post : Int32 → Prop} {p : Int32} (hZ : Z ≤ 4) (h0 : p < 0 → post 0) (h1 : ¬ p < 0 → nI Z ≤ p → post 0) (h2 : ∀ j, j < Z → p = nI j → post 1) : wpX_isMode post (nI cap, nI Q, nI A, nI Z, nI L, nI T, me, nI e, ed, kd, nx, so, tx, tl, tok, xM, xR, xB) p :=
  br_c h0 (fun a => br_c (h1 a) (fun b => by
    obtain ⟨j, hj, rfl⟩ := nI_of a
    exact h2 j (by rw [nI_leI (by omega) hj] at b; omega) rfl))
theorem rb_xsm {post : Int32 → Prop} {p : Int32} (hA : A ≤ 8) (h0 : p < 0 → post 0) (h1 : ¬ p < 0 → nI A ≤ p → post 0) (h2 : ∀ j, j < A → p = nI j → post 1) : wpX_isSymbol post (nI cap, nI Q, nI A, nI Z, nI L, nI T, me, nI e, ed, kd, nx, so, tx, tl, tok, xM, xR, xB) p :=
  br_c h0 (fun a => br_c (h1 a) (fun b => by
    obtain ⟨j, hj, rfl⟩ := nI_of a
    exact h2 j (by rw [nI_leI (by omega) hj] at b; omega) rfl))
end
/-- the edges after setEdges, symbol by symbol -/
def rb_se (ed : Nat → Int32) (s : Nat) (mask to : Int32) : Nat → Nat → Int32
  | 0 => ed
  | c + 1 => if (mask &&& ((1 : Int32) <<< (nI c &&& 31))) = 0 then rb_se ed s mask to c else upd (rb_se ed s mask to c) (s * 8 + c) to
theorem rb_se_t {ed : Nat → Int32} {s c : Nat} {mask to : Int32} (h : (mask &&& ((1 : Int32) <<< (nI c &&& 31))) = 0) : rb_se ed s mask to (c + 1) = rb_se ed s mask to c := if_pos h
theorem rb_se_f {ed : Nat → Int32} {s c : Nat} {mask to : Int32} (h : ¬ (mask &&& ((1 : Int32) <<< (nI c &&& 31))) = 0) : rb_se ed s mask to (c + 1) = upd (rb_se ed s mask to c) (s * 8 + c) to := if_neg h
theorem rb_se_in {ed : Nat → Int32} {s Q : Nat} {mask to : Int32} (h : ∀ i, ed i = -1 ∨ ∃ j, j < Q ∧ ed i = nI j) (ht : to = -1 ∨ ∃ j, j < Q ∧ to = nI j) : ∀ c i, rb_se ed s mask to c i = -1 ∨ ∃ j, j < Q ∧ rb_se ed s mask to c i = nI j := by
  intro c
  induction c with
  | zero => exact h
  | succ c ih =>
    intro i
    by_cases z : (mask &&& ((1 : Int32) <<< (nI c &&& 31))) = 0
    · rw [rb_se_t z]; exact ih i
    · rw [rb_se_f z]
      by_cases ei : i = s * 8 + c
      · rw [ei, pk_us]; exact ht
      · rw [pk_un ei]; exact ih i
section
variable {cap Q A Z L T e : Nat} {me oc : Int32} {ed kd nx so tx tl tok xM xR xB nt tS tE tK tM tR tB tA yS yM yR yB : Nat → Int32}
theorem rb_x60 {post : Int32 → SX → Prop} {s : Nat} {mask to : Int32} (hA : A ≤ 8) (hs : s < 16) (hp : post 0 (nI cap, nI Q, nI A, nI Z, nI L, nI T, me, nI e, rb_se ed s mask to A, kd, nx, so, tx, tl, tok, xM, xR, xB)) : ∃ f, wX_setEdges_60 post (nI s) mask to (nI cap) (nI Q) (nI A) (nI Z) (nI L) (nI T) me (nI e) f 0 ed kd nx so tx tl tok xM xR xB := by
  refine pk_loop (fun f i (_ : Unit) => wX_setEdges_60 post (nI s) mask to (nI cap) (nI Q) (nI A) (nI Z) (nI L) (nI T) me (nI e) f (nI i) (rb_se ed s mask to i) kd nx so tx tl tok xM xR xB) (fun _ _ => True) A 0 () (Nat.zero_le _) trivial ?_ ?_
  · intro f _ _
    exact pk_le A A (fun _ => hp) (fun z => absurd z (by omega))
  · intro f i _ hi _ hw
    have w := hw () trivial
    refine pk_le A i (fun z => absurd z (by omega)) (fun _ => br_c (fun z => nm_r (nI_1 i) ?_) (fun z => ⟨pk_in (s * 8 + i) 128 (by omega) (rb_i8 s i), nm_r (rb_ucl (rb_i8 s i) (by omega) rfl) (nm_r (nI_1 i) ?_)⟩))
    · rw [rb_se_t z] at w
      exact w
    · rw [rb_se_f z] at w
      exact w
theorem rb_y68 {post : Int32 → SY → Prop} {s : Nat} {mask to : Int32} (hA : A ≤ 8) (hs : s < 16) (hp : post 0 (nI cap, nI Q, nI A, nI Z, nI L, nI e, nI T, oc, rb_se ed s mask to A, kd, nx, so, tx, nt, tS, tE, tK, tM, tR, tB, tA, yS, yM, yR, yB)) : ∃ f, wY_setEdges_68 post (nI s) mask to (nI cap) (nI Q) (nI A) (nI Z) (nI L) (nI e) (nI T) oc f 0 ed kd nx so tx nt tS tE tK tM tR tB tA yS yM yR yB := by
  refine pk_loop (fun f i (_ : Unit) => wY_setEdges_68 post (nI s) mask to (nI cap) (nI Q) (nI A) (nI Z) (nI L) (nI e) (nI T) oc f (nI i) (rb_se ed s mask to i) kd nx so tx nt tS tE tK tM tR tB tA yS yM yR yB) (fun _ _ => True) A 0 () (Nat.zero_le _) trivial ?_ ?_
  · intro f _ _
    exact pk_le A A (fun _ => hp) (fun z => absurd z (by omega))
  · intro f i _ hi _ hw
    have w := hw () trivial
    refine pk_le A i (fun z => absurd z (by omega)) (fun _ => br_c (fun z => nm_r (nI_1 i) ?_) (fun z => ⟨pk_in (s * 8 + i) 128 (by omega) (rb_i8 s i), nm_r (rb_ucl (rb_i8 s i) (by omega) rfl) (nm_r (nI_1 i) ?_)⟩))
    · rw [rb_se_t z] at w
      exact w
    · rw [rb_se_f z] at w
      exact w
end
end
section
/-! the other methods -/
theorem rb_find {S : Nat → Nat} {p : Nat} : ∀ T, p < S T → S 0 ≤ p → ∃ i, i < T ∧ S i ≤ p ∧ p < S (i + 1) := by
  intro T
  induction T with
  | zero => intro h1 h2; omega
  | succ T ih =>
    intro h1 h2
    by_cases h : S T ≤ p
    · exact ⟨T, by omega, h, h1⟩
    · obtain ⟨i, a, b⟩ := ih (by omega) h2
      exact ⟨i, by omega, b⟩
theorem rb_first (P : Nat → Prop) : ∀ T : Nat, ∃ i, i ≤ T ∧ (∀ j, j < i → P j) ∧ (i < T → ¬ P i) := by
  intro T
  induction T with
  | zero => exact ⟨0, Nat.le_refl _, fun j hj => absurd hj (by omega), fun h => absurd h (by omega)⟩
  | succ T ih =>
    obtain ⟨i, a, b, c⟩ := ih
    by_cases h : i < T
    · exact ⟨i, by omega, b, fun _ => c h⟩
    · have ei : i = T := by omega
      subst ei
      by_cases hp : P i
      · exact ⟨i + 1, Nat.le_refl _, lt_s b hp, fun h => absurd h (by omega)⟩
      · exact ⟨i, by omega, b, fun _ => hp⟩
section
variable {cap Q A Z L T e : Nat} {me oc : Int32} {ed kd nx so tx tl tok xM xR xB nt tS tE tK tM tR tB tA yS yM yR yB : Nat → Int32}
theorem rb_xtat {post : Int32 → Prop} {p i0 : Nat} {S : Nat → Nat} (hT : T ≤ 64) (hp : p < 64) (hi : i0 < T) (h1 : ∀ i, i < T → tok (i * 6 + 1) = nI (S (i + 1)) ∧ S (i + 1) ≤ 64) (h2 : ∀ i, i < i0 → S (i + 1) ≤ p) (h3 : p < S (i0 + 1)) (hq : post (nI i0)) : ∃ f, wX_tokenAt_17 post (nI p) (nI cap) (nI Q) (nI A) (nI Z) (nI L) (nI T) me (nI e) ed kd nx so tx tl tok xM xR xB f 0 := by
  refine pk_loop (fun f i (_ : Unit) => wX_tokenAt_17 post (nI p) (nI cap) (nI Q) (nI A) (nI Z) (nI L) (nI T) me (nI e) ed kd nx so tx tl tok xM xR xB f (nI i)) (fun _ _ => True) i0 0 () (Nat.zero_le _) trivial ?_ ?_
  · intro f _ _
    obtain ⟨a, b⟩ := h1 i0 hi
    exact pk_le T i0 (fun z => absurd z (by omega)) (fun _ => ⟨pk_in (i0 * 6 + 1) 384 (by omega) (rb_i6 i0 1), pk_le (S (i0 + 1)) p (fun z => absurd z (by omega)) (fun _ => hq) (rb_rd (rb_i6 i0 1) (by omega) a) rfl⟩)
  · intro f i _ hi' _ hw
    obtain ⟨a, b⟩ := h1 i (by omega)
    have c := h2 i hi'
    exact pk_le T i (fun z => absurd z (by omega)) (fun _ => ⟨pk_in (i * 6 + 1) 384 (by omega) (rb_i6 i 1), pk_le (S (i + 1)) p (fun _ => nm_r (nI_1 i) (hw () trivial)) (fun z => absurd z (by omega)) (rb_rd (rb_i6 i 1) (by omega) a) rfl⟩)
theorem rb_ytat {post : Int32 → Prop} {p i0 : Nat} {S : Nat → Nat} (hT : T ≤ 64) (hp : p < 64) (hi : i0 < T) (h1 : ∀ i, i < T → tS i = nI (S i) ∧ tE i = nI (S (i + 1)) ∧ S (i + 1) ≤ 64 ∧ S i ≤ 64) (h2 : ∀ i, i < i0 → S (i + 1) ≤ p ∧ S i ≤ p) (h3 : p < S (i0 + 1)) (h4 : S i0 ≤ p) (hq : post (nI i0)) : ∃ f, wY_tokenAt_2 post (nI p) (nI cap) (nI Q) (nI A) (nI Z) (nI L) (nI e) (nI T) oc ed kd nx so tx nt tS tE tK tM tR tB tA yS yM yR yB f 0 := by
  refine pk_loop (fun f i (_ : Unit) => wY_tokenAt_2 post (nI p) (nI cap) (nI Q) (nI A) (nI Z) (nI L) (nI e) (nI T) oc ed kd nx so tx nt tS tE tK tM tR tB tA yS yM yR yB f (nI i)) (fun _ _ => True) i0 0 () (Nat.zero_le _) trivial ?_ ?_
  · intro f _ _
    obtain ⟨a, b, c, d⟩ := h1 i0 hi
    have hi' : i0 < 2 ^ 31 := by omega
    exact pk_le T i0 (fun z => absurd z (by omega)) (fun _ => ⟨pk_in i0 64 (by omega), pk_lt p (S i0) (fun z => absurd z (by omega)) (fun _ => ⟨pk_in i0 64 (by omega), pk_le (S (i0 + 1)) p (fun z => absurd z (by omega)) (fun _ => hq) (rb_rd rfl hi' b) rfl⟩) rfl (rb_rd rfl hi' a)⟩)
  · intro f i _ hi' _ hw
    obtain ⟨a, b, c, d⟩ := h1 i (by omega)
    obtain ⟨g1, g2⟩ := h2 i hi'
    have hi' : i < 2 ^ 31 := by omega
    exact pk_le T i (fun z => absurd z (by omega)) (fun _ => ⟨pk_in i 64 (by omega), pk_lt p (S i) (fun z => absurd z (by omega)) (fun _ => ⟨pk_in i 64 (by omega), pk_le (S (i + 1)) p (fun _ => nm_r (nI_1 i) (hw () trivial)) (fun z => absurd z (by omega)) (rb_rd rfl hi' b) rfl⟩) rfl (rb_rd rfl hi' a)⟩)
theorem rb_ytan {post : Int32 → Prop} {x : Int32} (hT : T ≤ 64) (h : ∀ i, i < T → x < tS i ∨ tE i ≤ x) (hq : post (-2)) : ∃ f, wY_tokenAt_2 post x (nI cap) (nI Q) (nI A) (nI Z) (nI L) (nI e) (nI T) oc ed kd nx so tx nt tS tE tK tM tR tB tA yS yM yR yB f 0 := by
  refine pk_loop (fun f i (_ : Unit) => wY_tokenAt_2 post x (nI cap) (nI Q) (nI A) (nI Z) (nI L) (nI e) (nI T) oc ed kd nx so tx nt tS tE tK tM tR tB tA yS yM yR yB f (nI i)) (fun _ _ => True) T 0 () (Nat.zero_le _) trivial ?_ ?_
  · intro f _ _
    exact pk_le T T (fun _ => hq) (fun z => absurd z (by omega))
  · intro f i _ hi _ hw
    have hi' : i < 2 ^ 31 := by omega
    have a : tS (nI i).toNatClampNeg = tS i := rb_rcl rfl hi'
    have b : tE (nI i).toNatClampNeg = tE i := rb_rcl rfl hi'
    refine pk_le T i (fun z => absurd z (by omega)) (fun _ => ⟨pk_in i 64 (by omega), ?_⟩)
    rw [a]
    refine br_c (fun _ => nm_r (nI_1 i) (hw () trivial)) (fun z => ⟨pk_in i 64 (by omega), ?_⟩)
    rw [b]
    rcases h i hi with g | g
    · exact absurd g z
    · exact br_t g (nm_r (nI_1 i) (hw () trivial))
theorem rb_xstc {post : Int32 → Prop} {x : Int32} {i0 : Nat} (hT : T ≤ 64) (hi : i0 ≤ T) (h1 : ∀ i, i < T → tok (i * 6 + 4) = tR i) (h2 : ∀ i, i < i0 → tR i ≤ x) (h3 : i0 < T → ¬ tR i0 ≤ x) (hq : post (nI i0)) : ∃ f, wX_stableCount_17 post x (nI cap) (nI Q) (nI A) (nI Z) (nI L) (nI T) me (nI e) ed kd nx so tx tl tok xM xR xB f 0 := by
  refine pk_loop (fun f i (_ : Unit) => wX_stableCount_17 post x (nI cap) (nI Q) (nI A) (nI Z) (nI L) (nI T) me (nI e) ed kd nx so tx tl tok xM xR xB f (nI i)) (fun _ _ => True) i0 0 () (Nat.zero_le _) trivial ?_ ?_
  · intro f _ _
    refine pk_le T i0 (fun z => ?_) (fun z => ⟨pk_in (i0 * 6 + 4) 384 (by omega) (rb_i6 i0 4), ?_⟩)
    · have ei : i0 = T := by omega
      rw [ei] at hq
      exact hq
    · have a := rb_rd (a := tok) (rb_i6 i0 4) (by omega) (h1 i0 z)
      exact br_f (fun g => h3 z (a ▸ g)) hq
  · intro f i _ hi' _ hw
    have a := rb_rd (a := tok) (rb_i6 i 4) (by omega) (h1 i (by omega))
    exact pk_le T i (fun z => absurd z (by omega)) (fun _ => ⟨pk_in (i * 6 + 4) 384 (by omega) (rb_i6 i 4), br_t (a ▸ h2 i hi') (nm_r (nI_1 i) (hw () trivial))⟩)
theorem rb_ystc {post : Int32 → Prop} {x : Int32} {i0 : Nat} (hT : T ≤ 64) (hi : i0 ≤ T) (h2 : ∀ i, i < i0 → tR i ≤ x) (h3 : i0 < T → ¬ tR i0 ≤ x) (hq : post (nI i0)) : ∃ f, wY_stableCount_17 post x (nI cap) (nI Q) (nI A) (nI Z) (nI L) (nI e) (nI T) oc ed kd nx so tx nt tS tE tK tM tR tB tA yS yM yR yB f 0 := by
  refine pk_loop (fun f i (_ : Unit) => wY_stableCount_17 post x (nI cap) (nI Q) (nI A) (nI Z) (nI L) (nI e) (nI T) oc ed kd nx so tx nt tS tE tK tM tR tB tA yS yM yR yB f (nI i)) (fun _ _ => True) i0 0 () (Nat.zero_le _) trivial ?_ ?_
  · intro f _ _
    refine pk_le T i0 (fun z => ?_) (fun z => ⟨pk_in i0 64 (by omega), ?_⟩)
    · have ei : i0 = T := by omega
      rw [ei] at hq
      exact hq
    · have a : tR (nI i0).toNatClampNeg = tR i0 := rb_rcl rfl (by omega)
      exact br_f (fun g => h3 z (a ▸ g)) hq
  · intro f i _ hi' _ hw
    have a : tR (nI i).toNatClampNeg = tR i := rb_rcl rfl (by omega)
    refine pk_le T i (fun z => absurd z (by omega)) (fun _ => ⟨pk_in i 64 (by omega), ?_⟩)
    rw [a]
    exact br_t (h2 i hi') (nm_r (nI_1 i) (hw () trivial))
end
end
section
/-! the owed statements of the other methods -/
theorem i_vc_setEdges {k : Nat} {u : SX} {v : SY} (I : i_Rel k u v) (hk : k + 5 ≤ 2564) (v1 : Int32) (v2 : Int32) (v3 : Int32) : wpX_setEdges (fun r u' => wpY_setEdges (fun r' v' => r' = r ∧ i_Rel (k + 5) u' v') v v1 v2 v3) u v1 v2 v3 := by
  obtain ⟨cap, Q, A, Z, L, T, e, me, oc, ed, kd, nx, so, tx, tl, tok, xM, xR, xB, nt, tS, tE, tK, tM, tR, tB, tA, yS, yM, yR, yB, S, M, B, rfl, rfl, h⟩ := I
  have J : i_Rel (k + 5) (nI cap, nI Q, nI A, nI Z, nI L, nI T, me, nI e, ed, kd, nx, so, tx, tl, tok, xM, xR, xB) (nI cap, nI Q, nI A, nI Z, nI L, nI e, nI T, oc, ed, kd, nx, so, tx, nt, tS, tE, tK, tM, tR, tB, tA, yS, yM, yR, yB) := rb_mk (rb_C_up h)
  obtain ⟨⟨c1, c2, c3, c4, c5, c6, c7⟩, E, ht, hl, hm0, hm1⟩ := h
  have E' := E
  obtain ⟨E1, E2, E3, E4, E5, E6, E7, E8⟩ := E'
  have UP : ∀ s : Nat, (v3 = -1 ∨ ∃ j, j < Q ∧ v3 = nI j) → i_Rel (k + 5) (nI cap, nI Q, nI A, nI Z, nI L, nI T, me, nI e, rb_se ed s v2 v3 A, kd, nx, so, tx, tl, tok, xM, xR, xB) (nI cap, nI Q, nI A, nI Z, nI L, nI e, nI T, oc, rb_se ed s v2 v3 A, kd, nx, so, tx, nt, tS, tE, tK, tM, tR, tB, tA, yS, yM, yR, yB) := fun s h3 =>
    rb_mk (rb_C_up ⟨⟨c1, c2, c3, c4, c5, c6, c7⟩, ⟨E1, E2, E3, E4, fun i => rb_se_in E5 h3 A i, E6, E7, E8⟩, ht, hl, hm0, hm1⟩)
  unfold wpX_setEdges
  refine rb_xst E2 (fun a => br_t rfl (br_t a ⟨rfl, J⟩)) (fun a b => br_t rfl (br_f a (br_f (Int32.not_lt.mpr b) ⟨rfl, J⟩))) (fun s hs es => br_f (by decide) ?_)
  subst es
  have s1 : ¬ nI s < 0 := nI_pos (by omega)
  have s2 : nI s < nI Q := nI_lt hs (by omega)
  by_cases a1 : v2 < 1
  · exact br_t a1 (br_f s1 (br_t s2 (br_t a1 ⟨rfl, J⟩)))
  by_cases a2 : v2 ≤ (((1 : Int32) <<< (nI A &&& 31)) - 1)
  rotate_left
  · exact br_f a1 (br_f a2 (br_f s1 (br_t s2 (br_f a1 (br_f a2 ⟨rfl, J⟩)))))
  have X47 : (v3 = -1 ∨ ∃ j, j < Q ∧ v3 = nI j) → (∀ post : Int32 → SY → Prop, wY_setEdges_55 post (nI s) v2 v3 (nI cap) (nI Q) (nI A) (nI Z) (nI L) (nI e) (nI T) oc ed kd nx so tx nt tS tE tK tM tR tB tA yS yM yR yB → wpY_setEdges post (nI cap, nI Q, nI A, nI Z, nI L, nI e, nI T, oc, ed, kd, nx, so, tx, nt, tS, tE, tK, tM, tR, tB, tA, yS, yM, yR, yB) (nI s) v2 v3) → wX_setEdges_47 (fun r u' => wpY_setEdges (fun r' v' => r' = r ∧ i_Rel (k + 5) u' v') (nI cap, nI Q, nI A, nI Z, nI L, nI e, nI T, oc, ed, kd, nx, so, tx, nt, tS, tE, tK, tM, tR, tB, tA, yS, yM, yR, yB) (nI s) v2 v3) (nI s) v2 v3 (nI cap) (nI Q) (nI A) (nI Z) (nI L) (nI T) me (nI e) ed kd nx so tx tl tok xM xR xB := by
    intro h3 hY
    refine pk_eq L 0 (fun z => rb_x60 E1 (by omega) (hY _ (pk_le L 0 (fun _ => rb_y68 E1 (by omega) ⟨rfl, UP s h3⟩) (fun z' => absurd z' (by omega))))) (fun z => hY _ (pk_le L 0 (fun z' => absurd z' (by omega)) (fun _ => ⟨rfl, J⟩)))
  by_cases a3 : v3 = -1
  · exact br_f a1 (br_t a2 (br_t a3 (X47 (Or.inl a3) (fun post w => br_f s1 (br_t s2 (br_f a1 (br_t a2 (br_t a3 w))))))))
  · refine br_f a1 (br_t a2 (br_f a3 (rb_xst E2 (fun a => br_t rfl (br_f s1 (br_t s2 (br_f a1 (br_t a2 (br_f a3 (br_t a ⟨rfl, J⟩))))))) (fun a b => br_t rfl (br_f s1 (br_t s2 (br_f a1 (br_t a2 (br_f a3 (br_f a (br_f (Int32.not_lt.mpr b) ⟨rfl, J⟩)))))))) (fun j hj ej => br_f (by decide) (X47 (Or.inr ⟨j, hj, ej⟩) (fun post w => br_f s1 (br_t s2 (br_f a1 (br_t a2 (br_f a3 ?_)))))))))) 
    rw [ej] at w ⊢
    exact br_f (nI_pos (by omega)) (br_t (nI_lt hj (by omega)) w)
theorem i_vc_setAccept {k : Nat} {u : SX} {v : SY} (I : i_Rel k u v) (hk : k + 5 ≤ 2564) (v1 : Int32) (v2 : Int32) (v3 : Int32) : wpX_setAccept (fun r u' => wpY_setAccept (fun r' v' => r' = r ∧ i_Rel (k + 5) u' v') v v1 v2 v3) u v1 v2 v3 := by
  obtain ⟨cap, Q, A, Z, L, T, e, me, oc, ed, kd, nx, so, tx, tl, tok, xM, xR, xB, nt, tS, tE, tK, tM, tR, tB, tA, yS, yM, yR, yB, S, M, B, rfl, rfl, h⟩ := I
  have J : i_Rel (k + 5) (nI cap, nI Q, nI A, nI Z, nI L, nI T, me, nI e, ed, kd, nx, so, tx, tl, tok, xM, xR, xB) (nI cap, nI Q, nI A, nI Z, nI L, nI e, nI T, oc, ed, kd, nx, so, tx, nt, tS, tE, tK, tM, tR, tB, tA, yS, yM, yR, yB) := rb_mk (rb_C_up h)
  obtain ⟨⟨c1, c2, c3, c4, c5, c6, c7⟩, E, ht, hl, hm0, hm1⟩ := h
  have E' := E
  obtain ⟨E1, E2, E3, E4, E5, E6, E7, E8⟩ := E'
  have UP : ∀ (s : Nat) (w : Int32), (w = -1 ∨ ∃ j, j < Z ∧ w = nI j) → i_Rel (k + 5) (nI cap, nI Q, nI A, nI Z, nI L, nI T, me, nI e, ed, upd kd s v2, upd nx s w, so, tx, tl, tok, xM, xR, xB) (nI cap, nI Q, nI A, nI Z, nI L, nI e, nI T, oc, ed, upd kd s v2, upd nx s w, so, tx, nt, tS, tE, tK, tM, tR, tB, tA, yS, yM, yR, yB) := fun s w h3 =>
    rb_mk (rb_C_up ⟨⟨c1, c2, c3, c4, c5, c6, c7⟩, ⟨E1, E2, E3, E4, E5, fun i => by
      by_cases ei : i = s
      · rw [ei, pk_us]; exact h3
      · rw [pk_un ei]; exact E6 i, E7, E8⟩, ht, hl, hm0, hm1⟩)
  unfold wpX_setAccept
  refine rb_xst E2 (fun a => br_t rfl (br_t a ⟨rfl, J⟩)) (fun a b => br_t rfl (br_f a (br_f (Int32.not_lt.mpr b) ⟨rfl, J⟩))) (fun s hs es => br_f (by decide) ?_)
  subst es
  have s1 : ¬ nI s < 0 := nI_pos (by omega)
  have s2 : nI s < nI Q := nI_lt hs (by omega)
  have hs' : s < 2 ^ 31 := by omega
  have hv : vp_in (nI s) 16 := pk_in s 16 (by omega)
  by_cases a1 : v2 < 0
  · exact br_t a1 (br_f s1 (br_t s2 (br_t a1 ⟨rfl, J⟩)))
  by_cases a2 : v2 ≤ 15
  rotate_left
  · exact br_f a1 (br_f a2 (br_f s1 (br_t s2 (br_f a1 (br_f a2 ⟨rfl, J⟩)))))
  have X40 : (v3 = -1 ∨ ∃ j, j < Z ∧ v3 = nI j) → (∀ post : Int32 → SY → Prop, wY_setAccept_48 post (nI s) v2 v3 (nI cap) (nI Q) (nI A) (nI Z) (nI L) (nI e) (nI T) oc ed kd nx so tx nt tS tE tK tM tR tB tA yS yM yR yB → wpY_setAccept post (nI cap, nI Q, nI A, nI Z, nI L, nI e, nI T, oc, ed, kd, nx, so, tx, nt, tS, tE, tK, tM, tR, tB, tA, yS, yM, yR, yB) (nI s) v2 v3) → wX_setAccept_40 (fun r u' => wpY_setAccept (fun r' v' => r' = r ∧ i_Rel (k + 5) u' v') (nI cap, nI Q, nI A, nI Z, nI L, nI e, nI T, oc, ed, kd, nx, so, tx, nt, tS, tE, tK, tM, tR, tB, tA, yS, yM, yR, yB) (nI s) v2 v3) (nI s) v2 v3 (nI cap) (nI Q) (nI A) (nI Z) (nI L) (nI T) me (nI e) ed kd nx so tx tl tok xM xR xB := by
    intro h3 hY
    refine pk_eq L 0 (fun z => ⟨hv, nm_r (rb_ucl rfl hs' rfl) (br_c (fun g => ⟨hv, nm_r (rb_ucl rfl hs' rfl) (hY _ (pk_le L 0 (fun _ => ⟨hv, nm_r (rb_ucl rfl hs' rfl) (br_t g ⟨hv, nm_r (rb_ucl rfl hs' rfl) ⟨rfl, UP s (-1) (Or.inl rfl)⟩⟩)⟩) (fun z' => absurd z' (by omega))))⟩)
      (fun g => ⟨hv, nm_r (rb_ucl rfl hs' rfl) (hY _ (pk_le L 0 (fun _ => ⟨hv, nm_r (rb_ucl rfl hs' rfl) (br_f g ⟨hv, nm_r (rb_ucl rfl hs' rfl) ⟨rfl, UP s v3 h3⟩⟩)⟩) (fun z' => absurd z' (by omega))))⟩))⟩) (fun z => hY _ (pk_le L 0 (fun z' => absurd z' (by omega)) (fun _ => ⟨rfl, J⟩)))
  by_cases a3 : v3 = -1
  · exact br_f a1 (br_t a2 (br_t a3 (X40 (Or.inl a3) (fun post w => br_f s1 (br_t s2 (br_f a1 (br_t a2 (br_t a3 w))))))))
  · refine br_f a1 (br_t a2 (br_f a3 (rb_xmo E3 (fun a => br_t rfl (br_f s1 (br_t s2 (br_f a1 (br_t a2 (br_f a3 (br_t a ⟨rfl, J⟩))))))) (fun a b => br_t rfl (br_f s1 (br_t s2 (br_f a1 (br_t a2 (br_f a3 (br_f a (br_f (Int32.not_lt.mpr b) ⟨rfl, J⟩)))))))) (fun j hj ej => br_f (by decide) (X40 (Or.inr ⟨j, hj, ej⟩) (fun post w => br_f s1 (br_t s2 (br_f a1 (br_t a2 (br_f a3 ?_))))))))))
    rw [ej] at w ⊢
    exact br_f (nI_pos (by omega)) (br_t (nI_lt hj (by omega)) w)
theorem i_vc_setStart {k : Nat} {u : SX} {v : SY} (I : i_Rel k u v) (hk : k + 5 ≤ 2564) (v1 : Int32) (v2 : Int32) : wpX_setStart (fun r u' => wpY_setStart (fun r' v' => r' = r ∧ i_Rel (k + 5) u' v') v v1 v2) u v1 v2 := by
  obtain ⟨cap, Q, A, Z, L, T, e, me, oc, ed, kd, nx, so, tx, tl, tok, xM, xR, xB, nt, tS, tE, tK, tM, tR, tB, tA, yS, yM, yR, yB, S, M, B, rfl, rfl, h⟩ := I
  have J : i_Rel (k + 5) (nI cap, nI Q, nI A, nI Z, nI L, nI T, me, nI e, ed, kd, nx, so, tx, tl, tok, xM, xR, xB) (nI cap, nI Q, nI A, nI Z, nI L, nI e, nI T, oc, ed, kd, nx, so, tx, nt, tS, tE, tK, tM, tR, tB, tA, yS, yM, yR, yB) := rb_mk (rb_C_up h)
  obtain ⟨⟨c1, c2, c3, c4, c5, c6, c7⟩, E, ht, hl, hm0, hm1⟩ := h
  have E' := E
  obtain ⟨E1, E2, E3, E4, E5, E6, E7, E8⟩ := E'
  unfold wpX_setStart
  refine rb_xmo E3 (fun a => br_t rfl (br_t a ⟨rfl, J⟩)) (fun a b => br_t rfl (br_f a (br_f (Int32.not_lt.mpr b) ⟨rfl, J⟩))) (fun m hm em => br_f (by decide) ?_)
  subst em
  have s1 : ¬ nI m < 0 := nI_pos (by omega)
  have s2 : nI m < nI Z := nI_lt hm (by omega)
  have hm' : m < 2 ^ 31 := by omega
  have hv : vp_in (nI m) 4 := pk_in m 4 (by omega)
  refine rb_xst E2 (fun a => br_t rfl (br_f s1 (br_t s2 (br_t a ⟨rfl, J⟩)))) (fun a b => br_t rfl (br_f s1 (br_t s2 (br_f a (br_f (Int32.not_lt.mpr b) ⟨rfl, J⟩))))) (fun j hj ej => br_f (by decide) ?_)
  subst ej
  have t1 : ¬ nI j < 0 := nI_pos (by omega)
  have t2 : nI j < nI Q := nI_lt hj (by omega)
  refine pk_eq L 0 (fun z => ⟨hv, nm_r (rb_ucl rfl hm' rfl) (br_f s1 (br_t s2 (br_f t1 (br_t t2 (pk_le L 0 (fun _ => ⟨hv, nm_r (rb_ucl rfl hm' rfl) ⟨rfl, rb_mk (rb_C_up ⟨⟨c1, c2, c3, c4, c5, c6, c7⟩, ⟨E1, E2, E3, E4, E5, E6, ?_, E8⟩, ht, hl, hm0, hm1⟩)⟩⟩) (fun z' => absurd z' (by omega)))))))⟩) (fun z => br_f s1 (br_t s2 (br_f t1 (br_t t2 (pk_le L 0 (fun z' => absurd z' (by omega)) (fun _ => ⟨rfl, J⟩))))))
  intro i
  by_cases ei : i = m
  · rw [ei, pk_us]; exact ⟨j, hj, rfl⟩
  · rw [pk_un ei]; exact E7 i
theorem i_vc_edge {k : Nat} {u : SX} {v : SY} (I : i_Rel k u v) (hk : k + 5 ≤ 2564) (v1 : Int32) (v2 : Int32) : wpX_edge (fun r => wpY_edge (fun r' => r' = r ∧ i_Rel (k + 5) u v) v v1 v2) u v1 v2 := by
  obtain ⟨cap, Q, A, Z, L, T, e, me, oc, ed, kd, nx, so, tx, tl, tok, xM, xR, xB, nt, tS, tE, tK, tM, tR, tB, tA, yS, yM, yR, yB, S, M, B, rfl, rfl, h⟩ := I
  have J : i_Rel (k + 5) (nI cap, nI Q, nI A, nI Z, nI L, nI T, me, nI e, ed, kd, nx, so, tx, tl, tok, xM, xR, xB) (nI cap, nI Q, nI A, nI Z, nI L, nI e, nI T, oc, ed, kd, nx, so, tx, nt, tS, tE, tK, tM, tR, tB, tA, yS, yM, yR, yB) := rb_mk (rb_C_up h)
  obtain ⟨⟨c1, c2, c3, c4, c5, c6, c7⟩, E, ht, hl, hm0, hm1⟩ := h
  have E' := E
  obtain ⟨E1, E2, E3, E4, E5, E6, E7, E8⟩ := E'
  unfold wpX_edge
  refine rb_xst E2 (fun a => br_t rfl (br_t a ⟨rfl, J⟩)) (fun a b => br_t rfl (br_f a (br_t b ⟨rfl, J⟩))) (fun s hs es => br_f (by decide) ?_)
  subst es
  have s1 : ¬ nI s < 0 := nI_pos (by omega)
  have s2 : ¬ nI Q ≤ nI s := nI_ge hs (by omega)
  refine rb_xsm E1 (fun a => br_t rfl (br_f s1 (br_f s2 (br_t a ⟨rfl, J⟩)))) (fun a b => br_t rfl (br_f s1 (br_f s2 (br_f a (br_f (Int32.not_lt.mpr b) ⟨rfl, J⟩))))) (fun c hc ec => br_f (by decide) ?_)
  subst ec
  have hv : vp_in (nI s * 8 + nI c) 128 := pk_in (s * 8 + c) 128 (by omega) (rb_i8 s c)
  exact ⟨hv, br_f s1 (br_f s2 (br_f (nI_pos (by omega)) (br_t (nI_lt hc (by omega)) ⟨hv, rfl, J⟩)))⟩
theorem i_vc_acceptKind {k : Nat} {u : SX} {v : SY} (I : i_Rel k u v) (hk : k + 5 ≤ 2564) (v1 : Int32) : wpX_acceptKind (fun r => wpY_acceptKind (fun r' => r' = r ∧ i_Rel (k + 5) u v) v v1) u v1 := by
  obtain ⟨cap, Q, A, Z, L, T, e, me, oc, ed, kd, nx, so, tx, tl, tok, xM, xR, xB, nt, tS, tE, tK, tM, tR, tB, tA, yS, yM, yR, yB, S, M, B, rfl, rfl, h⟩ := I
  have J : i_Rel (k + 5) (nI cap, nI Q, nI A, nI Z, nI L, nI T, me, nI e, ed, kd, nx, so, tx, tl, tok, xM, xR, xB) (nI cap, nI Q, nI A, nI Z, nI L, nI e, nI T, oc, ed, kd, nx, so, tx, nt, tS, tE, tK, tM, tR, tB, tA, yS, yM, yR, yB) := rb_mk (rb_C_up h)
  obtain ⟨⟨c1, c2, c3, c4, c5, c6, c7⟩, E, ht, hl, hm0, hm1⟩ := h
  have E' := E
  obtain ⟨E1, E2, E3, E4, E5, E6, E7, E8⟩ := E'
  unfold wpX_acceptKind
  refine rb_xst E2 (fun a => br_t rfl (br_t a ⟨rfl, J⟩)) (fun a b => br_t rfl (br_f a (br_f (Int32.not_lt.mpr b) ⟨rfl, J⟩))) (fun s hs es => br_f (by decide) ?_)
  subst es
  have hv : vp_in (nI s) 16 := pk_in s 16 (by omega)
  exact ⟨hv, br_f (nI_pos (by omega)) (br_t (nI_lt hs (by omega)) ⟨hv, rfl, J⟩)⟩
theorem i_vc_acceptMode {k : Nat} {u : SX} {v : SY} (I : i_Rel k u v) (hk : k + 5 ≤ 2564) (v1 : Int32) : wpX_acceptMode (fun r => wpY_acceptMode (fun r' => r' = r ∧ i_Rel (k + 5) u v) v v1) u v1 := by
  obtain ⟨cap, Q, A, Z, L, T, e, me, oc, ed, kd, nx, so, tx, tl, tok, xM, xR, xB, nt, tS, tE, tK, tM, tR, tB, tA, yS, yM, yR, yB, S, M, B, rfl, rfl, h⟩ := I
  have J : i_Rel (k + 5) (nI cap, nI Q, nI A, nI Z, nI L, nI T, me, nI e, ed, kd, nx, so, tx, tl, tok, xM, xR, xB) (nI cap, nI Q, nI A, nI Z, nI L, nI e, nI T, oc, ed, kd, nx, so, tx, nt, tS, tE, tK, tM, tR, tB, tA, yS, yM, yR, yB) := rb_mk (rb_C_up h)
  obtain ⟨⟨c1, c2, c3, c4, c5, c6, c7⟩, E, ht, hl, hm0, hm1⟩ := h
  have E' := E
  obtain ⟨E1, E2, E3, E4, E5, E6, E7, E8⟩ := E'
  unfold wpX_acceptMode
  refine rb_xst E2 (fun a => br_t rfl (br_t a ⟨rfl, J⟩)) (fun a b => br_t rfl (br_f a (br_f (Int32.not_lt.mpr b) ⟨rfl, J⟩))) (fun s hs es => br_f (by decide) ?_)
  subst es
  have hv : vp_in (nI s) 16 := pk_in s 16 (by omega)
  exact ⟨hv, br_f (nI_pos (by omega)) (br_t (nI_lt hs (by omega)) ⟨hv, rfl, J⟩)⟩
theorem i_vc_start {k : Nat} {u : SX} {v : SY} (I : i_Rel k u v) (hk : k + 5 ≤ 2564) (v1 : Int32) : wpX_start (fun r => wpY_start (fun r' => r' = r ∧ i_Rel (k + 5) u v) v v1) u v1 := by
  obtain ⟨cap, Q, A, Z, L, T, e, me, oc, ed, kd, nx, so, tx, tl, tok, xM, xR, xB, nt, tS, tE, tK, tM, tR, tB, tA, yS, yM, yR, yB, S, M, B, rfl, rfl, h⟩ := I
  have J : i_Rel (k + 5) (nI cap, nI Q, nI A, nI Z, nI L, nI T, me, nI e, ed, kd, nx, so, tx, tl, tok, xM, xR, xB) (nI cap, nI Q, nI A, nI Z, nI L, nI e, nI T, oc, ed, kd, nx, so, tx, nt, tS, tE, tK, tM, tR, tB, tA, yS, yM, yR, yB) := rb_mk (rb_C_up h)
  obtain ⟨⟨c1, c2, c3, c4, c5, c6, c7⟩, E, ht, hl, hm0, hm1⟩ := h
  have E' := E
  obtain ⟨E1, E2, E3, E4, E5, E6, E7, E8⟩ := E'
  unfold wpX_start
  refine rb_xmo E3 (fun a => br_t rfl (br_t a ⟨rfl, J⟩)) (fun a b => br_t rfl (br_f a (br_f (Int32.not_lt.mpr b) ⟨rfl, J⟩))) (fun s hs es => br_f (by decide) ?_)
  subst es
  have hv : vp_in (nI s) 4 := pk_in s 4 (by omega)
  exact ⟨hv, br_f (nI_pos (by omega)) (br_t (nI_lt hs (by omega)) ⟨hv, rfl, J⟩)⟩
theorem i_vc_edits {k : Nat} {u : SX} {v : SY} (I : i_Rel k u v) (hk : k + 5 ≤ 2564) : wpX_edits (fun r => wpY_edits (fun r' => r' = r ∧ i_Rel (k + 5) u v) v) u := by
  obtain ⟨cap, Q, A, Z, L, T, e, me, oc, ed, kd, nx, so, tx, tl, tok, xM, xR, xB, nt, tS, tE, tK, tM, tR, tB, tA, yS, yM, yR, yB, S, M, B, rfl, rfl, h⟩ := I
  have J : i_Rel (k + 5) (nI cap, nI Q, nI A, nI Z, nI L, nI T, me, nI e, ed, kd, nx, so, tx, tl, tok, xM, xR, xB) (nI cap, nI Q, nI A, nI Z, nI L, nI e, nI T, oc, ed, kd, nx, so, tx, nt, tS, tE, tK, tM, tR, tB, tA, yS, yM, yR, yB) := rb_mk (rb_C_up h)
  obtain ⟨⟨c1, c2, c3, c4, c5, c6, c7⟩, E, ht, hl, hm0, hm1⟩ := h
  have E' := E
  obtain ⟨E1, E2, E3, E4, E5, E6, E7, E8⟩ := E'
  exact ⟨rfl, J⟩
theorem i_vc_length {k : Nat} {u : SX} {v : SY} (I : i_Rel k u v) (hk : k + 5 ≤ 2564) : wpX_length (fun r => wpY_length (fun r' => r' = r ∧ i_Rel (k + 5) u v) v) u := by
  obtain ⟨cap, Q, A, Z, L, T, e, me, oc, ed, kd, nx, so, tx, tl, tok, xM, xR, xB, nt, tS, tE, tK, tM, tR, tB, tA, yS, yM, yR, yB, S, M, B, rfl, rfl, h⟩ := I
  have J : i_Rel (k + 5) (nI cap, nI Q, nI A, nI Z, nI L, nI T, me, nI e, ed, kd, nx, so, tx, tl, tok, xM, xR, xB) (nI cap, nI Q, nI A, nI Z, nI L, nI e, nI T, oc, ed, kd, nx, so, tx, nt, tS, tE, tK, tM, tR, tB, tA, yS, yM, yR, yB) := rb_mk (rb_C_up h)
  obtain ⟨⟨c1, c2, c3, c4, c5, c6, c7⟩, E, ht, hl, hm0, hm1⟩ := h
  have E' := E
  obtain ⟨E1, E2, E3, E4, E5, E6, E7, E8⟩ := E'
  exact ⟨rfl, J⟩
theorem i_vc_tokenCount {k : Nat} {u : SX} {v : SY} (I : i_Rel k u v) (hk : k + 5 ≤ 2564) : wpX_tokenCount (fun r => wpY_tokenCount (fun r' => r' = r ∧ i_Rel (k + 5) u v) v) u := by
  obtain ⟨cap, Q, A, Z, L, T, e, me, oc, ed, kd, nx, so, tx, tl, tok, xM, xR, xB, nt, tS, tE, tK, tM, tR, tB, tA, yS, yM, yR, yB, S, M, B, rfl, rfl, h⟩ := I
  have J : i_Rel (k + 5) (nI cap, nI Q, nI A, nI Z, nI L, nI T, me, nI e, ed, kd, nx, so, tx, tl, tok, xM, xR, xB) (nI cap, nI Q, nI A, nI Z, nI L, nI e, nI T, oc, ed, kd, nx, so, tx, nt, tS, tE, tK, tM, tR, tB, tA, yS, yM, yR, yB) := rb_mk (rb_C_up h)
  obtain ⟨⟨c1, c2, c3, c4, c5, c6, c7⟩, E, ht, hl, hm0, hm1⟩ := h
  have E' := E
  obtain ⟨E1, E2, E3, E4, E5, E6, E7, E8⟩ := E'
  exact ⟨rfl, J⟩
theorem i_vc_symbolAt {k : Nat} {u : SX} {v : SY} (I : i_Rel k u v) (hk : k + 5 ≤ 2564) (v1 : Int32) : wpX_symbolAt (fun r => wpY_symbolAt (fun r' => r' = r ∧ i_Rel (k + 5) u v) v v1) u v1 := by
  obtain ⟨cap, Q, A, Z, L, T, e, me, oc, ed, kd, nx, so, tx, tl, tok, xM, xR, xB, nt, tS, tE, tK, tM, tR, tB, tA, yS, yM, yR, yB, S, M, B, rfl, rfl, h⟩ := I
  have J : i_Rel (k + 5) (nI cap, nI Q, nI A, nI Z, nI L, nI T, me, nI e, ed, kd, nx, so, tx, tl, tok, xM, xR, xB) (nI cap, nI Q, nI A, nI Z, nI L, nI e, nI T, oc, ed, kd, nx, so, tx, nt, tS, tE, tK, tM, tR, tB, tA, yS, yM, yR, yB) := rb_mk (rb_C_up h)
  obtain ⟨⟨c1, c2, c3, c4, c5, c6, c7⟩, E, ht, hl, hm0, hm1⟩ := h
  have E' := E
  obtain ⟨E1, E2, E3, E4, E5, E6, E7, E8⟩ := E'
  rcases rb_c3 v1 (Q := L) (by omega) with ⟨a, _, _, _⟩ | ⟨a, _, _, b⟩ | ⟨j, hj, rfl, a, _, _, b⟩
  · exact br_t a (br_t a ⟨rfl, J⟩)
  · exact br_f a (br_f b (br_f a (br_f b ⟨rfl, J⟩)))
  · have hv : vp_in (nI j) 64 := pk_in j 64 (by omega)
    exact br_f a (br_t b ⟨hv, br_f a (br_t b ⟨hv, rfl, J⟩)⟩)
theorem i_vc_token {k : Nat} {u : SX} {v : SY} (I : i_Rel k u v) (hk : k + 5 ≤ 2564) (v1 : Int32) (v2 : Int32) : wpX_token (fun r => wpY_token (fun r' => r' = r ∧ i_Rel (k + 5) u v) v v1 v2) u v1 v2 := by
  obtain ⟨cap, Q, A, Z, L, T, e, me, oc, ed, kd, nx, so, tx, tl, tok, xM, xR, xB, nt, tS, tE, tK, tM, tR, tB, tA, yS, yM, yR, yB, S, M, B, rfl, rfl, h⟩ := I
  have J : i_Rel (k + 5) (nI cap, nI Q, nI A, nI Z, nI L, nI T, me, nI e, ed, kd, nx, so, tx, tl, tok, xM, xR, xB) (nI cap, nI Q, nI A, nI Z, nI L, nI e, nI T, oc, ed, kd, nx, so, tx, nt, tS, tE, tK, tM, tR, tB, tA, yS, yM, yR, yB) := rb_mk (rb_C_up h)
  obtain ⟨⟨c1, c2, c3, c4, c5, c6, c7⟩, E, ht, hl, hm0, hm1⟩ := h
  have E' := E
  obtain ⟨E1, E2, E3, E4, E5, E6, E7, E8⟩ := E'
  have hT := rb_Lst_T hl
  rcases rb_c3 v1 (Q := T) (by omega) with ⟨a, _, _, _⟩ | ⟨a, _, _, b⟩ | ⟨i, hi, rfl, a, _, _, b⟩
  · exact br_t a (br_t a ⟨rfl, J⟩)
  · exact br_f a (br_f b (br_f a (br_f b ⟨rfl, J⟩)))
  · obtain ⟨o1, o2, o3, o4, o5, o6⟩ := ht i hi
    have hv : vp_in (nI i) 64 := pk_in i 64 (by omega)
    have hi' : i < 2 ^ 31 := by omega
    rcases rb_c3 v2 (Q := 6) (by omega) with ⟨c, _, _, _⟩ | ⟨c, _, _, d⟩ | ⟨f, hf, rfl, c, _, _, d⟩
    · have n : ∀ w : Int32, ¬ w < 0 → ¬ v2 = w := fun w hw z => hw (z ▸ c)
      exact br_f a (br_t b (br_t c (br_f a (br_t b (br_f (n 0 (by decide)) (br_f (n 1 (by decide)) (br_f (n 2 (by decide)) (br_f (n 3 (by decide)) (br_f (n 4 (by decide)) (br_f (n 5 (by decide)) ⟨rfl, J⟩))))))))))
    · have n : ∀ w : Int32, w < nI 6 → ¬ v2 = w := fun w hw z => d (z.symm ▸ hw)
      exact br_f a (br_t b (br_f c (br_f d (br_f a (br_t b (br_f (n 0 (by decide)) (br_f (n 1 (by decide)) (br_f (n 2 (by decide)) (br_f (n 3 (by decide)) (br_f (n 4 (by decide)) (br_f (n 5 (by decide)) ⟨rfl, J⟩)))))))))))
    · refine br_f a (br_t b (br_f c (br_t d ⟨pk_in (i * 6 + f) 384 (by omega) (rb_i6 i f), br_f a (br_t b ?_)⟩)))
      have r : ∀ (x w : Int32), w = x → tok (i * 6 + f) = x → w = tok (nI i * 6 + nI f).toNatClampNeg := fun x w h1 h2 => h1.trans (rb_rd (rb_i6 i f) (by omega) h2).symm
      match f, hf, r with
      | 0, _, r => exact br_t rfl ⟨hv, r _ _ (rb_rcl rfl hi') o1, J⟩
      | 1, _, r => exact br_f (by decide) (br_t rfl ⟨hv, r _ _ (rb_rcl rfl hi') o2, J⟩)
      | 2, _, r => exact br_f (by decide) (br_f (by decide) (br_t rfl ⟨hv, r _ _ (rb_rcl rfl hi') o3, J⟩))
      | 3, _, r => exact br_f (by decide) (br_f (by decide) (br_f (by decide) (br_t rfl ⟨hv, r _ _ (rb_rcl rfl hi') o4, J⟩)))
      | 4, _, r => exact br_f (by decide) (br_f (by decide) (br_f (by decide) (br_f (by decide) (br_t rfl ⟨hv, r _ _ (rb_rcl rfl hi') o5, J⟩))))
      | 5, _, r => exact br_f (by decide) (br_f (by decide) (br_f (by decide) (br_f (by decide) (br_f (by decide) (br_t rfl ⟨hv, r _ _ (rb_rcl rfl hi') o6, J⟩)))))
theorem i_vc_tokenAt {k : Nat} {u : SX} {v : SY} (I : i_Rel k u v) (hk : k + 5 ≤ 2564) (v1 : Int32) : wpX_tokenAt (fun r => wpY_tokenAt (fun r' => r' = r ∧ i_Rel (k + 5) u v) v v1) u v1 := by
  obtain ⟨cap, Q, A, Z, L, T, e, me, oc, ed, kd, nx, so, tx, tl, tok, xM, xR, xB, nt, tS, tE, tK, tM, tR, tB, tA, yS, yM, yR, yB, S, M, B, rfl, rfl, h⟩ := I
  have J : i_Rel (k + 5) (nI cap, nI Q, nI A, nI Z, nI L, nI T, me, nI e, ed, kd, nx, so, tx, tl, tok, xM, xR, xB) (nI cap, nI Q, nI A, nI Z, nI L, nI e, nI T, oc, ed, kd, nx, so, tx, nt, tS, tE, tK, tM, tR, tB, tA, yS, yM, yR, yB) := rb_mk (rb_C_up h)
  obtain ⟨⟨c1, c2, c3, c4, c5, c6, c7⟩, E, ht, hl, hm0, hm1⟩ := h
  have E' := E
  obtain ⟨E1, E2, E3, E4, E5, E6, E7, E8⟩ := E'
  have hT := rb_Lst_T hl
  have hSL := fun i (hi : i < T) => rb_Lst_S hl hi
  obtain ⟨l1, l2, l3, l4⟩ := hl
  have hS1 : ∀ i, i < T → S (i + 1) ≤ L := fun i hi => by
    by_cases z : i + 1 = T
    · rw [z]; omega
    · have := hSL (i + 1) (by omega); omega
  rcases rb_c3 v1 (Q := L) (by omega) with ⟨a, _, _, _⟩ | ⟨a, _, g, b⟩ | ⟨p, hp, rfl, a, _, _, b⟩
  · refine br_t a (rb_ytan (by omega) (fun i hi => Or.inl ?_) ⟨rfl, J⟩)
    rw [(l4 i hi).1]
    have := hSL i hi
    exact Int32.lt_of_lt_of_le a (nI_pos' (by omega))
  · refine br_f a (br_f b (rb_ytan (by omega) (fun i hi => Or.inr ?_) ⟨rfl, J⟩))
    rw [(l4 i hi).2.1]
    exact Int32.le_trans (nI_le (hS1 i hi) (by omega)) g
  · obtain ⟨i0, h1, h2, h3⟩ := rb_find (S := S) T (p := p) (by omega) (by omega)
    have mono : ∀ i, i < i0 → S (i + 1) ≤ p ∧ S i ≤ p := fun i hi => by
      have q1 := l3 i (by omega)
      by_cases z : i + 1 = i0
      · rw [z] at q1 ⊢; omega
      · have q2 := rb_ch_lt l3 (show i + 1 < i0 by omega) (by omega)
        omega
    refine br_f a (br_t b (rb_xtat (S := S) (by omega) (by omega) h1 (fun i hi => ⟨(ht i hi).2.1.trans (l4 i hi).2.1, ?_⟩) (fun i hi => (mono i hi).1) h3 (rb_ytat (S := S) (by omega) (by omega) h1 (fun i hi => ⟨(l4 i hi).1, (l4 i hi).2.1, ?_, ?_⟩) mono h3 h2 ⟨rfl, J⟩)))
    · have := hS1 i hi; omega
    · have := hS1 i hi; omega
    · have := hSL i hi; omega
theorem i_vc_stableCount {k : Nat} {u : SX} {v : SY} (I : i_Rel k u v) (hk : k + 5 ≤ 2564) (v1 : Int32) : wpX_stableCount (fun r => wpY_stableCount (fun r' => r' = r ∧ i_Rel (k + 5) u v) v v1) u v1 := by
  obtain ⟨cap, Q, A, Z, L, T, e, me, oc, ed, kd, nx, so, tx, tl, tok, xM, xR, xB, nt, tS, tE, tK, tM, tR, tB, tA, yS, yM, yR, yB, S, M, B, rfl, rfl, h⟩ := I
  have J : i_Rel (k + 5) (nI cap, nI Q, nI A, nI Z, nI L, nI T, me, nI e, ed, kd, nx, so, tx, tl, tok, xM, xR, xB) (nI cap, nI Q, nI A, nI Z, nI L, nI e, nI T, oc, ed, kd, nx, so, tx, nt, tS, tE, tK, tM, tR, tB, tA, yS, yM, yR, yB) := rb_mk (rb_C_up h)
  obtain ⟨⟨c1, c2, c3, c4, c5, c6, c7⟩, E, ht, hl, hm0, hm1⟩ := h
  have E' := E
  obtain ⟨E1, E2, E3, E4, E5, E6, E7, E8⟩ := E'
  have hT := rb_Lst_T hl
  by_cases a1 : v1 < 0
  · exact br_t a1 (br_t a1 ⟨rfl, J⟩)
  by_cases a2 : v1 ≤ nI L
  rotate_left
  · exact br_f a1 (br_f a2 (br_f a1 (br_f a2 ⟨rfl, J⟩)))
  obtain ⟨i0, h1, h2, h3⟩ := rb_first (fun i => tR i ≤ v1) T
  exact br_f a1 (br_t a2 (rb_xstc (tR := tR) (by omega) h1 (fun i hi => (ht i hi).2.2.2.2.1) h2 h3 (br_f a1 (br_t a2 (rb_ystc (by omega) h1 h2 h3 ⟨rfl, J⟩)))))
theorem i_vc_endMode {k : Nat} {u : SX} {v : SY} (I : i_Rel k u v) (hk : k + 5 ≤ 2564) : wpX_endMode (fun r => wpY_endMode (fun r' => r' = r ∧ i_Rel (k + 5) u v) v) u := by
  obtain ⟨cap, Q, A, Z, L, T, e, me, oc, ed, kd, nx, so, tx, tl, tok, xM, xR, xB, nt, tS, tE, tK, tM, tR, tB, tA, yS, yM, yR, yB, S, M, B, rfl, rfl, h⟩ := I
  have J : i_Rel (k + 5) (nI cap, nI Q, nI A, nI Z, nI L, nI T, me, nI e, ed, kd, nx, so, tx, tl, tok, xM, xR, xB) (nI cap, nI Q, nI A, nI Z, nI L, nI e, nI T, oc, ed, kd, nx, so, tx, nt, tS, tE, tK, tM, tR, tB, tA, yS, yM, yR, yB) := rb_mk (rb_C_up h)
  obtain ⟨⟨c1, c2, c3, c4, c5, c6, c7⟩, E, ht, hl, hm0, hm1⟩ := h
  have E' := E
  obtain ⟨E1, E2, E3, E4, E5, E6, E7, E8⟩ := E'
  have hT := rb_Lst_T hl
  refine pk_eq T 0 (fun z => ⟨(hm0 z).symm, J⟩) (fun z => ?_)
  obtain ⟨i, ei⟩ : ∃ i, T = i + 1 := ⟨T - 1, by omega⟩
  have ep : nI T - 1 = nI i := by rw [ei]; exact nI_pred i
  exact ⟨pk_in i 64 (by omega) ep, (rb_rd ep (by omega) (hm1 i ei).symm), J⟩
end
