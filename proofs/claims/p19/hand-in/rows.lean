section
/-! whole: the mathematics, free of every printed name but nI, upd. Tables are functions; A alphabet, L length, Q states, Z modes -/
theorem rb_uu {f : Nat → Int32} {k : Nat} {x y : Int32} : upd (upd f k x) k y = upd f k y := by
  funext j
  by_cases h : j = k <;> simp [upd, h]
theorem rb_m1 {n : Nat} (h : n < 2 ^ 31) : ¬ nI n = -1 := by
  intro e
  have h1 := nI_toInt h
  rw [e] at h1
  have h2 : (-1 : Int32).toInt = -1 := by decide
  omega
/-- some edge leaves state s under a symbol below the last argument -/
def rb_he (ed : Nat → Int32) (s : Nat) : Nat → Bool
  | 0 => false
  | c + 1 => rb_he ed s c || decide (¬ ed (s * 8 + c) = -1)
theorem rb_he_f {ed : Nat → Int32} {s : Nat} : ∀ A : Nat, (∀ c, c < A → ed (s * 8 + c) = -1) → rb_he ed s A = false := by
  intro A
  induction A with
  | zero => intro _; rfl
  | succ A ih =>
    intro h
    have h1 := ih (fun c hc => h c (by omega))
    have h2 := h A (by omega)
    simp [rb_he, h1, h2]
theorem rb_he_t {ed : Nat → Int32} {s c : Nat} (h : ¬ ed (s * 8 + c) = -1) : ∀ A : Nat, c < A → rb_he ed s A = true := by
  intro A
  induction A with
  | zero => intro z; omega
  | succ A ih =>
    intro hc
    by_cases e : c = A
    · subst e; simp [rb_he, h]
    · have h1 := ih (by omega)
      simp [rb_he, h1]
/-- the mode after a token that ends in state s, begun in mode m -/
def rb_af (nx : Nat → Int32) (m s : Nat) : Nat := if nx s = -1 then m else (nx s).toNatClampNeg
/-- (END, KIND, mode after), as it stands behind a step to state s over position q -/
def rb_up (kd nx : Nat → Int32) (m q s : Nat) (b : Nat × Int32 × Nat) : Nat × Int32 × Nat :=
  if kd s = 0 then b else (q + 1, kd s, rb_af nx m s)
/-- the scan: fuel, state, q, best; gives looked and best -/
def rb_sc (ed kd nx tx : Nat → Int32) (A L m : Nat) : Nat → Nat → Nat → Nat × Int32 × Nat → Nat × Nat × Int32 × Nat
  | 0, _, q, b => (q, b)
  | d + 1, s, q, b =>
    if rb_he ed s A = false then (q, b)
    else if L ≤ q then (q + 1, b)
    else if ed (s * 8 + (tx q).toNatClampNeg) = -1 then (q + 1, b)
    else rb_sc ed kd nx tx A L m d (ed (s * 8 + (tx q).toNatClampNeg)).toNatClampNeg (q + 1) (rb_up kd nx m q (ed (s * 8 + (tx q).toNatClampNeg)).toNatClampNeg b)
theorem rb_sc1 {ed kd nx tx : Nat → Int32} {A L m d s q : Nat} {b : Nat × Int32 × Nat} (h : rb_he ed s A = false) : rb_sc ed kd nx tx A L m (d + 1) s q b = (q, b) := by
  rw [rb_sc, if_pos h]
theorem rb_sc2 {ed kd nx tx : Nat → Int32} {A L m d s q : Nat} {b : Nat × Int32 × Nat} (h : rb_he ed s A = true) (h2 : L ≤ q) : rb_sc ed kd nx tx A L m (d + 1) s q b = (q + 1, b) := by
  rw [rb_sc, if_neg (by rw [h]; decide), if_pos h2]
theorem rb_sc3 {ed kd nx tx : Nat → Int32} {A L m d s q c : Nat} {b : Nat × Int32 × Nat} (h : rb_he ed s A = true) (h2 : q < L) (hc : (tx q).toNatClampNeg = c) (h3 : ed (s * 8 + c) = -1) : rb_sc ed kd nx tx A L m (d + 1) s q b = (q + 1, b) := by
  subst hc
  rw [rb_sc, if_neg (by rw [h]; decide), if_neg (by omega), if_pos h3]
theorem rb_sc4 {ed kd nx tx : Nat → Int32} {A L m d s q c j : Nat} {b : Nat × Int32 × Nat} (h : rb_he ed s A = true) (h2 : q < L) (hc : (tx q).toNatClampNeg = c) (hj : j < 2 ^ 31) (h3 : ed (s * 8 + c) = nI j) : rb_sc ed kd nx tx A L m (d + 1) s q b = rb_sc ed kd nx tx A L m d j (q + 1) (rb_up kd nx m q j b) := by
  subst hc
  rw [rb_sc, if_neg (by rw [h]; decide), if_neg (by omega), if_neg (by rw [h3]; exact rb_m1 hj), h3, nI_clamp hj]
/-- the tables and the text are within -/
def rb_Env (ed nx so tx : Nat → Int32) (A L Q Z : Nat) : Prop :=
  A ≤ 8 ∧ Q ≤ 16 ∧ Z ≤ 4 ∧ L ≤ 64 ∧ (∀ i, ed i = -1 ∨ ∃ j, j < Q ∧ ed i = nI j) ∧ (∀ i, nx i = -1 ∨ ∃ j, j < Z ∧ nx i = nI j) ∧ (∀ i, ∃ j, j < Q ∧ so i = nI j) ∧ (∀ i, i < L → ∃ c, c < A ∧ tx i = nI c)
theorem rb_af_lt {nx : Nat → Int32} {Z m s : Nat} (hZ : Z ≤ 4) (hx : ∀ i, nx i = -1 ∨ ∃ j, j < Z ∧ nx i = nI j) (hm : m < Z) : rb_af nx m s < Z := by
  unfold rb_af
  by_cases h : nx s = -1
  · rw [if_pos h]; exact hm
  · rw [if_neg h]
    rcases hx s with h1 | ⟨j, hj, e⟩
    · exact absurd h1 h
    · rw [e, nI_clamp (by omega)]; exact hj
theorem rb_af_s {nx : Nat → Int32} {m s : Nat} (h : nx s = -1) : rb_af nx m s = m := if_pos h
theorem rb_af_nI {nx : Nat → Int32} {Z m s : Nat} (hZ : Z ≤ 4) (hx : ∀ i, nx i = -1 ∨ ∃ j, j < Z ∧ nx i = nI j) (h : ¬ nx s = -1) : nx s = nI (rb_af nx m s) := by
  unfold rb_af
  rw [if_neg h]
  rcases hx s with h1 | ⟨j, hj, e⟩
  · exact absurd h1 h
  · rw [e, nI_clamp (by omega)]
theorem rb_up_ok {kd nx : Nat → Int32} {Z L m q s f : Nat} {b : Nat × Int32 × Nat} (hZ : Z ≤ 4) (hx : ∀ i, nx i = -1 ∨ ∃ j, j < Z ∧ nx i = nI j) (hm : m < Z) (hq : q < L) (hf : f ≤ q)
    (hb : f < b.1 ∧ b.1 ≤ L ∧ b.2.2 < Z) : f < (rb_up kd nx m q s b).1 ∧ (rb_up kd nx m q s b).1 ≤ L ∧ (rb_up kd nx m q s b).2.2 < Z := by
  unfold rb_up
  by_cases h : kd s = 0
  · rw [if_pos h]; exact hb
  · rw [if_neg h]; exact ⟨by show f < q + 1; omega, by show q + 1 ≤ L; omega, rb_af_lt hZ hx hm⟩
theorem rb_sc_ok {ed kd nx tx : Nat → Int32} {A L m Z f : Nat} (hZ : Z ≤ 4) (hx : ∀ i, nx i = -1 ∨ ∃ j, j < Z ∧ nx i = nI j) (hm : m < Z) :
    ∀ (d s q : Nat) (b : Nat × Int32 × Nat), f ≤ q → (f < b.1 ∧ b.1 ≤ L ∧ b.2.2 < Z) →
      f < (rb_sc ed kd nx tx A L m d s q b).2.1 ∧ (rb_sc ed kd nx tx A L m d s q b).2.1 ≤ L ∧ (rb_sc ed kd nx tx A L m d s q b).2.2.2 < Z := by
  intro d
  induction d with
  | zero => intro s q b _ hb; exact hb
  | succ d ih =>
    intro s q b hq hb
    unfold rb_sc
    by_cases h1 : rb_he ed s A = false
    · rw [if_pos h1]; exact hb
    · rw [if_neg h1]
      by_cases h2 : L ≤ q
      · rw [if_pos h2]; exact hb
      · rw [if_neg h2]
        by_cases h3 : ed (s * 8 + (tx q).toNatClampNeg) = -1
        · rw [if_pos h3]; exact hb
        · rw [if_neg h3]
          exact ih _ _ _ (by omega) (rb_up_ok hZ hx hm (by omega) hq hb)
/-- looked stays within -/
theorem rb_sc_lk {ed kd nx tx : Nat → Int32} {A L m : Nat} :
    ∀ (d s q : Nat) (b : Nat × Int32 × Nat), (rb_sc ed kd nx tx A L m d s q b).1 ≤ q + d := by
  intro d
  induction d with
  | zero => intro s q b; exact Nat.le_refl _
  | succ d ih =>
    intro s q b
    unfold rb_sc
    by_cases h1 : rb_he ed s A = false
    · rw [if_pos h1]; show q ≤ q + (d + 1); omega
    · rw [if_neg h1]
      by_cases h2 : L ≤ q
      · rw [if_pos h2]; show q + 1 ≤ q + (d + 1); omega
      · rw [if_neg h2]
        by_cases h3 : ed (s * 8 + (tx q).toNatClampNeg) = -1
        · rw [if_pos h3]; show q + 1 ≤ q + (d + 1); omega
        · rw [if_neg h3]
          have h4 := ih (ed (s * 8 + (tx q).toNatClampNeg)).toNatClampNeg (q + 1) (rb_up kd nx m q (ed (s * 8 + (tx q).toNatClampNeg)).toNatClampNeg b)
          omega
/-- the token at s in mode m: looked, END, KIND, mode after -/
def rb_tk (ed kd nx so tx : Nat → Int32) (A L s m : Nat) : Nat × Nat × Int32 × Nat :=
  rb_sc ed kd nx tx A L m (L + 1 - s) (so m).toNatClampNeg s (s + 1, 0, m)
/-- START and MODE of token i -/
def rb_sm (ed kd nx so tx : Nat → Int32) (A L : Nat) : Nat → Nat × Nat
  | 0 => (0, 0)
  | i + 1 => ((rb_tk ed kd nx so tx A L (rb_sm ed kd nx so tx A L i).1 (rb_sm ed kd nx so tx A L i).2).2.1,
              (rb_tk ed kd nx so tx A L (rb_sm ed kd nx so tx A L i).1 (rb_sm ed kd nx so tx A L i).2).2.2.2)
theorem rb_tk_ok {ed kd nx so tx : Nat → Int32} {A L s m Q Z : Nat} (E : rb_Env ed nx so tx A L Q Z) (hm : m < Z) (hs : s < L) :
    s < (rb_tk ed kd nx so tx A L s m).2.1 ∧ (rb_tk ed kd nx so tx A L s m).2.1 ≤ L ∧ (rb_tk ed kd nx so tx A L s m).2.2.2 < Z :=
  rb_sc_ok E.2.2.1 E.2.2.2.2.2.1 hm _ _ _ _ (Nat.le_refl _) ⟨by show s < s + 1; omega, by show s + 1 ≤ L; omega, hm⟩
theorem rb_tk_lk {ed kd nx so tx : Nat → Int32} {A L s m : Nat} (hs : s < L) : (rb_tk ed kd nx so tx A L s m).1 ≤ L + 1 := by
  have h := rb_sc_lk (ed := ed) (kd := kd) (nx := nx) (tx := tx) (A := A) (L := L) (m := m) (L + 1 - s) (so m).toNatClampNeg s (s + 1, 0, m)
  unfold rb_tk
  omega
theorem rb_T_ex {ed kd nx so tx : Nat → Int32} {A L Q Z : Nat} (E : rb_Env ed nx so tx A L Q Z) : ∀ d i : Nat,
    (rb_sm ed kd nx so tx A L i).1 ≤ L → L - (rb_sm ed kd nx so tx A L i).1 ≤ d → (rb_sm ed kd nx so tx A L i).2 < Z →
    (∀ j, j < i → (rb_sm ed kd nx so tx A L j).1 < L ∧ (rb_sm ed kd nx so tx A L j).2 < Z ∧ (rb_sm ed kd nx so tx A L j).1 < (rb_sm ed kd nx so tx A L (j + 1)).1) →
    ∃ T, (∀ j, j < T → (rb_sm ed kd nx so tx A L j).1 < L ∧ (rb_sm ed kd nx so tx A L j).2 < Z ∧ (rb_sm ed kd nx so tx A L j).1 < (rb_sm ed kd nx so tx A L (j + 1)).1) ∧
      (rb_sm ed kd nx so tx A L T).1 = L ∧ (rb_sm ed kd nx so tx A L T).2 < Z := by
  intro d
  induction d with
  | zero => intro i h1 h2 h3 h4; exact ⟨i, h4, by omega, h3⟩
  | succ d ih =>
    intro i h1 h2 h3 h4
    by_cases h : (rb_sm ed kd nx so tx A L i).1 = L
    · exact ⟨i, h4, h, h3⟩
    · have ok := rb_tk_ok (kd := kd) E h3 (s := (rb_sm ed kd nx so tx A L i).1) (by omega)
      have e1 : (rb_sm ed kd nx so tx A L (i + 1)).1 = (rb_tk ed kd nx so tx A L (rb_sm ed kd nx so tx A L i).1 (rb_sm ed kd nx so tx A L i).2).2.1 := rfl
      have e2 : (rb_sm ed kd nx so tx A L (i + 1)).2 = (rb_tk ed kd nx so tx A L (rb_sm ed kd nx so tx A L i).1 (rb_sm ed kd nx so tx A L i).2).2.2.2 := rfl
      rw [← e1, ← e2] at ok
      exact ih (i + 1) ok.2.1 (by omega) ok.2.2 (lt_s h4 ⟨by omega, h3, ok.1⟩)
theorem rb_ch {S : Nat → Nat} {T : Nat} (h : ∀ i, i < T → S i < S (i + 1)) (i : Nat) : ∀ d, i + d ≤ T → S i + d ≤ S (i + d) := by
  intro d
  induction d with
  | zero => intro _; exact Nat.le_refl _
  | succ d ih =>
    intro hd
    have h1 := ih (by omega)
    have h2 := h (i + d) (by omega)
    show S i + (d + 1) ≤ S (i + d + 1)
    omega
theorem rb_ch_lt {S : Nat → Nat} {T i j : Nat} (h : ∀ i, i < T → S i < S (i + 1)) (hij : i < j) (hj : j ≤ T) : S i < S j := by
  have h1 := rb_ch h i (j - i) (by omega)
  rw [show i + (j - i) = j by omega] at h1
  omega
theorem rb_ch_in {S : Nat → Nat} {T : Nat} (h : ∀ i, i < T → S i < S (i + 1)) (i j : Nat) (hi : i < T) (hj : j < T) (e : S i = S j) : i = j := by
  rcases Nat.lt_trichotomy i j with h1 | h1 | h1
  · have h2 := rb_ch_lt h h1 (by omega); omega
  · exact h1
  · have h2 := rb_ch_lt h h1 (by omega); omega
/-- the token list of a text: T tokens -/
theorem rb_T {ed kd nx so tx : Nat → Int32} {A L Q Z : Nat} (E : rb_Env ed nx so tx A L Q Z) (hZ : 0 < Z) :
    ∃ T, T ≤ L ∧ (∀ j, j < T → (rb_sm ed kd nx so tx A L j).1 < L ∧ (rb_sm ed kd nx so tx A L j).2 < Z ∧ (rb_sm ed kd nx so tx A L j).1 < (rb_sm ed kd nx so tx A L (j + 1)).1) ∧
      (rb_sm ed kd nx so tx A L T).1 = L ∧ (rb_sm ed kd nx so tx A L T).2 < Z := by
  obtain ⟨T, h1, h2, h3⟩ := rb_T_ex (kd := kd) E L 0 (Nat.zero_le _) (Nat.sub_le _ _) hZ lt_0
  have h4 := rb_ch (S := fun i => (rb_sm ed kd nx so tx A L i).1) (T := T) (fun i hi => (h1 i hi).2.2) 0 T (by omega)
  have h5 : (rb_sm ed kd nx so tx A L 0).1 + T ≤ (rb_sm ed kd nx so tx A L (0 + T)).1 := h4
  rw [Nat.zero_add] at h5
  exact ⟨T, by omega, h1, h2, h3⟩
/-! births: the old list is (c, S, M, R, B) -/
def rb_F (S M : Nat → Nat) (R : Nat → Int32) (pos del n s m j : Nat) : Prop :=
  M j = m ∧ ((s < pos ∧ S j = s ∧ R j ≤ nI pos) ∨ (pos + n ≤ s ∧ S j + n = s + del))
noncomputable def rb_bn (c : Nat) (S M : Nat → Nat) (R : Nat → Int32) (B : Nat → Nat) (pos del n e s m : Nat) : Nat :=
  @dite _ (∃ j, j < c ∧ rb_F S M R pos del n s m j) (Classical.propDecidable _) (fun h => B h.choose) (fun _ => e + 1)
theorem rb_bn_n {c : Nat} {S M : Nat → Nat} {R : Nat → Int32} {B : Nat → Nat} {pos del n e s m : Nat} (h : ∀ j, j < c → ¬ rb_F S M R pos del n s m j) : rb_bn c S M R B pos del n e s m = e + 1 := by
  unfold rb_bn
  exact dif_neg (fun ⟨j, hj, hF⟩ => h j hj hF)
theorem rb_F_u {S M : Nat → Nat} {R : Nat → Int32} {pos del n s m i j : Nat} (hi : rb_F S M R pos del n s m i) (hj : rb_F S M R pos del n s m j) : S i = S j := by
  rcases hi with ⟨_, ⟨a, b, _⟩ | ⟨a, b⟩⟩ <;> rcases hj with ⟨_, ⟨a', b', _⟩ | ⟨a', b'⟩⟩ <;> omega
theorem rb_bn_s {c : Nat} {S M : Nat → Nat} {R : Nat → Int32} {B : Nat → Nat} {pos del n e s m j : Nat} (hS : ∀ i j, i < c → j < c → S i = S j → i = j) (hj : j < c) (hF : rb_F S M R pos del n s m j) : rb_bn c S M R B pos del n e s m = B j := by
  have h : ∃ j, j < c ∧ rb_F S M R pos del n s m j := ⟨j, hj, hF⟩
  unfold rb_bn
  rw [dif_pos h]
  have e1 : h.choose = j := hS _ _ h.choose_spec.1 hj (rb_F_u h.choose_spec.2 hF)
  rw [e1]
theorem rb_bn_le {c : Nat} {S M : Nat → Nat} {R : Nat → Int32} {B : Nat → Nat} {pos del n e s m : Nat} (hB : ∀ j, j < c → B j ≤ e) : rb_bn c S M R B pos del n e s m ≤ e + 1 := by
  unfold rb_bn
  by_cases h : ∃ j, j < c ∧ rb_F S M R pos del n s m j
  · rw [dif_pos h]
    have h1 := hB _ h.choose_spec.1
    omega
  · rw [dif_neg h]
    exact Nat.le_refl _
/-- how many of the first i births are the number e -/
def rb_fr (e : Nat) (b : Nat → Nat) : Nat → Nat
  | 0 => 0
  | i + 1 => if b i = e then rb_fr e b i + 1 else rb_fr e b i
theorem rb_fr_le (e : Nat) (b : Nat → Nat) : ∀ i, rb_fr e b i ≤ i := by
  intro i
  induction i with
  | zero => exact Nat.le_refl _
  | succ i ih =>
    unfold rb_fr
    by_cases h : b i = e
    · rw [if_pos h]; omega
    · rw [if_neg h]; omega
theorem rb_fr_t {e : Nat} {b : Nat → Nat} {i : Nat} (h : b i = e) : rb_fr e b (i + 1) = rb_fr e b i + 1 := if_pos h
theorem rb_fr_f {e : Nat} {b : Nat → Nat} {i : Nat} (h : b i ≠ e) : rb_fr e b (i + 1) = rb_fr e b i := if_neg h
/-- the class's three arrays by START hold the old list -/
def rb_Old (c : Nat) (S M : Nat → Nat) (R : Nat → Int32) (B : Nat → Nat) (oM oR oB : Nat → Int32) : Prop :=
  (∀ j, j < c → oM (S j) = nI (M j) ∧ oR (S j) = R j ∧ oB (S j) = nI (B j)) ∧ (∀ p, p < 64 → (∀ j, j < c → ¬ S j = p) → oM p = -1)
/-! the new text -/
def rb_nt (tx sy : Nat → Int32) (L pos del n : Nat) : Nat → Int32 := fun i =>
  if i < pos then tx i else if i < pos + n then sy (i - pos) else if i < L - del + n then tx (i + del - n) else tx i
def rb_w2 (tx sy : Nat → Int32) (pos k : Nat) : Nat → Int32 := fun i =>
  if i < pos then tx i else if i < pos + k then sy (i - pos) else tx i
def rb_w3 (tx sy : Nat → Int32) (pos del n k : Nat) : Nat → Int32 := fun i =>
  if i < pos then tx i else if i < pos + n then sy (i - pos) else if i < pos + n + k then tx (i + del - n) else tx i
theorem rb_w2_0 {tx sy : Nat → Int32} {pos : Nat} : rb_w2 tx sy pos 0 = tx := by
  funext i
  unfold rb_w2
  by_cases h : i < pos
  · rw [if_pos h]
  · rw [if_neg h, if_neg (show ¬ i < pos + 0 by omega)]
theorem rb_w2_s {tx sy : Nat → Int32} {pos k : Nat} : upd (rb_w2 tx sy pos k) (pos + k) (sy k) = rb_w2 tx sy pos (k + 1) := by
  funext i
  unfold upd rb_w2
  by_cases h1 : i = pos + k
  · subst h1
    rw [if_pos rfl, if_neg (show ¬ pos + k < pos by omega), if_pos (show pos + k < pos + (k + 1) by omega), show pos + k - pos = k by omega]
  · rw [if_neg h1]
    by_cases h2 : i < pos
    · rw [if_pos h2, if_pos h2]
    · rw [if_neg h2, if_neg h2]
      by_cases h3 : i < pos + k
      · rw [if_pos h3, if_pos (show i < pos + (k + 1) by omega)]
      · rw [if_neg h3, if_neg (show ¬ i < pos + (k + 1) by omega)]
theorem rb_w3_0 {tx sy : Nat → Int32} {pos del n : Nat} : rb_w3 tx sy pos del n 0 = rb_w2 tx sy pos n := by
  funext i
  unfold rb_w3 rb_w2
  by_cases h2 : i < pos
  · rw [if_pos h2, if_pos h2]
  · rw [if_neg h2, if_neg h2]
    by_cases h3 : i < pos + n
    · rw [if_pos h3, if_pos h3]
    · rw [if_neg h3, if_neg h3, if_neg (show ¬ i < pos + n + 0 by omega)]
theorem rb_w3_s {tx sy : Nat → Int32} {pos del n k : Nat} : upd (rb_w3 tx sy pos del n k) (pos + n + k) (tx (pos + del + k)) = rb_w3 tx sy pos del n (k + 1) := by
  funext i
  unfold upd rb_w3
  by_cases h1 : i = pos + n + k
  · subst h1
    rw [if_pos rfl, if_neg (show ¬ pos + n + k < pos by omega), if_neg (show ¬ pos + n + k < pos + n by omega), if_pos (show pos + n + k < pos + n + (k + 1) by omega), show pos + n + k + del - n = pos + del + k by omega]
  · rw [if_neg h1]
    by_cases h2 : i < pos
    · rw [if_pos h2, if_pos h2]
    · rw [if_neg h2, if_neg h2]
      by_cases h3 : i < pos + n
      · rw [if_pos h3, if_pos h3]
      · rw [if_neg h3, if_neg h3]
        by_cases h4 : i < pos + n + k
        · rw [if_pos h4, if_pos (show i < pos + n + (k + 1) by omega)]
        · rw [if_neg h4, if_neg (show ¬ i < pos + n + (k + 1) by omega)]
theorem rb_w3_e {tx sy : Nat → Int32} {L pos del n : Nat} (h : pos + del ≤ L) : rb_w3 tx sy pos del n (L - pos - del) = rb_nt tx sy L pos del n := by
  funext i
  unfold rb_w3 rb_nt
  rw [show pos + n + (L - pos - del) = L - del + n by omega]
def rb_y2 (nt tx : Nat → Int32) (k : Nat) : Nat → Int32 := fun i => if i < k then nt i else tx i
theorem rb_y2_0 {nt tx : Nat → Int32} : rb_y2 nt tx 0 = tx := by
  funext i
  exact if_neg (Nat.not_lt_zero i)
theorem rb_y2_s {nt tx : Nat → Int32} {k : Nat} : upd (rb_y2 nt tx k) k (nt k) = rb_y2 nt tx (k + 1) := by
  funext i
  unfold upd rb_y2
  by_cases h1 : i = k
  · subst h1
    rw [if_pos rfl, if_pos (show i < i + 1 by omega)]
  · rw [if_neg h1]
    by_cases h2 : i < k
    · rw [if_pos h2, if_pos (show i < k + 1 by omega)]
    · rw [if_neg h2, if_neg (show ¬ i < k + 1 by omega)]
theorem rb_y2_e {tx sy : Nat → Int32} {L pos del n : Nat} (h : pos + del ≤ L) : rb_y2 (rb_nt tx sy L pos del n) tx (L - del + n) = rb_nt tx sy L pos del n := by
  funext i
  unfold rb_y2
  by_cases h1 : i < L - del + n
  · rw [if_pos h1]
  · rw [if_neg h1]
    unfold rb_nt
    rw [if_neg (show ¬ i < pos by omega), if_neg (show ¬ i < pos + n by omega), if_neg h1]
theorem rb_nt_1 {tx sy : Nat → Int32} {L pos del n i : Nat} (h : i < pos) : rb_nt tx sy L pos del n i = tx i := if_pos h
theorem rb_nt_2 {tx sy : Nat → Int32} {L pos del n i : Nat} (h : pos ≤ i) (h2 : i < pos + n) : rb_nt tx sy L pos del n i = sy (i - pos) := by
  unfold rb_nt
  rw [if_neg (by omega), if_pos h2]
theorem rb_nt_3 {tx sy : Nat → Int32} {L pos del n i : Nat} (h : pos + n ≤ i) (h2 : i < L - del + n) : rb_nt tx sy L pos del n i = tx (i + del - n) := by
  unfold rb_nt
  rw [if_neg (by omega), if_neg (by omega), if_pos h2]
theorem rb_nt_in {tx sy : Nat → Int32} {A L pos del n : Nat} (hd : pos + del ≤ L) (ht : ∀ i, i < L → ∃ c, c < A ∧ tx i = nI c) (hs : ∀ k, k < n → ∃ c, c < A ∧ sy k = nI c) :
    ∀ i, i < L - del + n → ∃ c, c < A ∧ rb_nt tx sy L pos del n i = nI c := by
  intro i hi
  by_cases h1 : i < pos
  · rw [rb_nt_1 h1]; exact ht i (by omega)
  · by_cases h2 : i < pos + n
    · rw [rb_nt_2 (by omega) h2]; exact hs _ (by omega)
    · rw [rb_nt_3 (by omega) hi]; exact ht _ (by omega)
end
section
/-! births on the class's side: the look-up by START is the reference's search -/
theorem rb_old_at {c : Nat} {S M : Nat → Nat} {R : Nat → Int32} {B : Nat → Nat} {oM oR oB : Nat → Int32} {p m : Nat} (O : rb_Old c S M R B oM oR oB) (hM : ∀ j, j < c → M j < 4) (hm : m < 4) (hp : p < 64) (h : oM p = nI m) :
    ∃ j, j < c ∧ S j = p ∧ M j = m ∧ oR p = R j ∧ oB p = nI (B j) := by
  by_cases hj : ∃ j, j < c ∧ S j = p
  · obtain ⟨j, hj, e⟩ := hj
    obtain ⟨h1, h2, h3⟩ := O.1 j hj
    have h4 := hM j hj
    rw [e] at h1 h2 h3
    rw [h1] at h
    exact ⟨j, hj, e, (nI_eq (by omega) (by omega)).mp h, h2, h3⟩
  · have h1 := O.2 p hp (fun j h1 h2 => hj ⟨j, h1, h2⟩)
    rw [h1] at h
    exact absurd h.symm (rb_m1 (by omega))
theorem rb_xb1 {c : Nat} {S M : Nat → Nat} {R : Nat → Int32} {B : Nat → Nat} {oM oR oB : Nat → Int32} {pos del n e s m : Nat} (O : rb_Old c S M R B oM oR oB) (hS : ∀ i j, i < c → j < c → S i = S j → i = j) (hM : ∀ j, j < c → M j < 4) (hm : m < 4) (hs : s < 64)
    (h : s < pos) (h1 : oM s = nI m) (h2 : oR s ≤ nI pos) : oB s = nI (rb_bn c S M R B pos del n e s m) := by
  obtain ⟨j, hj, a, b, d, f⟩ := rb_old_at O hM hm hs h1
  rw [d] at h2
  rw [f, rb_bn_s hS hj ⟨b, Or.inl ⟨h, a, h2⟩⟩]
theorem rb_xb1n {c : Nat} {S M : Nat → Nat} {R : Nat → Int32} {B : Nat → Nat} {oM oR oB : Nat → Int32} {pos del n e s m : Nat} (O : rb_Old c S M R B oM oR oB)
    (h : s < pos) (h1 : ¬ (oM s = nI m ∧ oR s ≤ nI pos)) : rb_bn c S M R B pos del n e s m = e + 1 := by
  refine rb_bn_n (fun j hj hF => h1 ?_)
  obtain ⟨a, ⟨_, b, d⟩ | ⟨b, _⟩⟩ := hF
  · obtain ⟨g1, g2, _⟩ := O.1 j hj
    rw [b] at g1 g2
    exact ⟨by rw [g1, a], by rw [g2]; exact d⟩
  · omega
theorem rb_xb2 {c : Nat} {S M : Nat → Nat} {R : Nat → Int32} {B : Nat → Nat} {oM oR oB : Nat → Int32} {pos del n e s m p : Nat} (O : rb_Old c S M R B oM oR oB) (hS : ∀ i j, i < c → j < c → S i = S j → i = j) (hM : ∀ j, j < c → M j < 4) (hm : m < 4) (hp : p < 64)
    (h : pos + n ≤ s) (hps : p + n = s + del) (h1 : oM p = nI m) : oB p = nI (rb_bn c S M R B pos del n e s m) := by
  obtain ⟨j, hj, a, b, d, f⟩ := rb_old_at O hM hm hp h1
  rw [f, rb_bn_s hS hj ⟨b, Or.inr ⟨h, by omega⟩⟩]
theorem rb_xb2n {c : Nat} {S M : Nat → Nat} {R : Nat → Int32} {B : Nat → Nat} {oM oR oB : Nat → Int32} {pos del n e s m p : Nat} (O : rb_Old c S M R B oM oR oB)
    (h : pos + n ≤ s) (hps : p + n = s + del) (h1 : ¬ oM p = nI m) : rb_bn c S M R B pos del n e s m = e + 1 := by
  refine rb_bn_n (fun j hj hF => h1 ?_)
  obtain ⟨a, ⟨b, _, _⟩ | ⟨_, b⟩⟩ := hF
  · omega
  · obtain ⟨g1, _, _⟩ := O.1 j hj
    rw [show S j = p by omega] at g1
    rw [g1, a]
theorem rb_xb3 {c : Nat} {S M : Nat → Nat} {R : Nat → Int32} {B : Nat → Nat} {pos del n e s m : Nat} (h : pos ≤ s) (h2 : s < pos + n) : rb_bn c S M R B pos del n e s m = e + 1 := by
  refine rb_bn_n (fun j hj hF => ?_)
  obtain ⟨a, ⟨b, _, _⟩ | ⟨b, _⟩⟩ := hF <;> omega
/-- the class's remembering, one token more -/
theorem rb_old_s {i : Nat} {S M : Nat → Nat} {R : Nat → Int32} {B : Nat → Nat} {oM oR oB : Nat → Int32} (O : rb_Old i S M R B oM oR oB) (hS : ∀ j, j < i → ¬ S j = S i) :
    rb_Old (i + 1) S M R B (upd oM (S i) (nI (M i))) (upd oR (S i) (R i)) (upd oB (S i) (nI (B i))) := by
  refine ⟨fun j hj => ?_, fun p hp h => ?_⟩
  · by_cases e : j = i
    · rw [e, pk_us, pk_us, pk_us]; exact ⟨rfl, rfl, rfl⟩
    · have h1 := hS j (by omega)
      rw [pk_un h1, pk_un h1, pk_un h1]
      exact O.1 j (by omega)
  · have h1 := h i (by omega)
    rw [pk_un (fun z => h1 z.symm)]
    exact O.2 p hp (fun j hj => h j (by omega))
/-- what the reference's search has found among the first j -/
def rb_Fd (S M : Nat → Nat) (R : Nat → Int32) (pos del n s m j : Nat) (x : Int32) : Prop :=
  (x = -1 ∧ ∀ i, i < j → ¬ rb_F S M R pos del n s m i) ∨ (∃ i, i < j ∧ rb_F S M R pos del n s m i ∧ x = nI i)
theorem rb_Fd_0 {S M : Nat → Nat} {R : Nat → Int32} {pos del n s m : Nat} : rb_Fd S M R pos del n s m 0 (-1) := Or.inl ⟨rfl, lt_0⟩
theorem rb_Fd_t {S M : Nat → Nat} {R : Nat → Int32} {pos del n s m j : Nat} (h : rb_F S M R pos del n s m j) : rb_Fd S M R pos del n s m (j + 1) (nI j) := Or.inr ⟨j, by omega, h, rfl⟩
theorem rb_Fd_f {S M : Nat → Nat} {R : Nat → Int32} {pos del n s m j : Nat} {x : Int32} (I : rb_Fd S M R pos del n s m j x) (h : ¬ rb_F S M R pos del n s m j) : rb_Fd S M R pos del n s m (j + 1) x := by
  rcases I with ⟨a, b⟩ | ⟨i, a, b, d⟩
  · exact Or.inl ⟨a, lt_s b h⟩
  · exact Or.inr ⟨i, by omega, b, d⟩
end
section
/-! p19: tokens whose REACH is at most pos stay as they are over an edit at pos -/
theorem rb_sc_ge {ed kd nx tx : Nat → Int32} {A L m : Nat} :
    ∀ (d s q : Nat) (b : Nat × Int32 × Nat), q ≤ (rb_sc ed kd nx tx A L m d s q b).1 := by
  intro d
  induction d with
  | zero => intro s q b; exact Nat.le_refl _
  | succ d ih =>
    intro s q b
    unfold rb_sc
    by_cases h1 : rb_he ed s A = false
    · rw [if_pos h1]; exact Nat.le_refl _
    · rw [if_neg h1]
      by_cases h2 : L ≤ q
      · rw [if_pos h2]; exact Nat.le_succ _
      · rw [if_neg h2]
        by_cases h3 : ed (s * 8 + (tx q).toNatClampNeg) = -1
        · rw [if_pos h3]; exact Nat.le_succ _
        · rw [if_neg h3]
          have h4 := ih (ed (s * 8 + (tx q).toNatClampNeg)).toNatClampNeg (q + 1) (rb_up kd nx m q (ed (s * 8 + (tx q).toNatClampNeg)).toNatClampNeg b)
          omega
theorem rb_sc_same {ed kd nx tx tx' : Nat → Int32} {A L L' m pos : Nat} (h1 : pos ≤ L) (h2 : pos ≤ L') (ht : ∀ i, i < pos → tx i = tx' i) :
    ∀ (d d' s q : Nat) (b : Nat × Int32 × Nat), L + 1 - q ≤ d → L' + 1 - q ≤ d' → q ≤ L → q ≤ L' → (rb_sc ed kd nx tx A L m d s q b).1 ≤ pos →
      rb_sc ed kd nx tx' A L' m d' s q b = rb_sc ed kd nx tx A L m d s q b := by
  intro d
  induction d with
  | zero => intro d' s q b a1 a2 a3 a4 a5; omega
  | succ d ih =>
    intro d' s q b a1 a2 a3 a4 a5
    obtain ⟨d', rfl⟩ : ∃ x, d' = x + 1 := ⟨d' - 1, by omega⟩
    unfold rb_sc at a5 ⊢
    by_cases c1 : rb_he ed s A = false
    · rw [if_pos c1, if_pos c1]
    · rw [if_neg c1] at a5
      rw [if_neg c1, if_neg c1]
      by_cases c2 : L ≤ q
      · rw [if_pos c2] at a5
        have a6 : q + 1 ≤ pos := a5
        omega
      · rw [if_neg c2] at a5
        rw [if_neg c2]
        by_cases c3 : ed (s * 8 + (tx q).toNatClampNeg) = -1
        · rw [if_pos c3] at a5
          have a6 : q + 1 ≤ pos := a5
          rw [if_neg (show ¬ L' ≤ q by omega), ← ht q (by omega), if_pos c3, if_pos c3]
        · rw [if_neg c3] at a5
          have a7 := rb_sc_ge (ed := ed) (kd := kd) (nx := nx) (tx := tx) (A := A) (L := L) (m := m) d (ed (s * 8 + (tx q).toNatClampNeg)).toNatClampNeg (q + 1) (rb_up kd nx m q (ed (s * 8 + (tx q).toNatClampNeg)).toNatClampNeg b)
          rw [if_neg (show ¬ L' ≤ q by omega), ← ht q (by omega), if_neg c3, if_neg c3]
          exact ih d' _ _ _ (by omega) (by omega) (by omega) (by omega) a5
theorem rb_tk_same {ed kd nx so tx tx' : Nat → Int32} {A L L' s m pos : Nat} (h1 : pos ≤ L) (h2 : pos ≤ L') (ht : ∀ i, i < pos → tx i = tx' i) (hs : s < pos) (h : (rb_tk ed kd nx so tx A L s m).1 ≤ pos) :
    rb_tk ed kd nx so tx' A L' s m = rb_tk ed kd nx so tx A L s m :=
  rb_sc_same h1 h2 ht _ _ _ _ _ (Nat.le_refl _) (Nat.le_refl _) (by omega) (by omega) h
theorem rb_sm_same {ed kd nx so tx tx' : Nat → Int32} {A L L' k pos : Nat} (h1 : pos ≤ L) (h2 : pos ≤ L') (ht : ∀ i, i < pos → tx i = tx' i)
    (hr : ∀ j, j < k → (rb_sm ed kd nx so tx A L j).1 < pos ∧ (rb_tk ed kd nx so tx A L (rb_sm ed kd nx so tx A L j).1 (rb_sm ed kd nx so tx A L j).2).1 ≤ pos) :
    ∀ i, i ≤ k → rb_sm ed kd nx so tx' A L' i = rb_sm ed kd nx so tx A L i := by
  intro i
  induction i with
  | zero => intro _; rfl
  | succ i ih =>
    intro hi
    have e1 := ih (by omega)
    have e2 := rb_tk_same (ed := ed) (kd := kd) (nx := nx) (so := so) (A := A) h1 h2 ht (hr i (by omega)).1 (hr i (by omega)).2
    show ((rb_tk ed kd nx so tx' A L' (rb_sm ed kd nx so tx' A L' i).1 (rb_sm ed kd nx so tx' A L' i).2).2.1, (rb_tk ed kd nx so tx' A L' (rb_sm ed kd nx so tx' A L' i).1 (rb_sm ed kd nx so tx' A L' i).2).2.2.2) = _
    rw [e1, e2]
    rfl
end
section
/-! the class's scan of one token -/
theorem rb_i6 (i f : Nat) : nI i * 6 + nI f = nI (i * 6 + f) := (congrArg (fun z => z + nI f) (pk_mul i 6)).trans (nI_add (i * 6) f)
theorem rb_i8 (i f : Nat) : nI i * 8 + nI f = nI (i * 8 + f) := (congrArg (fun z => z + nI f) (pk_mul i 8)).trans (nI_add (i * 8) f)
theorem rb_rcl {a : Nat → Int32} {x : Int32} {n : Nat} (hx : x = nI n) (hn : n < 2 ^ 31) : a x.toNatClampNeg = a n := congrArg a (pk_cl n hx hn)
theorem rb_rd {a : Nat → Int32} {x w : Int32} {n : Nat} (hx : x = nI n) (hn : n < 2 ^ 31) (h : a n = w) : a x.toNatClampNeg = w := (rb_rcl hx hn).trans h
theorem rb_ucl {a : Nat → Int32} {x v w : Int32} {n : Nat} (hx : x = nI n) (hn : n < 2 ^ 31) (hv : v = w) : upd a x.toNatClampNeg v = upd a n w := by
  subst hx hv
  rw [nI_clamp hn]
/-- REACH of a token at s that looked up to lk -/
def rb_rc (s lk : Nat) : Nat := if lk ≤ s + 1 then s + 1 else lk
/-- the five cells that a scan writes -/
def rb_t5 (tok : Nat → Int32) (i : Nat) (v0 v1 v2 v3 v4 : Int32) : Nat → Int32 :=
  upd (upd (upd (upd (upd tok (i * 6) v0) (i * 6 + 1) v1) (i * 6 + 2) v2) (i * 6 + 3) v3) (i * 6 + 4) v4
theorem rb_up_0 {kd nx : Nat → Int32} {m q s : Nat} {b : Nat × Int32 × Nat} (h : kd s = 0) : rb_up kd nx m q s b = b := if_pos h
theorem rb_up_1 {kd nx : Nat → Int32} {m q s : Nat} {b : Nat × Int32 × Nat} (h : ¬ kd s = 0) : rb_up kd nx m q s b = (q + 1, kd s, rb_af nx m s) := if_neg h
section
variable {cap Q A Z L T e : Nat} {me : Int32} {ed kd nx so tx tl tok xM xR xB : Nat → Int32}
theorem rb_xwe {post : Int32 → Prop} {s : Nat} (hA : A ≤ 8) (hs : s < 16) (h1 : rb_he ed s A = true → post 0) (h2 : rb_he ed s A = false → post 1) : wpX_isWithoutEdges post (nI cap, nI Q, nI A, nI Z, nI L, nI T, me, nI e, ed, kd, nx, so, tx, tl, tok, xM, xR, xB) (nI s) :=
  pk_loop (σ := Unit) (fun n i _ => wX_isWithoutEdges_2 post (nI s) (nI cap) (nI Q) (nI A) (nI Z) (nI L) (nI T) me (nI e) ed kd nx so tx tl tok xM xR xB n (nI i)) (fun i _ => ∀ c, c < i → ed (s * 8 + c) = -1) A 0 () (Nat.zero_le _) lt_0
    (fun n _ h => pk_le A A (fun _ => h2 (rb_he_f A h)) (fun z => absurd z (by omega)))
    (fun n i _ hi h hw => pk_le A i (fun z => absurd z (by omega)) (fun _ => ⟨pk_in (s * 8 + i) 128 (by omega) (rb_i8 s i),
      br_c (fun z => nm_r (nI_1 i) (hw () (lt_s h ((rb_rcl (rb_i8 s i) (by omega)).symm.trans z)))) (fun z => h1 (rb_he_t (fun g => z ((rb_rcl (rb_i8 s i) (by omega)).trans g)) A hi))⟩))
theorem rb_xta {post : Int32 → Prop} {s q : Nat} (E : rb_Env ed nx so tx A L Q Z) (hs : s < Q) (h1 : L ≤ q → post (-1)) (h2 : ∀ c, q < L → c < A → tx q = nI c → post (ed (s * 8 + c))) (hq : q ≤ L) : wpX_targetAt post (nI cap, nI Q, nI A, nI Z, nI L, nI T, me, nI e, ed, kd, nx, so, tx, tl, tok, xM, xR, xB) (nI s) (nI q) := by
  obtain ⟨E1, E2, E3, E4, E5, E6, E7, E8⟩ := E
  refine pk_lt q L (fun h => ?_) h1
  obtain ⟨c, hc, ec⟩ := E8 q h
  have e1 : tx (nI q).toNatClampNeg = nI c := rb_rd rfl (by omega) ec
  have e2 : nI s * 8 + tx (nI q).toNatClampNeg = nI (s * 8 + c) := by rw [e1]; exact rb_i8 s c
  refine ⟨pk_in q 64 (by omega), pk_in (s * 8 + c) 128 (by omega) e2, ?_⟩
  rw [e2, nI_clamp (by omega)]
  exact h2 c h hc ec
theorem rb_x130 {post : Int32 → St2 → Prop} {i s m lk : Nat} {x6 x7 x8 : Int32} (hi : i < 64) (hs : s < 64) (hlk : lk < 2 ^ 31)
    (hp : post x8 (nI cap, nI Q, nI A, nI Z, nI L, nI T, me, nI e, ed, kd, nx, so, tx, tl, rb_t5 tok i (nI s) x6 x7 (nI m) (nI (rb_rc s lk)), xM, xR, xB)) : wX_scanToken_130 post (nI i) (nI s) (nI m) (nI lk) x6 x7 x8 (nI cap) (nI Q) (nI A) (nI Z) (nI L) (nI T) me (nI e) ed kd nx so tx tl tok xM xR xB := by
  refine nm_r (pk_mul i 6) ⟨pk_in (i * 6) 384 (by omega) (nI_add (i * 6) 0), nm_r (rb_ucl (nI_add (i * 6) 0) (by omega) rfl)
    ⟨pk_in (i * 6 + 1) 384 (by omega) (nI_add (i * 6) 1), nm_r (rb_ucl (nI_add (i * 6) 1) (by omega) rfl)
    ⟨pk_in (i * 6 + 2) 384 (by omega) (nI_add (i * 6) 2), nm_r (rb_ucl (nI_add (i * 6) 2) (by omega) rfl)
    ⟨pk_in (i * 6 + 3) 384 (by omega) (nI_add (i * 6) 3), nm_r (rb_ucl (nI_add (i * 6) 3) (by omega) rfl) ?_⟩⟩⟩⟩
  refine pk_le lk (s + 1) (fun h => ⟨pk_in (i * 6 + 4) 384 (by omega) (nI_add (i * 6) 4), nm_r (rb_ucl (nI_add (i * 6) 4) (by omega) (nI_1 s)) ?_⟩)
    (fun h => ⟨pk_in (i * 6 + 4) 384 (by omega) (nI_add (i * 6) 4), nm_r (rb_ucl (nI_add (i * 6) 4) (by omega) rfl) ?_⟩) rfl (nI_1 s)
  · have hr : rb_rc s lk = s + 1 := if_pos h
    rw [hr] at hp
    exact hp
  · have hr : rb_rc s lk = lk := if_neg (by omega)
    rw [hr] at hp
    exact hp
theorem rb_xsc {post : Int32 → St2 → Prop} {i s0 m : Nat} (E : rb_Env ed nx so tx A L Q Z) (hm : m < Z) : ∀ (d s q : Nat) (b : Nat × Int32 × Nat), q ≤ L → L + 1 - q ≤ d → s < Q →
    wX_scanToken_130 post (nI i) (nI s0) (nI m) (nI (rb_sc ed kd nx tx A L m d s q b).1) (nI (rb_sc ed kd nx tx A L m d s q b).2.1) (rb_sc ed kd nx tx A L m d s q b).2.2.1 (nI (rb_sc ed kd nx tx A L m d s q b).2.2.2) (nI cap) (nI Q) (nI A) (nI Z) (nI L) (nI T) me (nI e) ed kd nx so tx tl tok xM xR xB →
    wX_scanToken_25 post (nI i) (nI s0) (nI m) (nI cap) (nI Q) (nI A) (nI Z) (nI L) (nI T) me (nI e) ed kd nx so tx tl tok xM xR xB d (nI s) (nI q) (nI b.1) b.2.1 (nI b.2.2) (nI q) := by
  have E' := E
  obtain ⟨E1, E2, E3, E4, E5, E6, E7, E8⟩ := E'
  intro d
  induction d with
  | zero => intro s q b h1 h2 _ _; omega
  | succ d ih =>
    intro s q b hq hd hs H
    refine pk_lt L q (fun z => absurd z (by omega)) (fun _ => rb_xwe E1 (by omega) (fun he => ?_) (fun he => ?_))
    · refine br_t rfl (nm_r (nI_1 q) (rb_xta E hs (fun hL => ?_) (fun c hL hc ec => ?_) hq))
      · rw [rb_sc2 he hL] at H
        exact br_t rfl H
      · have hcl : (tx q).toNatClampNeg = c := by rw [ec, nI_clamp (by omega)]
        rcases E5 (s * 8 + c) with h | ⟨j, hj, ej⟩
        · rw [rb_sc3 he hL hcl h] at H
          exact br_t h H
        · have hj' : j < 2 ^ 31 := by omega
          rw [rb_sc4 he hL hcl hj' ej] at H
          rw [ej]
          refine br_f (rb_m1 hj') ⟨pk_in j 16 (by omega), ?_⟩
          by_cases hz : kd j = 0
          · rw [rb_up_0 hz] at H
            exact br_t (rb_rd rfl hj' hz) (nm_r (nI_1 q) (ih j (q + 1) b (by omega) (by omega) hj H))
          · rw [rb_up_1 hz] at H
            refine br_f (fun g => hz ((rb_rcl rfl hj').symm.trans g)) (nm_r (nI_1 q) ⟨pk_in j 16 (by omega), nm_r (rb_rcl rfl hj') ⟨pk_in j 16 (by omega), ?_⟩⟩)
            by_cases hn : nx j = -1
            · rw [rb_af_s hn] at H
              exact br_t (rb_rd rfl hj' hn) (nm_r (nI_1 q) (ih j (q + 1) (q + 1, kd j, m) (by omega) (by omega) hj H))
            · exact br_f (fun g => hn ((rb_rcl rfl hj').symm.trans g)) ⟨pk_in j 16 (by omega), nm_r (rb_rd rfl hj' (rb_af_nI E3 E6 hn)) (nm_r (nI_1 q) (ih j (q + 1) (q + 1, kd j, rb_af nx m j) (by omega) (by omega) hj H))⟩
    · rw [rb_sc1 he] at H
      exact br_f (by decide) H
theorem rb_xsk {post : Int32 → St2 → Prop} {i s m lk en af : Nat} {k : Int32} (E : rb_Env ed nx so tx A L Q Z) (hi : i < 64) (hs : s < L) (hm : m < Z) (htk : rb_tk ed kd nx so tx A L s m = (lk, en, k, af))
    (hp : post (nI af) (nI cap, nI Q, nI A, nI Z, nI L, nI T, me, nI e, ed, kd, nx, so, tx, tl, rb_t5 tok i (nI s) (nI en) k (nI m) (nI (rb_rc s lk)), xM, xR, xB)) : wpX_scanToken post (nI cap, nI Q, nI A, nI Z, nI L, nI T, me, nI e, ed, kd, nx, so, tx, tl, tok, xM, xR, xB) (nI i) (nI s) (nI m) := by
  have E' := E
  obtain ⟨E1, E2, E3, E4, E5, E6, E7, E8⟩ := E'
  obtain ⟨j, hj, ej⟩ := E7 m
  have hlk := rb_tk_lk (ed := ed) (kd := kd) (nx := nx) (so := so) (tx := tx) (A := A) (m := m) hs
  rw [htk] at hlk
  have hlk' : lk ≤ L + 1 := hlk
  unfold rb_tk at htk
  rw [ej, nI_clamp (show j < 2 ^ 31 by omega)] at htk
  refine ⟨pk_in m 4 (by omega), nm_r (rb_rd rfl (by omega) ej) (nm_r (nI_1 s) ⟨L + 1 - s, ?_⟩)⟩
  refine rb_xsc E hm (L + 1 - s) j s (s + 1, 0, m) (by omega) (by omega) hj ?_
  rw [htk]
  exact rb_x130 hi (by omega) (by omega) hp
end
end
section
/-! the class's cut, its memory of the old list, its text, its births -/
theorem rb_t5_0 {tok : Nat → Int32} {i : Nat} {v0 v1 v2 v3 v4 : Int32} : rb_t5 tok i v0 v1 v2 v3 v4 (i * 6) = v0 := by
  unfold rb_t5
  rw [pk_un (by omega), pk_un (by omega), pk_un (by omega), pk_un (by omega), pk_us]
theorem rb_t5_1 {tok : Nat → Int32} {i : Nat} {v0 v1 v2 v3 v4 : Int32} : rb_t5 tok i v0 v1 v2 v3 v4 (i * 6 + 1) = v1 := by
  unfold rb_t5
  rw [pk_un (by omega), pk_un (by omega), pk_un (by omega), pk_us]
theorem rb_t5_2 {tok : Nat → Int32} {i : Nat} {v0 v1 v2 v3 v4 : Int32} : rb_t5 tok i v0 v1 v2 v3 v4 (i * 6 + 2) = v2 := by
  unfold rb_t5
  rw [pk_un (by omega), pk_un (by omega), pk_us]
theorem rb_t5_3 {tok : Nat → Int32} {i : Nat} {v0 v1 v2 v3 v4 : Int32} : rb_t5 tok i v0 v1 v2 v3 v4 (i * 6 + 3) = v3 := by
  unfold rb_t5
  rw [pk_un (by omega), pk_us]
theorem rb_t5_4 {tok : Nat → Int32} {i : Nat} {v0 v1 v2 v3 v4 : Int32} : rb_t5 tok i v0 v1 v2 v3 v4 (i * 6 + 4) = v4 := by
  unfold rb_t5
  rw [pk_us]
theorem rb_t5_n {tok : Nat → Int32} {i p : Nat} {v0 v1 v2 v3 v4 : Int32} (h : p < i * 6) : rb_t5 tok i v0 v1 v2 v3 v4 p = tok p := by
  unfold rb_t5
  rw [pk_un (by omega), pk_un (by omega), pk_un (by omega), pk_un (by omega), pk_un (by omega)]
/-- the whole cut of a text -/
def rb_Seq (ed kd nx so tx : Nat → Int32) (A L Z T : Nat) (S M : Nat → Nat) (K : Nat → Int32) (lk : Nat → Nat) : Prop :=
  S 0 = 0 ∧ M 0 = 0 ∧ T ≤ L ∧ S T = L ∧ M T < Z ∧ ∀ i, i < T → S i < L ∧ M i < Z ∧ S i < S (i + 1) ∧ rb_tk ed kd nx so tx A L (S i) (M i) = (lk i, S (i + 1), K i, M (i + 1))
theorem rb_Seq_ex {ed kd nx so tx : Nat → Int32} {A L Q Z : Nat} (E : rb_Env ed nx so tx A L Q Z) (hZ : 0 < Z) : ∃ (T : Nat) (S M : Nat → Nat) (K : Nat → Int32) (lk : Nat → Nat), rb_Seq ed kd nx so tx A L Z T S M K lk := by
  obtain ⟨T, h1, h2, h3, h4⟩ := rb_T (kd := kd) E hZ
  exact ⟨T, fun i => (rb_sm ed kd nx so tx A L i).1, fun i => (rb_sm ed kd nx so tx A L i).2,
    fun i => (rb_tk ed kd nx so tx A L (rb_sm ed kd nx so tx A L i).1 (rb_sm ed kd nx so tx A L i).2).2.2.1,
    fun i => (rb_tk ed kd nx so tx A L (rb_sm ed kd nx so tx A L i).1 (rb_sm ed kd nx so tx A L i).2).1, rfl, rfl, h1, h3, h4,
    fun i hi => ⟨(h2 i hi).1, (h2 i hi).2.1, (h2 i hi).2.2, rfl⟩⟩
/-- the class's cells hold the first i tokens of the cut -/
def rb_Cut (S M : Nat → Nat) (K : Nat → Int32) (lk : Nat → Nat) (i : Nat) (tok : Nat → Int32) : Prop :=
  ∀ j, j < i → tok (j * 6) = nI (S j) ∧ tok (j * 6 + 1) = nI (S (j + 1)) ∧ tok (j * 6 + 2) = K j ∧ tok (j * 6 + 3) = nI (M j) ∧ tok (j * 6 + 4) = nI (rb_rc (S j) (lk j))
theorem rb_Cut_s {S M : Nat → Nat} {K : Nat → Int32} {lk : Nat → Nat} {i : Nat} {tok : Nat → Int32} (h : rb_Cut S M K lk i tok) :
    rb_Cut S M K lk (i + 1) (rb_t5 tok i (nI (S i)) (nI (S (i + 1))) (K i) (nI (M i)) (nI (rb_rc (S i) (lk i)))) := by
  intro j hj
  by_cases ej : j = i
  · rw [ej, rb_t5_0, rb_t5_1, rb_t5_2, rb_t5_3, rb_t5_4]
    exact ⟨rfl, rfl, rfl, rfl, rfl⟩
  · rw [rb_t5_n (by omega), rb_t5_n (by omega), rb_t5_n (by omega), rb_t5_n (by omega), rb_t5_n (by omega)]
    exact h j (by omega)
section
variable {cap Q A Z L T e : Nat} {me : Int32} {ed kd nx so tx tl tok xM xR xB : Nat → Int32}
theorem rb_xcut {post : St2 → Prop} {T' : Nat} {S M : Nat → Nat} {K : Nat → Int32} {lk : Nat → Nat} (E : rb_Env ed nx so tx A L Q Z) (hs : rb_Seq ed kd nx so tx A L Z T' S M K lk)
    (hp : ∀ tok', rb_Cut S M K lk T' tok' → post (nI cap, nI Q, nI A, nI Z, nI L, nI T', nI (M T'), nI e, ed, kd, nx, so, tx, tl, tok', xM, xR, xB)) : wpX_cutIntoTokens post (nI cap, nI Q, nI A, nI Z, nI L, nI T, me, nI e, ed, kd, nx, so, tx, tl, tok, xM, xR, xB) := by
  obtain ⟨s1, s2, s3, s4, s5, s6⟩ := hs
  have hL : L ≤ 64 := E.2.2.2.1
  have G := pk_loop (fun n i tok => wX_cutIntoTokens_6 post n (nI (S i)) (nI (M i)) (nI i) (nI cap) (nI Q) (nI A) (nI Z) (nI L) (nI T) me (nI e) ed kd nx so tx tl tok xM xR xB) (fun i tok => rb_Cut S M K lk i tok) T' 0 tok (Nat.zero_le _) (fun j hj => absurd hj (by omega))
    (fun n tok h => pk_le 64 T' (fun _ => hp tok h) (fun _ => pk_le L (S T') (fun _ => hp tok h) (fun z => absurd z (by omega))))
    (fun n i tok hi h hw => pk_le 64 i (fun z => absurd z (by omega)) (fun _ => pk_le L (S i) (fun z => absurd z (by have := (s6 i hi).1; omega)) (fun _ =>
      rb_xsk E (by omega) (s6 i hi).1 (s6 i hi).2.1 (s6 i hi).2.2.2 ⟨pk_in (i * 6 + 1) 384 (by omega) (rb_i6 i 1), nm_r (rb_rd (rb_i6 i 1) (by omega) rb_t5_1) (nm_r (nI_1 i) (hw _ (rb_Cut_s h)))⟩)
      rfl rfl (by omega) (by have := (s6 i hi).1; omega)))
  rw [s1, s2] at G
  exact G
theorem rb_xrem {post : St2 → Prop} {S M B : Nat → Nat} {R : Nat → Int32} (hT : T ≤ 64) (hc : ∀ i, i < T → tok (i * 6) = nI (S i) ∧ tok (i * 6 + 3) = nI (M i) ∧ tok (i * 6 + 4) = R i ∧ tok (i * 6 + 5) = nI (B i) ∧ S i < 64)
    (hS : ∀ i j, i < T → j < T → S i = S j → i = j)
    (hp : ∀ xM' xR' xB', rb_Old T S M R B xM' xR' xB' → post (nI cap, nI Q, nI A, nI Z, nI L, nI T, me, nI e, ed, kd, nx, so, tx, tl, tok, xM', xR', xB')) : wpX_rememberTokens post (nI cap, nI Q, nI A, nI Z, nI L, nI T, me, nI e, ed, kd, nx, so, tx, tl, tok, xM, xR, xB) := by
  refine pk_loop (fun n i s => wX_rememberTokens_2 post (nI cap) (nI Q) (nI A) (nI Z) (nI L) (nI T) me (nI e) n (nI i) ed kd nx so tx tl tok s xR xB) (fun i s => ∀ p, p < i → s p = -1) 64 0 xM (Nat.zero_le _) lt_0 ?_ ?_
  · intro n s h
    refine pk_le 64 64 (fun _ => ?_) (fun z => absurd z (by omega))
    refine pk_loop (fun n i (w : (Nat → Int32) × (Nat → Int32) × (Nat → Int32)) => wX_rememberTokens_23 post (nI cap) (nI Q) (nI A) (nI Z) (nI L) (nI T) me (nI e) n (nI i) ed kd nx so tx tl tok w.1 w.2.1 w.2.2) (fun i w => rb_Old i S M R B w.1 w.2.1 w.2.2) T 0 (s, xR, xB) (Nat.zero_le _) ⟨fun j hj => absurd hj (by omega), fun p hp _ => h p hp⟩ ?_ ?_
    · intro n w hw
      exact pk_le T T (fun _ => hp _ _ _ hw) (fun z => absurd z (by omega))
    · intro n i w hi h hw
      obtain ⟨c0, c3, c4, c5, c6⟩ := hc i hi
      exact pk_le T i (fun z => absurd z (by omega)) (fun _ => nm_r (pk_mul i 6) ⟨pk_in (i * 6) 384 (by omega) (nI_add (i * 6) 0), nm_r (rb_rd (nI_add (i * 6) 0) (by omega) c0)
        ⟨pk_in (i * 6 + 3) 384 (by omega) (nI_add (i * 6) 3), pk_in (S i) 64 c6, nm_r (rb_ucl rfl (by omega) (rb_rd (nI_add (i * 6) 3) (by omega) c3))
        ⟨pk_in (i * 6 + 4) 384 (by omega) (nI_add (i * 6) 4), pk_in (S i) 64 c6, nm_r (rb_ucl rfl (by omega) (rb_rd (nI_add (i * 6) 4) (by omega) c4))
        ⟨pk_in (i * 6 + 5) 384 (by omega) (nI_add (i * 6) 5), pk_in (S i) 64 c6, nm_r (rb_ucl rfl (by omega) (rb_rd (nI_add (i * 6) 5) (by omega) c5)) (nm_r (nI_1 i)
          (hw (upd w.1 (S i) (nI (M i)), upd w.2.1 (S i) (R i), upd w.2.2 (S i) (nI (B i))) (rb_old_s h (fun j hj z => absurd (hS j i (by omega) hi z) (by omega)))))⟩⟩⟩⟩)
  · intro n i s hi h hw
    exact pk_le 64 i (fun z => absurd z (by omega)) (fun _ => ⟨pk_in i 64 hi, nm_r (rb_ucl rfl (by omega) rfl) (nm_r (nI_1 i) (hw _ (fun p hp => by
      by_cases ep : p = i
      · rw [ep, pk_us]
      · rw [pk_un ep]; exact h p (by omega))))⟩)
/-- the symbol number k of a packed word -/
def rb_sy (pk : Int32) (k : Nat) : Int32 := ((pk.toUInt32 >>> ((4 * nI k).toUInt32 &&& Int32.toUInt32 31)).toInt32) &&& 15
theorem rb_sy_in (pk : Int32) (k : Nat) : ∃ j, j < 16 ∧ rb_sy pk k = nI j := pk_andE _ 4 (by decide)
theorem rb_xrep {post : St2 → Prop} {pos del n : Nat} {pk : Int32} (hd : pos + del ≤ L) (hL : L ≤ 64) (hn : L - del + n ≤ 64)
    (hp : ∀ tl', post (nI cap, nI Q, nI A, nI Z, nI (L - del + n), nI T, me, nI e, ed, kd, nx, so, rb_nt tx (rb_sy pk) L pos del n, tl', tok, xM, xR, xB)) : wpX_replaceText post (nI cap, nI Q, nI A, nI Z, nI L, nI T, me, nI e, ed, kd, nx, so, tx, tl, tok, xM, xR, xB) (nI pos) (nI del) (nI n) pk := by
  refine nm_r (show nI L - nI pos - nI del = nI (L - pos - del) by rw [pk_sub (by omega), pk_sub (by omega)]) ?_
  refine pk_loop (fun f i s => wX_replaceText_13 post (nI pos) (nI del) (nI n) pk (nI (L - pos - del)) (nI cap) (nI Q) (nI A) (nI Z) (nI L) (nI T) me (nI e) f (nI i) ed kd nx so tx s tok xM xR xB) (fun i s => ∀ j, j < i → s j = tx (pos + del + j)) (L - pos - del) 0 tl (Nat.zero_le _) lt_0 ?_ ?_
  · intro f s h
    refine pk_le (L - pos - del) (L - pos - del) (fun _ => ?_) (fun z => absurd z (by omega))
    have G := pk_loop (fun f i (_ : Unit) => wX_replaceText_47 post (nI pos) (nI n) pk (nI (L - pos - del)) (nI cap) (nI Q) (nI A) (nI Z) (nI L) (nI T) me (nI e) f (nI i) ed kd nx so (rb_w2 tx (rb_sy pk) pos i) s tok xM xR xB) (fun _ _ => True) n 0 () (Nat.zero_le _) trivial ?_ ?_
    · rw [rb_w2_0] at G
      exact G
    · intro f _ _
      refine pk_le n n (fun _ => ?_) (fun z => absurd z (by omega))
      have G := pk_loop (fun f i (_ : Unit) => wX_replaceText_78 post (nI pos) (nI n) (nI (L - pos - del)) (nI cap) (nI Q) (nI A) (nI Z) (nI L) (nI T) me (nI e) f (nI i) ed kd nx so (rb_w3 tx (rb_sy pk) pos del n i) s tok xM xR xB) (fun _ _ => True) (L - pos - del) 0 () (Nat.zero_le _) trivial ?_ ?_
      · rw [rb_w3_0] at G
        exact G
      · intro f _ _
        refine pk_le (L - pos - del) (L - pos - del) (fun _ => nm_r (show nI pos + nI n + nI (L - pos - del) = nI (L - del + n) by rw [nI_add, nI_add]; exact congrArg nI (by omega)) ?_) (fun z => absurd z (by omega))
        rw [rb_w3_e hd]
        exact hp s
      · intro f i _ hi _ hw
        have hw' := hw () trivial
        rw [← rb_w3_s] at hw'
        exact pk_le (L - pos - del) i (fun z => absurd z (by omega)) (fun _ => ⟨pk_in i 64 (by omega), pk_in (pos + n + i) 64 (by omega) (by rw [nI_add, nI_add]),
          nm_r (rb_ucl (by rw [nI_add, nI_add]) (by omega) (rb_rd rfl (by omega) (h i hi))) (nm_r (nI_1 i) hw')⟩)
    · intro f i _ hi _ hw
      have hw' := hw () trivial
      rw [← rb_w2_s] at hw'
      exact pk_le n i (fun z => absurd z (by omega)) (fun _ => ⟨pk_in (pos + i) 64 (by omega) (nI_add pos i), nm_r (rb_ucl (nI_add pos i) (by omega) rfl) (nm_r (nI_1 i) hw')⟩)
  · intro f i s hi h hw
    exact pk_le (L - pos - del) i (fun z => absurd z (by omega)) (fun _ => ⟨pk_in (pos + del + i) 64 (by omega) (by rw [nI_add, nI_add]), pk_in i 64 (by omega),
      nm_r (rb_ucl rfl (by omega) (rb_rcl (by rw [nI_add, nI_add]) (by omega))) (nm_r (nI_1 i) (hw _ (fun p hp => by
        by_cases ep : p = i
        · rw [ep, pk_us]
        · rw [pk_un ep]; exact h p (by omega))))⟩)
end
end
section
/-! the class's births -/
section
variable {cap Q A Z L T e : Nat} {me : Int32} {ed kd nx so tx tl tok xM xR xB : Nat → Int32}
theorem rb_x127 {post : Int32 → St2 → Prop} {J : Int32 → Int32 → (Nat → Int32) → (Nat → Int32) → (Nat → Int32) → (Nat → Int32) → (Nat → Int32) → (Nat → Int32) → (Nat → Int32) → (Nat → Int32) → (Nat → Int32) → (Nat → Int32) → Prop} {x1 x2 x3 : Int32} {i fr b : Nat} (hi : i < 64) (hb : b < 2 ^ 31) (he : e + 1 < 2 ^ 31)
    (h1 : b = e + 1 → J (nI (fr + 1)) (nI (i + 1)) ed kd nx so tx tl (upd tok (i * 6 + 5) (nI b)) xM xR xB) (h2 : b ≠ e + 1 → J (nI fr) (nI (i + 1)) ed kd nx so tx tl (upd tok (i * 6 + 5) (nI b)) xM xR xB) : wX_settleBirths_127 post J x1 x2 x3 (nI fr) (nI i) (nI b) (nI cap) (nI Q) (nI A) (nI Z) (nI L) (nI T) me (nI (e + 1)) ed kd nx so tx tl tok xM xR xB :=
  ⟨pk_in (i * 6 + 5) 384 (by omega) (rb_i6 i 5), nm_r (rb_ucl (rb_i6 i 5) (by omega) rfl) (pk_eq b (e + 1) (fun z => nm_r (nI_1 fr) (nm_r (nI_1 i) (h1 z))) (fun z => nm_r (nI_1 i) (h2 z)))⟩
theorem rb_xset {post : Int32 → St2 → Prop} {pos del n c : Nat} {S M B S' M' : Nat → Nat} {R : Nat → Int32} (O : rb_Old c S M R B xM xR xB) (hS : ∀ i j, i < c → j < c → S i = S j → i = j) (hM : ∀ j, j < c → M j < 4) (hB : ∀ j, j < c → B j ≤ e) (he : e + 1 < 2 ^ 31) (hT : T ≤ 64) (hpn : pos + n < 2 ^ 20)
    (hc : ∀ i, i < T → tok (i * 6) = nI (S' i) ∧ tok (i * 6 + 3) = nI (M' i) ∧ S' i < 64 ∧ M' i < 4 ∧ S' i + del < 64 + n)
    (hp : ∀ tok', (∀ i, i < T → ∀ f, f < 5 → tok' (i * 6 + f) = tok (i * 6 + f)) → (∀ i, i < T → tok' (i * 6 + 5) = nI (rb_bn c S M R B pos del n e (S' i) (M' i))) →
      post (nI (rb_fr (e + 1) (fun i => rb_bn c S M R B pos del n e (S' i) (M' i)) T)) (nI cap, nI Q, nI A, nI Z, nI L, nI T, me, nI (e + 1), ed, kd, nx, so, tx, tl, tok', xM, xR, xB)) : wpX_settleBirths post (nI cap, nI Q, nI A, nI Z, nI L, nI T, me, nI (e + 1), ed, kd, nx, so, tx, tl, tok, xM, xR, xB) (nI pos) (nI del) (nI n) := by
  refine pk_loop (fun f i s => wX_settleBirths_6 post (nI pos) (nI del) (nI n) (nI cap) (nI Q) (nI A) (nI Z) (nI L) (nI T) me (nI (e + 1)) f (nI (rb_fr (e + 1) (fun i => rb_bn c S M R B pos del n e (S' i) (M' i)) i)) (nI i) ed kd nx so tx tl s xM xR xB)
    (fun i s => (∀ j, j < T → ∀ f, f < 5 → s (j * 6 + f) = tok (j * 6 + f)) ∧ (∀ j, j < i → s (j * 6 + 5) = nI (rb_bn c S M R B pos del n e (S' j) (M' j)))) T 0 tok (Nat.zero_le _) ⟨fun j _ f _ => rfl, lt_0⟩ ?_ ?_
  · intro f s h
    exact pk_le T T (fun _ => hp s h.1 h.2) (fun z => absurd z (by omega))
  · intro f i s hi h hw
    obtain ⟨h1, h2⟩ := h
    obtain ⟨c0, c3, c4, c5, c6⟩ := hc i hi
    have d0 : s (i * 6) = nI (S' i) := (h1 i hi 0 (by omega)).trans c0
    have d3 : s (i * 6 + 3) = nI (M' i) := (h1 i hi 3 (by omega)).trans c3
    have hb := rb_bn_le (S := S) (M := M) (R := R) (pos := pos) (del := del) (n := n) (s := S' i) (m := M' i) hB
    have hI : ((∀ j, j < T → ∀ f, f < 5 → upd s (i * 6 + 5) (nI (rb_bn c S M R B pos del n e (S' i) (M' i))) (j * 6 + f) = tok (j * 6 + f)) ∧ (∀ j, j < i + 1 → upd s (i * 6 + 5) (nI (rb_bn c S M R B pos del n e (S' i) (M' i))) (j * 6 + 5) = nI (rb_bn c S M R B pos del n e (S' j) (M' j)))) := by
      refine ⟨fun j hj g hg => ?_, fun j hj => ?_⟩
      · rw [pk_un (by omega)]
        exact h1 j hj g hg
      · by_cases ej : j = i
        · rw [ej, pk_us]
        · rw [pk_un (by omega)]
          exact h2 j (by omega)
    have key : ∀ x : Int32, x = nI (rb_bn c S M R B pos del n e (S' i) (M' i)) → wX_settleBirths_127 post (wX_settleBirths_6 post (nI pos) (nI del) (nI n) (nI cap) (nI Q) (nI A) (nI Z) (nI L) (nI T) me (nI (e + 1)) f) (nI pos) (nI del) (nI n) (nI (rb_fr (e + 1) (fun i => rb_bn c S M R B pos del n e (S' i) (M' i)) i)) (nI i) x (nI cap) (nI Q) (nI A) (nI Z) (nI L) (nI T) me (nI (e + 1)) ed kd nx so tx tl s xM xR xB := by
      intro x ex
      rw [ex]
      refine rb_x127 (by omega) (by omega) he (fun z => ?_) (fun z => ?_)
      · have w := hw _ hI
        rw [rb_fr_t (b := fun i => rb_bn c S M R B pos del n e (S' i) (M' i)) (i := i) z] at w
        exact w
      · have w := hw _ hI
        rw [rb_fr_f (b := fun i => rb_bn c S M R B pos del n e (S' i) (M' i)) (i := i) z] at w
        exact w
    refine pk_le T i (fun z => absurd z (by omega)) (fun _ => ⟨pk_in (i * 6) 384 (by omega) (rb_i6 i 0), nm_r (rb_rd (rb_i6 i 0) (by omega) d0) ⟨pk_in (i * 6 + 3) 384 (by omega) (rb_i6 i 3), nm_r (rb_rd (rb_i6 i 3) (by omega) d3) ?_⟩⟩)
    refine pk_le pos (S' i) (fun h => pk_lt (S' i) (pos + n) (fun h' => key _ (congrArg nI (rb_xb3 h h').symm)) (fun h' => ?_) rfl (nI_add pos n)) (fun h => ⟨pk_in (S' i) 64 c4, ?_⟩)
    · have ep : nI (S' i) - nI n + nI del = nI (S' i - n + del) := by rw [pk_sub (by omega), nI_add]
      refine nm_r ep ⟨pk_in (S' i - n + del) 64 (by omega), br_c (fun z => ⟨pk_in (S' i - n + del) 64 (by omega), fun x ex => key x ?_⟩) (fun z => key _ ?_)⟩
      · have z' : xM (S' i - n + del) = nI (M' i) := (rb_rcl rfl (by omega)).symm.trans z
        exact ex.trans (rb_rd rfl (by omega) (rb_xb2 O hS hM c5 (by omega) h' (by omega) z'))
      · exact congrArg nI (rb_xb2n O h' (p := S' i - n + del) (by omega) (fun g => z (rb_rd rfl (by omega) g))).symm
    · have rr : xR (nI (S' i)).toNatClampNeg = xR (S' i) := rb_rcl rfl (by omega)
      refine br_c (fun z => ⟨pk_in (S' i) 64 c4, br_c (fun g => key _ ?_) (fun g => ⟨pk_in (S' i) 64 c4, fun x ex => key x ?_⟩)⟩) (fun z => key _ ?_)
      · rw [rr] at g
        exact congrArg nI (rb_xb1n O h (fun q => Int32.not_le.mpr g q.2)).symm
      · rw [rr] at g
        exact ex.trans (rb_rd rfl (by omega) (rb_xb1 O hS hM c5 c4 h ((rb_rcl rfl (by omega)).symm.trans z) (Int32.not_lt.mp g)))
      · exact congrArg nI (rb_xb1n O h (fun q => z (rb_rd rfl (by omega) q.1))).symm
end
end
section
/-! what the law's calls do to an object: tables, splice, reads (rb_cl .. rb_xas as in whole) -/
theorem rb_cl (p : Int32) (lo hi : Nat) (h : lo ≤ hi) (hh : hi < 2 ^ 31) : ∃ c, lo ≤ c ∧ c ≤ hi ∧ ∀ W : Int32 → Prop, W (nI c) → ((nI lo ≤ p → ((p ≤ nI hi → W p) ∧ (¬ p ≤ nI hi → W (nI hi)))) ∧ (¬ nI lo ≤ p → W (nI lo))) := by
  by_cases h1 : nI lo ≤ p
  · by_cases h2 : p ≤ nI hi
    · have h0 : ¬ p < 0 := Int32.not_lt.mpr (Int32.le_trans (nI_pos' (by omega)) h1)
      obtain ⟨c, hc, rfl⟩ := nI_of h0
      exact ⟨c, (nI_leI (by omega) hc).mp h1, (nI_leI hc hh).mp h2, fun W w => br_t h1 (br_t h2 w)⟩
    · exact ⟨hi, h, Nat.le_refl _, fun W w => br_t h1 (br_f h2 w)⟩
  · exact ⟨lo, Nat.le_refl _, h, fun W w => br_f h1 w⟩
def rb_fl (k : Nat) : Nat → Int32 := rb_y2 (fun _ => -1) (fun _ => 0) k
theorem rb_fl_in {k : Nat} (i : Nat) {Q : Nat} (hQ : 0 < Q) : rb_fl k i = -1 ∨ ∃ j, j < Q ∧ rb_fl k i = nI j := by
  unfold rb_fl rb_y2
  by_cases h : i < k
  · rw [if_pos h]; exact Or.inl rfl
  · rw [if_neg h]; exact Or.inr ⟨0, hQ, rfl⟩
theorem rb_first (P : Nat → Prop) : ∀ T : Nat, ∃ i, i ≤ T ∧ (∀ j, j < i → P j) ∧ (i < T → ¬ P i) := by
  intro T
  induction T with
  | zero => exact ⟨0, Nat.le_refl _, fun j hj => absurd hj (by omega), fun h => absurd h (by omega)⟩
  | succ T ih =>
    obtain ⟨i, a, b, c⟩ := ih
    by_cases h : i < T
    · exact ⟨i, by omega, b, fun _ => c h⟩
    · have ei : i = T := by omega
      subst ei
      by_cases hp : P i
      · exact ⟨i + 1, Nat.le_refl _, lt_s b hp, fun h => absurd h (by omega)⟩
      · exact ⟨i, by omega, b, fun _ => hp⟩
section
variable {cap Q A Z L T e : Nat} {me : Int32} {ed kd nx so tx tl tok xM xR xB : Nat → Int32}
theorem rb_xst {post : Int32 → Prop} {p : Int32} (hQ : Q ≤ 16) (h0 : p < 0 → post 0) (h1 : ¬ p < 0 → nI Q ≤ p → post 0) (h2 : ∀ j, j < Q → p = nI j → post 1) : wpX_isState post (nI cap, nI Q, nI A, nI Z, nI L, nI T, me, nI e, ed, kd, nx, so, tx, tl, tok, xM, xR, xB) p :=
  br_c h0 (fun a => br_c (h1 a) (fun b => by
    obtain ⟨j, hj, rfl⟩ := nI_of a
    exact h2 j (by rw [nI_leI (by omega) hj] at b; omega) rfl))
theorem rb_xmo {post : Int32 → Prop} {p : Int32} (hZ : Z ≤ 4) (h0 : p < 0 → post 0) (h1 : ¬ p < 0 → nI Z ≤ p → post 0) (h2 : ∀ j, j < Z → p = nI j → post 1) : wpX_isMode post (nI cap, nI Q, nI A, nI Z, nI L, nI T, me, nI e, ed, kd, nx, so, tx, tl, tok, xM, xR, xB) p :=
  br_c h0 (fun a => br_c (h1 a) (fun b => by
    obtain ⟨j, hj, rfl⟩ := nI_of a
    exact h2 j (by rw [nI_leI (by omega) hj] at b; omega) rfl))
theorem rb_xsm {post : Int32 → Prop} {p : Int32} (hA : A ≤ 8) (h0 : p < 0 → post 0) (h1 : ¬ p < 0 → nI A ≤ p → post 0) (h2 : ∀ j, j < A → p = nI j → post 1) : wpX_isSymbol post (nI cap, nI Q, nI A, nI Z, nI L, nI T, me, nI e, ed, kd, nx, so, tx, tl, tok, xM, xR, xB) p :=
  br_c h0 (fun a => br_c (h1 a) (fun b => by
    obtain ⟨j, hj, rfl⟩ := nI_of a
    exact h2 j (by rw [nI_leI (by omega) hj] at b; omega) rfl))
end
/-- the edges after setEdges, symbol by symbol -/
def rb_se (ed : Nat → Int32) (s : Nat) (mask to : Int32) : Nat → Nat → Int32
  | 0 => ed
  | c + 1 => if (mask &&& ((1 : Int32) <<< (nI c &&& 31))) = 0 then rb_se ed s mask to c else upd (rb_se ed s mask to c) (s * 8 + c) to
theorem rb_se_t {ed : Nat → Int32} {s c : Nat} {mask to : Int32} (h : (mask &&& ((1 : Int32) <<< (nI c &&& 31))) = 0) : rb_se ed s mask to (c + 1) = rb_se ed s mask to c := if_pos h
theorem rb_se_f {ed : Nat → Int32} {s c : Nat} {mask to : Int32} (h : ¬ (mask &&& ((1 : Int32) <<< (nI c &&& 31))) = 0) : rb_se ed s mask to (c + 1) = upd (rb_se ed s mask to c) (s * 8 + c) to := if_neg h
theorem rb_se_in {ed : Nat → Int32} {s Q : Nat} {mask to : Int32} (h : ∀ i, ed i = -1 ∨ ∃ j, j < Q ∧ ed i = nI j) (ht : to = -1 ∨ ∃ j, j < Q ∧ to = nI j) : ∀ c i, rb_se ed s mask to c i = -1 ∨ ∃ j, j < Q ∧ rb_se ed s mask to c i = nI j := by
  intro c
  induction c with
  | zero => exact h
  | succ c ih =>
    intro i
    by_cases z : (mask &&& ((1 : Int32) <<< (nI c &&& 31))) = 0
    · rw [rb_se_t z]; exact ih i
    · rw [rb_se_f z]
      by_cases ei : i = s * 8 + c
      · rw [ei, pk_us]; exact ht
      · rw [pk_un ei]; exact ih i
section
variable {cap Q A Z L T e : Nat} {me : Int32} {ed kd nx so tx tl tok xM xR xB : Nat → Int32}
theorem rb_x60 {post : Int32 → St2 → Prop} {s : Nat} {mask to : Int32} (hA : A ≤ 8) (hs : s < 16) (hp : post 0 (nI cap, nI Q, nI A, nI Z, nI L, nI T, me, nI e, rb_se ed s mask to A, kd, nx, so, tx, tl, tok, xM, xR, xB)) : ∃ f, wX_setEdges_60 post (nI s) mask to (nI cap) (nI Q) (nI A) (nI Z) (nI L) (nI T) me (nI e) f 0 ed kd nx so tx tl tok xM xR xB := by
  refine pk_loop (fun f i (_ : Unit) => wX_setEdges_60 post (nI s) mask to (nI cap) (nI Q) (nI A) (nI Z) (nI L) (nI T) me (nI e) f (nI i) (rb_se ed s mask to i) kd nx so tx tl tok xM xR xB) (fun _ _ => True) A 0 () (Nat.zero_le _) trivial ?_ ?_
  · intro f _ _
    exact pk_le A A (fun _ => hp) (fun z => absurd z (by omega))
  · intro f i _ hi _ hw
    have w := hw () trivial
    refine pk_le A i (fun z => absurd z (by omega)) (fun _ => br_c (fun z => nm_r (nI_1 i) ?_) (fun z => ⟨pk_in (s * 8 + i) 128 (by omega) (rb_i8 s i), nm_r (rb_ucl (rb_i8 s i) (by omega) rfl) (nm_r (nI_1 i) ?_)⟩))
    · rw [rb_se_t z] at w
      exact w
    · rw [rb_se_f z] at w
      exact w
end
section
variable {cap Q A Z L T e : Nat} {me : Int32} {ed kd nx so tx tl tok xM xR xB : Nat → Int32}
theorem rb_xas {post : Int32 → Prop} {n : Nat} {pk : Int32} (hA : A ≤ 8) (hn : n ≤ 8) (h1 : (∀ k, k < n → ∃ c, c < A ∧ rb_sy pk k = nI c) → post 1) (h2 : (∃ k, k < n ∧ ¬ rb_sy pk k < nI A) → post 0) : wpX_areSymbols post (nI cap, nI Q, nI A, nI Z, nI L, nI T, me, nI e, ed, kd, nx, so, tx, tl, tok, xM, xR, xB) (nI n) pk := by
  refine pk_loop (σ := Unit) (fun f k _ => wX_areSymbols_2 post (nI n) pk (nI cap) (nI Q) (nI A) (nI Z) (nI L) (nI T) me (nI e) ed kd nx so tx tl tok xM xR xB f (nI k)) (fun k _ => ∀ j, j < k → ∃ c, c < A ∧ rb_sy pk j = nI c) n 0 () (Nat.zero_le _) lt_0 ?_ ?_
  · intro f _ h
    exact pk_le n n (fun _ => h1 h) (fun z => absurd z (by omega))
  · intro f k _ hk h hw
    obtain ⟨c, hc, ec⟩ := rb_sy_in pk k
    refine pk_le n k (fun z => absurd z (by omega)) (fun _ => ?_)
    have G : wpX_isSymbol (fun r_3 => (((r_3 = 0 → (post 0)) ∧ (¬ r_3 = 0 → (∀ x3_5 : Int32, x3_5 = nI k + 1 → (wX_areSymbols_2 post (nI n) pk (nI cap) (nI Q) (nI A) (nI Z) (nI L) (nI T) me (nI e) ed kd nx so tx tl tok xM xR xB f x3_5)))))) (nI cap, nI Q, nI A, nI Z, nI L, nI T, me, nI e, ed, kd, nx, so, tx, tl, tok, xM, xR, xB) (rb_sy pk k) := by
      rw [ec]
      refine br_f (nI_pos (by omega)) (pk_le A c (fun z => br_t rfl (h2 ⟨k, hk, ?_⟩)) (fun z => br_f (by decide) (nm_r (nI_1 k) (hw () (lt_s h ⟨c, z, ec⟩)))))
      rw [ec]
      exact nI_nlt z (by omega)
    exact G
end
theorem rb_xini {post : St2 → Prop} {mc ms kc ks : Nat} {x1 x2 x3 x4 : Int32} (hp : post (x1, x2, x3, x4, 0, 0, 0, 0, rb_fl 128, (fun _ => 0), rb_fl 16, (fun _ => 0), (fun _ => 0), (fun _ => 0), (fun _ => 0), (fun _ => 0), (fun _ => 0), (fun _ => 0))) :
    ∃ f, wX_init_153 post mc ms kc ks x1 x2 x3 x4 0 0 0 0 f 0 (fun _ => 0) (fun _ => 0) (fun _ => 0) (fun _ => 0) (fun _ => 0) (fun _ => 0) (fun _ => 0) (fun _ => 0) (fun _ => 0) (fun _ => 0) := by
  have G := pk_loop (fun f i (_ : Unit) => wX_init_153 post mc ms kc ks x1 x2 x3 x4 0 0 0 0 f (nI i) (rb_y2 (fun _ => -1) (fun _ => 0) i) (fun _ => 0) (fun _ => 0) (fun _ => 0) (fun _ => 0) (fun _ => 0) (fun _ => 0) (fun _ => 0) (fun _ => 0) (fun _ => 0)) (fun _ _ => True) 128 0 () (Nat.zero_le _) trivial ?_ ?_
  · rw [rb_y2_0] at G
    exact G
  · intro f _ _
    refine pk_le 128 128 (fun _ => ?_) (fun z => absurd z (by omega))
    have G := pk_loop (fun f i (_ : Unit) => wX_init_178 post mc ms kc ks x1 x2 x3 x4 0 0 0 0 f (nI i) (rb_fl 128) (fun _ => 0) (rb_y2 (fun _ => -1) (fun _ => 0) i) (fun _ => 0) (fun _ => 0) (fun _ => 0) (fun _ => 0) (fun _ => 0) (fun _ => 0) (fun _ => 0)) (fun _ _ => True) 16 0 () (Nat.zero_le _) trivial ?_ ?_
    · rw [rb_y2_0] at G
      exact G
    · intro f _ _
      exact pk_le 16 16 (fun _ => hp) (fun z => absurd z (by omega))
    · intro f i _ hi _ hw
      have w := hw () trivial
      rw [← rb_y2_s] at w
      exact pk_le 16 i (fun z => absurd z (by omega)) (fun _ => ⟨pk_in i 16 hi, nm_r (rb_ucl rfl (by omega) rfl) (nm_r (nI_1 i) w)⟩)
  · intro f i _ hi _ hw
    have w := hw () trivial
    rw [← rb_y2_s] at w
    exact pk_le 128 i (fun z => absurd z (by omega)) (fun _ => ⟨pk_in i 128 hi, nm_r (rb_ucl rfl (by omega) rfl) (nm_r (nI_1 i) w)⟩)
theorem rb_sh (A : Nat) (h : 2 ≤ A) (h2 : A ≤ 8) : ¬ (((1 : Int32) <<< (nI A &&& 31)) - 1) = 0 := by
  have H : ∀ a : Fin 9, 2 ≤ a.val → ¬ (((1 : Int32) <<< (nI a.val &&& 31)) - 1) = 0 := by decide +kernel
  exact H ⟨A, by omega⟩ h
end
section
/-! the object's calls, each with its outcome for every post -/
section
variable {cap Q A Z L T e : Nat} {me : Int32} {ed kd nx so tx tl tok xM xR xB : Nat → Int32}
theorem rb_xsf {post : Int32 → Prop} {p : Int32} (hQ : Q ≤ 16) (h : ∀ j, j < Q → ¬ p = nI j) (hp : post 0) : wpX_isState post (nI cap, nI Q, nI A, nI Z, nI L, nI T, me, nI e, ed, kd, nx, so, tx, tl, tok, xM, xR, xB) p :=
  rb_xst hQ (fun _ => hp) (fun _ _ => hp) (fun j hj ej => absurd ej (h j hj))
theorem rb_xstt {post : Int32 → Prop} {s : Nat} (hQ : Q ≤ 16) (hs : s < Q) (hp : post 1) : wpX_isState post (nI cap, nI Q, nI A, nI Z, nI L, nI T, me, nI e, ed, kd, nx, so, tx, tl, tok, xM, xR, xB) (nI s) :=
  rb_xst hQ (fun a => absurd a (nI_pos (by omega))) (fun _ b => absurd b (nI_ge hs (by omega))) (fun _ _ _ => hp)
theorem rb_xmf {post : Int32 → Prop} {p : Int32} (hZ : Z ≤ 4) (h : ∀ j, j < Z → ¬ p = nI j) (hp : post 0) : wpX_isMode post (nI cap, nI Q, nI A, nI Z, nI L, nI T, me, nI e, ed, kd, nx, so, tx, tl, tok, xM, xR, xB) p :=
  rb_xmo hZ (fun _ => hp) (fun _ _ => hp) (fun j hj ej => absurd ej (h j hj))
theorem rb_xmt {post : Int32 → Prop} {s : Nat} (hZ : Z ≤ 4) (hs : s < Z) (hp : post 1) : wpX_isMode post (nI cap, nI Q, nI A, nI Z, nI L, nI T, me, nI e, ed, kd, nx, so, tx, tl, tok, xM, xR, xB) (nI s) :=
  rb_xmo hZ (fun a => absurd a (nI_pos (by omega))) (fun _ b => absurd b (nI_ge hs (by omega))) (fun _ _ _ => hp)
theorem rb_xyt {post : Int32 → Prop} {s : Nat} (hA : A ≤ 8) (hs : s < A) (hp : post 1) : wpX_isSymbol post (nI cap, nI Q, nI A, nI Z, nI L, nI T, me, nI e, ed, kd, nx, so, tx, tl, tok, xM, xR, xB) (nI s) :=
  rb_xsm hA (fun a => absurd a (nI_pos (by omega))) (fun _ b => absurd b (nI_ge hs (by omega))) (fun _ _ _ => hp)
theorem rb_xak {post : Int32 → Prop} {s : Nat} (hQ : Q ≤ 16) (hs : s < Q) (hp : post (kd s)) : wpX_acceptKind post (nI cap, nI Q, nI A, nI Z, nI L, nI T, me, nI e, ed, kd, nx, so, tx, tl, tok, xM, xR, xB) (nI s) := by
  unfold wpX_acceptKind
  refine rb_xstt hQ hs (br_f (by decide) ⟨pk_in s 16 (by omega), ?_⟩)
  rw [nI_clamp (by omega)]
  exact hp
theorem rb_xam {post : Int32 → Prop} {s : Nat} (hQ : Q ≤ 16) (hs : s < Q) (hp : post (nx s)) : wpX_acceptMode post (nI cap, nI Q, nI A, nI Z, nI L, nI T, me, nI e, ed, kd, nx, so, tx, tl, tok, xM, xR, xB) (nI s) := by
  unfold wpX_acceptMode
  refine rb_xstt hQ hs (br_f (by decide) ⟨pk_in s 16 (by omega), ?_⟩)
  rw [nI_clamp (by omega)]
  exact hp
theorem rb_xsr {post : Int32 → Prop} {s : Nat} (hZ : Z ≤ 4) (hs : s < Z) (hp : post (so s)) : wpX_start post (nI cap, nI Q, nI A, nI Z, nI L, nI T, me, nI e, ed, kd, nx, so, tx, tl, tok, xM, xR, xB) (nI s) := by
  unfold wpX_start
  refine rb_xmt hZ hs (br_f (by decide) ⟨pk_in s 4 (by omega), ?_⟩)
  rw [nI_clamp (by omega)]
  exact hp
theorem rb_xed {post : Int32 → Prop} {s c : Nat} (hQ : Q ≤ 16) (hA : A ≤ 8) (hs : s < Q) (hc : c < A) (hp : post (ed (s * 8 + c))) : wpX_edge post (nI cap, nI Q, nI A, nI Z, nI L, nI T, me, nI e, ed, kd, nx, so, tx, tl, tok, xM, xR, xB) (nI s) (nI c) := by
  unfold wpX_edge
  refine rb_xstt hQ hs (br_f (by decide) (rb_xyt hA hc (br_f (by decide) ⟨pk_in (s * 8 + c) 128 (by omega) (rb_i8 s c), ?_⟩)))
  rw [rb_i8, nI_clamp (by omega)]
  exact hp
theorem rb_xsa {post : Int32 → Prop} {q : Nat} (hL : L ≤ 64) (hq : q < L) (hp : post (tx q)) : wpX_symbolAt post (nI cap, nI Q, nI A, nI Z, nI L, nI T, me, nI e, ed, kd, nx, so, tx, tl, tok, xM, xR, xB) (nI q) := by
  refine br_f (nI_pos (by omega)) (br_t (nI_lt hq (by omega)) ⟨pk_in q 64 (by omega), ?_⟩)
  rw [nI_clamp (by omega)]
  exact hp
theorem rb_xtk {post : Int32 → Prop} {i f : Nat} (hT : T ≤ 64) (hi : i < T) (hf : f < 6) (hp : post (tok (i * 6 + f))) : wpX_token post (nI cap, nI Q, nI A, nI Z, nI L, nI T, me, nI e, ed, kd, nx, so, tx, tl, tok, xM, xR, xB) (nI i) (nI f) := by
  refine br_f (nI_pos (by omega)) (br_t (nI_lt hi (by omega)) (br_f (nI_pos (by omega)) (br_t (nI_lt (b := 6) hf (by omega)) ⟨pk_in (i * 6 + f) 384 (by omega) (rb_i6 i f), ?_⟩)))
  rw [rb_i6, nI_clamp (by omega)]
  exact hp
theorem rb_ztk {y1 y2 y3 y4 y5 y7 y8 : Int32} {post : Int32 → Prop} {i f : Nat} (hT : T ≤ 64) (hi : i < T) (hf : f < 6) (hp : post (tok (i * 6 + f))) : wpX_token post (y1, y2, y3, y4, y5, nI T, y7, y8, ed, kd, nx, so, tx, tl, tok, xM, xR, xB) (nI i) (nI f) := by
  refine br_f (nI_pos (by omega)) (br_t (nI_lt hi (by omega)) (br_f (nI_pos (by omega)) (br_t (nI_lt (b := 6) hf (by omega)) ⟨pk_in (i * 6 + f) 384 (by omega) (rb_i6 i f), ?_⟩)))
  rw [rb_i6, nI_clamp (by omega)]
  exact hp
end
section
variable {cap Q A Z L T e : Nat} {ed kd nx so tx : Nat → Int32}
theorem rb_xse (E : rb_Env ed nx so tx A L Q Z) (v1 v2 v3 : Int32) : ∃ (r : Int32) (ed' : Nat → Int32), (∀ i, ed' i = -1 ∨ ∃ j, j < Q ∧ ed' i = nI j) ∧ (L ≠ 0 → ed' = ed) ∧
    ∀ (post : Int32 → St2 → Prop) (me : Int32) (tl tok xM xR xB : Nat → Int32), post r (nI cap, nI Q, nI A, nI Z, nI L, nI T, me, nI e, ed', kd, nx, so, tx, tl, tok, xM, xR, xB) → wpX_setEdges post (nI cap, nI Q, nI A, nI Z, nI L, nI T, me, nI e, ed, kd, nx, so, tx, tl, tok, xM, xR, xB) v1 v2 v3 := by
  obtain ⟨E1, E2, E3, E4, E5, E6, E7, E8⟩ := E
  by_cases h1 : ∃ s, s < Q ∧ v1 = nI s
  · obtain ⟨s, hs, rfl⟩ := h1
    by_cases a1 : v2 < 1
    · exact ⟨-2, ed, E5, fun _ => rfl, fun post me tl tok xM xR xB hp => by
        unfold wpX_setEdges
        exact rb_xstt E2 hs (br_f (by decide) (br_t a1 hp))⟩
    by_cases a2 : v2 ≤ (((1 : Int32) <<< (nI A &&& 31)) - 1)
    rotate_left
    · exact ⟨-2, ed, E5, fun _ => rfl, fun post me tl tok xM xR xB hp => by
        unfold wpX_setEdges
        exact rb_xstt E2 hs (br_f (by decide) (br_f a1 (br_f a2 hp)))⟩
    by_cases a3 : v3 = -1
    · by_cases hL : L = 0
      · exact ⟨0, rb_se ed s v2 v3 A, fun i => rb_se_in E5 (Or.inl a3) A i, fun z => absurd hL z, fun post me tl tok xM xR xB hp => by
          unfold wpX_setEdges
          exact rb_xstt E2 hs (br_f (by decide) (br_f a1 (br_t a2 (br_t a3 (pk_eq L 0 (fun _ => rb_x60 E1 (by omega) hp) (fun z => absurd hL z))))))⟩
      · exact ⟨-3, ed, E5, fun _ => rfl, fun post me tl tok xM xR xB hp => by
          unfold wpX_setEdges
          exact rb_xstt E2 hs (br_f (by decide) (br_f a1 (br_t a2 (br_t a3 (pk_eq L 0 (fun z => absurd z hL) (fun _ => hp))))))⟩
    · by_cases h3 : ∃ j, j < Q ∧ v3 = nI j
      · obtain ⟨j, hj, rfl⟩ := h3
        by_cases hL : L = 0
        · exact ⟨0, rb_se ed s v2 (nI j) A, fun i => rb_se_in E5 (Or.inr ⟨j, hj, rfl⟩) A i, fun z => absurd hL z, fun post me tl tok xM xR xB hp => by
            unfold wpX_setEdges
            exact rb_xstt E2 hs (br_f (by decide) (br_f a1 (br_t a2 (br_f a3 (rb_xstt E2 hj (br_f (by decide) (pk_eq L 0 (fun _ => rb_x60 E1 (by omega) hp) (fun z => absurd hL z))))))))⟩
        · exact ⟨-3, ed, E5, fun _ => rfl, fun post me tl tok xM xR xB hp => by
            unfold wpX_setEdges
            exact rb_xstt E2 hs (br_f (by decide) (br_f a1 (br_t a2 (br_f a3 (rb_xstt E2 hj (br_f (by decide) (pk_eq L 0 (fun z => absurd z hL) (fun _ => hp))))))))⟩
      · exact ⟨-2, ed, E5, fun _ => rfl, fun post me tl tok xM xR xB hp => by
          unfold wpX_setEdges
          exact rb_xstt E2 hs (br_f (by decide) (br_f a1 (br_t a2 (br_f a3 (rb_xsf E2 (fun j hj z => h3 ⟨j, hj, z⟩) (br_t rfl hp))))))⟩
  · exact ⟨-2, ed, E5, fun _ => rfl, fun post me tl tok xM xR xB hp => by
      unfold wpX_setEdges
      exact rb_xsf E2 (fun j hj z => h1 ⟨j, hj, z⟩) (br_t rfl hp)⟩
theorem rb_x40 {post : Int32 → St2 → Prop} {me : Int32} {tl tok xM xR xB : Nat → Int32} {s : Nat} {v2 v3 : Int32} (hs : s < 16) (hL : L = 0) (hp : post 0 (nI cap, nI Q, nI A, nI Z, nI L, nI T, me, nI e, ed, upd kd s v2, upd nx s (if v2 = 0 then -1 else v3), so, tx, tl, tok, xM, xR, xB)) : wX_setAccept_40 post (nI s) v2 v3 (nI cap) (nI Q) (nI A) (nI Z) (nI L) (nI T) me (nI e) ed kd nx so tx tl tok xM xR xB := by
  have hv : vp_in (nI s) 16 := pk_in s 16 hs
  have hs' : s < 2 ^ 31 := by omega
  refine pk_eq L 0 (fun _ => ⟨hv, nm_r (rb_ucl rfl hs' rfl) ?_⟩) (fun z => absurd hL z)
  by_cases g : v2 = 0
  · rw [if_pos g] at hp
    exact br_t g ⟨hv, nm_r (rb_ucl rfl hs' rfl) hp⟩
  · rw [if_neg g] at hp
    exact br_f g ⟨hv, nm_r (rb_ucl rfl hs' rfl) hp⟩
theorem rb_xac (E : rb_Env ed nx so tx A L Q Z) (hk : ∀ i, ∃ c, c < 16 ∧ kd i = nI c) (v1 v2 v3 : Int32) : ∃ (r : Int32) (kd' nx' : Nat → Int32), (∀ i, ∃ c, c < 16 ∧ kd' i = nI c) ∧ (∀ i, nx' i = -1 ∨ ∃ j, j < Z ∧ nx' i = nI j) ∧ (L ≠ 0 → kd' = kd ∧ nx' = nx) ∧
    ∀ (post : Int32 → St2 → Prop) (me : Int32) (tl tok xM xR xB : Nat → Int32), post r (nI cap, nI Q, nI A, nI Z, nI L, nI T, me, nI e, ed, kd', nx', so, tx, tl, tok, xM, xR, xB) → wpX_setAccept post (nI cap, nI Q, nI A, nI Z, nI L, nI T, me, nI e, ed, kd, nx, so, tx, tl, tok, xM, xR, xB) v1 v2 v3 := by
  obtain ⟨E1, E2, E3, E4, E5, E6, E7, E8⟩ := E
  by_cases h1 : ∃ s, s < Q ∧ v1 = nI s
  · obtain ⟨s, hs, rfl⟩ := h1
    by_cases a1 : v2 < 0
    · exact ⟨-2, kd, nx, hk, E6, fun _ => ⟨rfl, rfl⟩, fun post me tl tok xM xR xB hp => by
        unfold wpX_setAccept
        exact rb_xstt E2 hs (br_f (by decide) (br_t a1 hp))⟩
    by_cases a2 : v2 ≤ 15
    rotate_left
    · exact ⟨-2, kd, nx, hk, E6, fun _ => ⟨rfl, rfl⟩, fun post me tl tok xM xR xB hp => by
        unfold wpX_setAccept
        exact rb_xstt E2 hs (br_f (by decide) (br_f a1 (br_f a2 hp)))⟩
    obtain ⟨c, hc, ec⟩ := nI_of a1
    have hc' : c ≤ 15 := by
      rw [ec] at a2
      exact (nI_leI (b := 15) hc (by omega)).mp a2
    have hk' : ∀ i, ∃ c, c < 16 ∧ upd kd s v2 i = nI c := fun i => by
      by_cases ei : i = s
      · rw [ei, pk_us]; exact ⟨c, by omega, ec⟩
      · rw [pk_un ei]; exact hk i
    have hn' : (v3 = -1 ∨ ∃ j, j < Z ∧ v3 = nI j) → ∀ i, upd nx s (if v2 = 0 then -1 else v3) i = -1 ∨ ∃ j, j < Z ∧ upd nx s (if v2 = 0 then -1 else v3) i = nI j := fun h3 i => by
      by_cases ei : i = s
      · rw [ei, pk_us]
        by_cases g : v2 = 0
        · rw [if_pos g]; exact Or.inl rfl
        · rw [if_neg g]; exact h3
      · rw [pk_un ei]; exact E6 i
    by_cases hL : L = 0
    · by_cases a3 : v3 = -1
      · exact ⟨0, _, _, hk', hn' (Or.inl a3), fun z => absurd hL z, fun post me tl tok xM xR xB hp => by
          unfold wpX_setAccept
          exact rb_xstt E2 hs (br_f (by decide) (br_f a1 (br_t a2 (br_t a3 (rb_x40 (by omega) hL hp)))))⟩
      · by_cases h3 : ∃ j, j < Z ∧ v3 = nI j
        · obtain ⟨j, hj, ej⟩ := h3
          exact ⟨0, _, _, hk', hn' (Or.inr ⟨j, hj, ej⟩), fun z => absurd hL z, fun post me tl tok xM xR xB hp => by
            unfold wpX_setAccept
            refine rb_xstt E2 hs (br_f (by decide) (br_f a1 (br_t a2 (br_f a3 ?_))))
            have w : wX_setAccept_40 post (nI s) v2 v3 (nI cap) (nI Q) (nI A) (nI Z) (nI L) (nI T) me (nI e) ed kd nx so tx tl tok xM xR xB := rb_x40 (by omega) hL hp
            rw [ej] at w ⊢
            exact rb_xmt E3 hj (br_f (by decide) w)⟩
        · exact ⟨-2, kd, nx, hk, E6, fun _ => ⟨rfl, rfl⟩, fun post me tl tok xM xR xB hp => by
            unfold wpX_setAccept
            exact rb_xstt E2 hs (br_f (by decide) (br_f a1 (br_t a2 (br_f a3 (rb_xmf E3 (fun j hj z => h3 ⟨j, hj, z⟩) (br_t rfl hp))))))⟩
    · by_cases a3 : v3 = -1
      · exact ⟨-3, kd, nx, hk, E6, fun _ => ⟨rfl, rfl⟩, fun post me tl tok xM xR xB hp => by
          unfold wpX_setAccept
          exact rb_xstt E2 hs (br_f (by decide) (br_f a1 (br_t a2 (br_t a3 (pk_eq L 0 (fun z => absurd z hL) (fun _ => hp))))))⟩
      · by_cases h3 : ∃ j, j < Z ∧ v3 = nI j
        · obtain ⟨j, hj, rfl⟩ := h3
          exact ⟨-3, kd, nx, hk, E6, fun _ => ⟨rfl, rfl⟩, fun post me tl tok xM xR xB hp => by
            unfold wpX_setAccept
            exact rb_xstt E2 hs (br_f (by decide) (br_f a1 (br_t a2 (br_f a3 (rb_xmt E3 hj (br_f (by decide) (pk_eq L 0 (fun z => absurd z hL) (fun _ => hp))))))))⟩
        · exact ⟨-2, kd, nx, hk, E6, fun _ => ⟨rfl, rfl⟩, fun post me tl tok xM xR xB hp => by
            unfold wpX_setAccept
            exact rb_xstt E2 hs (br_f (by decide) (br_f a1 (br_t a2 (br_f a3 (rb_xmf E3 (fun j hj z => h3 ⟨j, hj, z⟩) (br_t rfl hp))))))⟩
  · exact ⟨-2, kd, nx, hk, E6, fun _ => ⟨rfl, rfl⟩, fun post me tl tok xM xR xB hp => by
      unfold wpX_setAccept
      exact rb_xsf E2 (fun j hj z => h1 ⟨j, hj, z⟩) (br_t rfl hp)⟩
theorem rb_xso (E : rb_Env ed nx so tx A L Q Z) (v1 v2 : Int32) : ∃ (r : Int32) (so' : Nat → Int32), (∀ i, ∃ j, j < Q ∧ so' i = nI j) ∧ (L ≠ 0 → so' = so) ∧
    ∀ (post : Int32 → St2 → Prop) (me : Int32) (tl tok xM xR xB : Nat → Int32), post r (nI cap, nI Q, nI A, nI Z, nI L, nI T, me, nI e, ed, kd, nx, so', tx, tl, tok, xM, xR, xB) → wpX_setStart post (nI cap, nI Q, nI A, nI Z, nI L, nI T, me, nI e, ed, kd, nx, so, tx, tl, tok, xM, xR, xB) v1 v2 := by
  obtain ⟨E1, E2, E3, E4, E5, E6, E7, E8⟩ := E
  by_cases h1 : ∃ m, m < Z ∧ v1 = nI m
  · obtain ⟨m, hm, rfl⟩ := h1
    by_cases h2 : ∃ s, s < Q ∧ v2 = nI s
    · obtain ⟨s, hs, rfl⟩ := h2
      by_cases hL : L = 0
      · refine ⟨0, upd so m (nI s), fun i => ?_, fun z => absurd hL z, fun post me tl tok xM xR xB hp => ?_⟩
        · by_cases ei : i = m
          · rw [ei, pk_us]; exact ⟨s, hs, rfl⟩
          · rw [pk_un ei]; exact E7 i
        · unfold wpX_setStart
          exact rb_xmt E3 hm (br_f (by decide) (rb_xstt E2 hs (br_f (by decide) (pk_eq L 0 (fun _ => ⟨pk_in m 4 (by omega), nm_r (rb_ucl rfl (by omega) rfl) hp⟩) (fun z => absurd hL z)))))
      · exact ⟨-3, so, E7, fun _ => rfl, fun post me tl tok xM xR xB hp => by
          unfold wpX_setStart
          exact rb_xmt E3 hm (br_f (by decide) (rb_xstt E2 hs (br_f (by decide) (pk_eq L 0 (fun z => absurd z hL) (fun _ => hp)))))⟩
    · exact ⟨-2, so, E7, fun _ => rfl, fun post me tl tok xM xR xB hp => by
        unfold wpX_setStart
        exact rb_xmt E3 hm (br_f (by decide) (rb_xsf E2 (fun j hj z => h2 ⟨j, hj, z⟩) (br_t rfl hp)))⟩
  · exact ⟨-2, so, E7, fun _ => rfl, fun post me tl tok xM xR xB hp => by
      unfold wpX_setStart
      exact rb_xmf E3 (fun j hj z => h1 ⟨j, hj, z⟩) (br_t rfl hp)⟩
end
end
section
/-! the object's splice and stableCount -/
/-- the births in the cells -/
def rb_Bi (T e : Nat) (B : Nat → Nat) (tok : Nat → Int32) : Prop := ∀ i, i < T → tok (i * 6 + 5) = nI (B i) ∧ B i ≤ e
theorem rb_Seq_ch {ed kd nx so tx : Nat → Int32} {A L Z T : Nat} {S M : Nat → Nat} {K : Nat → Int32} {lk : Nat → Nat} (h : rb_Seq ed kd nx so tx A L Z T S M K lk) : ∀ i, i < T → S i < S (i + 1) := fun i hi => (h.2.2.2.2.2 i hi).2.2.1
section
variable {cap Q A Z L T e : Nat} {me : Int32} {ed kd nx so tx tl tok xM xR xB : Nat → Int32}
theorem rb_x68 {post : Int32 → St2 → Prop} {pos del n T' : Nat} {pk : Int32} {S M B S' M' : Nat → Nat} {K K' : Nat → Int32} {lk lk' : Nat → Nat} (hL : L ≤ cap) (hcap : cap ≤ 64) (hZ : Z ≤ 4) (he : e + 1 < 2 ^ 31)
    (hs0 : rb_Seq ed kd nx so tx A L Z T S M K lk) (hC0 : rb_Cut S M K lk T tok) (hB0 : rb_Bi T e B tok)
    (E' : rb_Env ed nx so (rb_nt tx (rb_sy pk) L pos del n) A (L - del + n) Q Z) (hs : rb_Seq ed kd nx so (rb_nt tx (rb_sy pk) L pos del n) A (L - del + n) Z T' S' M' K' lk')
    (hd : pos + del ≤ L) (hn : n ≤ 8) (hc : L - del + n ≤ cap)
    (hp : ∀ tl' tok' xM' xR' xB', rb_Cut S' M' K' lk' T' tok' → rb_Bi T' (e + 1) (fun i => rb_bn T S M (fun i => nI (rb_rc (S i) (lk i))) B pos del n e (S' i) (M' i)) tok' →
      post (nI (rb_fr (e + 1) (fun i => rb_bn T S M (fun i => nI (rb_rc (S i) (lk i))) B pos del n e (S' i) (M' i)) T')) (nI cap, nI Q, nI A, nI Z, nI (L - del + n), nI T', nI (M' T'), nI (e + 1), ed, kd, nx, so, rb_nt tx (rb_sy pk) L pos del n, tl', tok', xM', xR', xB')) :
    wX_splice_68 post (nI pos) (nI del) (nI n) pk (nI cap) (nI Q) (nI A) (nI Z) (nI L) (nI T) me (nI e) ed kd nx so tx tl tok xM xR xB := by
  have l3 := rb_Seq_ch hs0
  obtain ⟨t1, t2, t3, t4, t5, t6⟩ := hs0
  have hs' := hs
  obtain ⟨s1, s2, s3, s4, s5, s6⟩ := hs'
  refine pk_le (L - del + n) cap (fun _ => ?_) (fun z => absurd z (by omega)) (by rw [pk_sub (by omega), nI_add]) rfl
  refine rb_xrem (S := S) (M := M) (B := B) (R := fun i => nI (rb_rc (S i) (lk i))) (by omega) (fun i hi => ?_) (rb_ch_in l3) (fun xM' xR' xB' O => rb_xrep hd (by omega) (by omega) (fun tl' => rb_xcut E' hs (fun tok' hC => nm_r (nI_1 e) ?_)))
  · obtain ⟨o1, o2, o3, o4, o5⟩ := hC0 i hi
    obtain ⟨p1, p2⟩ := hB0 i hi
    have p7 := (t6 i hi).1
    exact ⟨o1, o4, o5, p1, by omega⟩
  · refine rb_xset (S' := S') (M' := M') O (rb_ch_in l3) (fun j hj => ?_) (fun j hj => (hB0 j hj).2) he (by omega) (by omega) (fun i hi => ?_) (fun tok'' g1 g2 => hp _ _ _ _ _ (fun j hj => ?_) (fun j hj => ⟨g2 j hj, rb_bn_le (fun j hj => (hB0 j hj).2)⟩))
    · have p5 := (t6 j hj).2.1
      omega
    · obtain ⟨o1, o2, o3, o4, o5⟩ := hC i hi
      obtain ⟨p1, p2, p3, p4⟩ := s6 i hi
      exact ⟨o1, o4, by omega, by omega, by omega⟩
    · have q0 : tok'' (j * 6) = tok' (j * 6) := g1 j hj 0 (by omega)
      rw [q0, g1 j hj 1 (by omega), g1 j hj 2 (by omega), g1 j hj 3 (by omega), g1 j hj 4 (by omega)]
      exact hC j hj
end
section
variable {cap Q A Z L T e : Nat} {ed kd nx so tx : Nat → Int32}
/-- a splice is refused, whatever stands in the object's own arrays, or executed -/
theorem rb_xsp {S M : Nat → Nat} {K : Nat → Int32} {lk : Nat → Nat} (hL : L ≤ cap) (hcap : cap ≤ 64) (he : e + 1 < 2 ^ 31) (E : rb_Env ed nx so tx A L Q Z) (hs0 : rb_Seq ed kd nx so tx A L Z T S M K lk) (v1 v2 v3 v4 : Int32) :
    (∃ r : Int32, ∀ (post : Int32 → St2 → Prop) (me : Int32) (tl tok xM xR xB : Nat → Int32), post r (nI cap, nI Q, nI A, nI Z, nI L, nI T, me, nI e, ed, kd, nx, so, tx, tl, tok, xM, xR, xB) → wpX_splice post (nI cap, nI Q, nI A, nI Z, nI L, nI T, me, nI e, ed, kd, nx, so, tx, tl, tok, xM, xR, xB) v1 v2 v3 v4) ∨
    (∃ pos del n : Nat, v1 = nI pos ∧ pos + del ≤ L ∧ n ≤ 8 ∧ L - del + n ≤ cap ∧ rb_Env ed nx so (rb_nt tx (rb_sy v4) L pos del n) A (L - del + n) Q Z ∧
      ∀ (T' : Nat) (S' M' : Nat → Nat) (K' : Nat → Int32) (lk' : Nat → Nat), rb_Seq ed kd nx so (rb_nt tx (rb_sy v4) L pos del n) A (L - del + n) Z T' S' M' K' lk' →
      ∀ (B : Nat → Nat) (post : Int32 → St2 → Prop) (me : Int32) (tl tok xM xR xB : Nat → Int32), rb_Cut S M K lk T tok → rb_Bi T e B tok →
      (∀ r tl' tok' xM' xR' xB', rb_Cut S' M' K' lk' T' tok' → rb_Bi T' (e + 1) (fun i => rb_bn T S M (fun i => nI (rb_rc (S i) (lk i))) B pos del n e (S' i) (M' i)) tok' →
        post r (nI cap, nI Q, nI A, nI Z, nI (L - del + n), nI T', nI (M' T'), nI (e + 1), ed, kd, nx, so, rb_nt tx (rb_sy v4) L pos del n, tl', tok', xM', xR', xB')) → wpX_splice post (nI cap, nI Q, nI A, nI Z, nI L, nI T, me, nI e, ed, kd, nx, so, tx, tl, tok, xM, xR, xB) v1 v2 v3 v4) := by
  have E' := E
  obtain ⟨E1, E2, E3, E4, E5, E6, E7, E8⟩ := E'
  by_cases a1 : v1 < 0
  · exact Or.inl ⟨-2, fun post me tl tok xM xR xB hp => br_t a1 hp⟩
  by_cases a2 : v1 ≤ nI L
  rotate_left
  · exact Or.inl ⟨-2, fun post me tl tok xM xR xB hp => br_f a1 (br_f a2 hp)⟩
  by_cases a3 : v2 < 0
  · exact Or.inl ⟨-2, fun post me tl tok xM xR xB hp => br_f a1 (br_t a2 (br_t a3 hp))⟩
  by_cases a4 : v2 ≤ nI L - v1
  rotate_left
  · exact Or.inl ⟨-2, fun post me tl tok xM xR xB hp => br_f a1 (br_t a2 (br_f a3 (br_f a4 hp)))⟩
  by_cases a5 : v3 < 0
  · exact Or.inl ⟨-2, fun post me tl tok xM xR xB hp => br_f a1 (br_t a2 (br_f a3 (br_t a4 (br_t a5 hp))))⟩
  by_cases a6 : v3 ≤ 8
  rotate_left
  · exact Or.inl ⟨-2, fun post me tl tok xM xR xB hp => br_f a1 (br_t a2 (br_f a3 (br_t a4 (br_f a5 (br_f a6 hp)))))⟩
  obtain ⟨pos, hpos, rfl⟩ := nI_of a1
  obtain ⟨del, hdel, rfl⟩ := nI_of a3
  obtain ⟨n, hn', rfl⟩ := nI_of a5
  have hp : pos ≤ L := (nI_leI hpos (by omega)).mp a2
  have a4' := a4
  rw [pk_sub hp] at a4'
  have hd' : del ≤ L - pos := (nI_leI hdel (by omega)).mp a4'
  have hd : pos + del ≤ L := by omega
  have hn : n ≤ 8 := (nI_leI (b := 8) hn' (by omega)).mp a6
  have bad : ∀ k, k < n → ¬ rb_sy v4 k < nI A → (∀ k, k < n → ∃ c, c < A ∧ rb_sy v4 k = nI c) → False := by
    intro j hj z hall
    obtain ⟨c, hc, ec⟩ := hall j hj
    exact z (by rw [ec]; exact nI_lt hc (by omega))
  by_cases hsy : ∀ k, k < n → ∃ c, c < A ∧ rb_sy v4 k = nI c
  rotate_left
  · refine Or.inl ⟨-2, fun post me tl tok xM xR xB hp => br_f a1 (br_t a2 (br_f a3 (br_t a4 (br_f a5 (br_t a6 (rb_xas E1 hn (fun z => absurd z hsy) (fun _ => br_t rfl hp)))))))⟩
  by_cases hz : del = 0 ∧ n = 0
  · obtain ⟨rfl, rfl⟩ := hz
    exact Or.inl ⟨0, fun post me tl tok xM xR xB hp => br_f a1 (br_t a2 (br_f a3 (br_t a4 (br_f a5 (br_t a6 (rb_xas E1 hn (fun _ => br_f (by decide) (br_t rfl (br_t rfl hp))) (fun ⟨j, hj, _⟩ => absurd hj (by omega))))))))⟩
  have go : ∀ {P : Prop} {R : Prop}, R → ((nI del = 0 → ((nI n = 0 → P) ∧ (¬ nI n = 0 → R))) ∧ (¬ nI del = 0 → R)) := fun r => pk_eq del 0 (fun z1 => pk_eq n 0 (fun z2 => absurd ⟨z1, z2⟩ hz) (fun _ => r)) (fun _ => r)
  by_cases hc : L - del + n ≤ cap
  · refine Or.inr ⟨pos, del, n, rfl, hd, hn, hc, ⟨E1, E2, E3, by omega, E5, E6, E7, rb_nt_in hd E8 hsy⟩, fun T' S' M' K' lk' hs B post me tl tok xM xR xB hC hB H => ?_⟩
    exact br_f a1 (br_t a2 (br_f a3 (br_t a4 (br_f a5 (br_t a6 (rb_xas E1 hn (fun _ => br_f (by decide) (go (rb_x68 hL hcap E3 he hs0 hC hB ⟨E1, E2, E3, by omega, E5, E6, E7, rb_nt_in hd E8 hsy⟩ hs hd hn hc (fun tl' tok' xM' xR' xB' h1 h2 => H _ _ _ _ _ _ h1 h2)))) (fun ⟨j, hj, z⟩ => absurd hsy (fun hall => bad j hj z hall))))))))
  · have ef : nI L - nI del + nI n = nI (L - del + n) := by rw [pk_sub (by omega), nI_add]
    have hf : ¬ nI L - nI del + nI n ≤ nI cap := by rw [ef]; exact nI_ge (by omega) (by omega)
    exact Or.inl ⟨-4, fun post me tl tok xM xR xB hp => br_f a1 (br_t a2 (br_f a3 (br_t a4 (br_f a5 (br_t a6 (rb_xas E1 hn (fun _ => br_f (by decide) (go (br_f hf hp))) (fun ⟨j, hj, z⟩ => absurd hsy (fun hall => bad j hj z hall))))))))⟩
theorem rb_xsc1 {post : Int32 → Prop} {me : Int32} {tl tok xM xR xB : Nat → Int32} {x : Int32} {i0 : Nat} {R : Nat → Int32} (hT : T ≤ 64) (hi : i0 ≤ T) (h1 : ∀ i, i < T → tok (i * 6 + 4) = R i) (h2 : ∀ i, i < i0 → R i ≤ x) (h3 : i0 < T → ¬ R i0 ≤ x) (hq : post (nI i0)) : ∃ f, wX_stableCount_17 post x (nI cap) (nI Q) (nI A) (nI Z) (nI L) (nI T) me (nI e) ed kd nx so tx tl tok xM xR xB f 0 := by
  refine pk_loop (fun f i (_ : Unit) => wX_stableCount_17 post x (nI cap) (nI Q) (nI A) (nI Z) (nI L) (nI T) me (nI e) ed kd nx so tx tl tok xM xR xB f (nI i)) (fun _ _ => True) i0 0 () (Nat.zero_le _) trivial ?_ ?_
  · intro f _ _
    refine pk_le T i0 (fun z => ?_) (fun z => ⟨pk_in (i0 * 6 + 4) 384 (by omega) (rb_i6 i0 4), ?_⟩)
    · have ei : i0 = T := by omega
      rw [ei] at hq
      exact hq
    · have a := rb_rd (a := tok) (rb_i6 i0 4) (by omega) (h1 i0 z)
      exact br_f (fun g => h3 z (a ▸ g)) hq
  · intro f i _ hi' _ hw
    have a := rb_rd (a := tok) (rb_i6 i 4) (by omega) (h1 i (by omega))
    exact pk_le T i (fun z => absurd z (by omega)) (fun _ => ⟨pk_in (i * 6 + 4) 384 (by omega) (rb_i6 i 4), br_t (a ▸ h2 i hi') (nm_r (nI_1 i) (hw () trivial))⟩)
theorem rb_xstb {S M : Nat → Nat} {K : Nat → Int32} {lk : Nat → Nat} (hL : L ≤ 64) (hT : T ≤ L) (v1 : Int32) : ∃ r : Int32, (∀ pos, v1 = nI pos → pos ≤ L → ∃ i0, i0 ≤ T ∧ r = nI i0 ∧ ∀ i, i < i0 → nI (rb_rc (S i) (lk i)) ≤ nI pos) ∧
    ∀ (post : Int32 → Prop) (me : Int32) (tl tok xM xR xB : Nat → Int32), rb_Cut S M K lk T tok → post r → wpX_stableCount post (nI cap, nI Q, nI A, nI Z, nI L, nI T, me, nI e, ed, kd, nx, so, tx, tl, tok, xM, xR, xB) v1 := by
  by_cases a1 : v1 < 0
  · exact ⟨-2, fun pos e1 hp => absurd a1 (by rw [e1]; exact nI_pos (by omega)), fun post me tl tok xM xR xB _ hp => br_t a1 hp⟩
  by_cases a2 : v1 ≤ nI L
  rotate_left
  · exact ⟨-2, fun pos e1 hp => absurd (by rw [e1]; exact nI_le hp (by omega)) a2, fun post me tl tok xM xR xB _ hp => br_f a1 (br_f a2 hp)⟩
  obtain ⟨i0, h1, h2, h3⟩ := rb_first (fun i => nI (rb_rc (S i) (lk i)) ≤ v1) T
  refine ⟨nI i0, fun pos e1 hp => ⟨i0, h1, rfl, fun i hi => ?_⟩, fun post me tl tok xM xR xB hC hp => br_f a1 (br_t a2 (rb_xsc1 (R := fun i => nI (rb_rc (S i) (lk i))) (by omega) h1 (fun i hi => (hC i hi).2.2.2.2) h2 h3 hp))⟩
  rw [← e1]
  exact h2 i hi
end
end
section
/-! the law's own scan of the text -/
section
variable {N kc ks : Nat} {xs : Nat → Int32} {post : Int32 → Prop} {J93 : Int32 → Int32 → Int32 → Int32 → Int32 → Int32 → Int32 → Int32 → Int32 → (Nat → Int32) → (Nat → Int32) → (Nat → Int32) → (Nat → Int32) → (Nat → Int32) → (Nat → Int32) → (Nat → Int32) → (Nat → Int32) → (Nat → Int32) → (Nat → Int32) → Int32 → Int32 → Int32 → Int32 → Int32 → Int32 → Int32 → Int32 → (Nat → Int32) → (Nat → Int32) → (Nat → Int32) → (Nat → Int32) → (Nat → Int32) → (Nat → Int32) → (Nat → Int32) → (Nat → Int32) → (Nat → Int32) → (Nat → Int32) → Prop} {x7 x8 : Int32}
variable {cap Q A Z L T e : Nat} {ed kd nx so tx tl tok xM xR xB tl2 tok2 xM2 xR2 xB2 : Nat → Int32} {S M : Nat → Nat}
theorem rb_l853 {J796 : Int32 → Int32 → Int32 → Prop} {J835 : Int32 → Int32 → Int32 → Int32 → Int32 → Int32 → Prop} {x14 x15 x16 x19 x20 x21 : Int32} {s q g : Nat} (E : rb_Env ed nx so tx A L Q Z) (hk : ∀ i, ∃ c, c < 16 ∧ kd i = nI c) (hs : s < Q) (hq : q ≤ L)
    (H1 : rb_he ed s A = false → J835 (nI q) (nI s) x19 x20 (nI q) (nI (g + 1)))
    (H2 : rb_he ed s A = true → L ≤ q → J835 (nI q) (nI s) x19 x20 (nI (q + 1)) (nI (g + 1)))
    (H3 : rb_he ed s A = true → ∀ c, q < L → c < A → tx q = nI c → ed (s * 8 + c) = -1 → J835 (nI q) (nI s) x19 x20 (nI (q + 1)) (nI (g + 1)))
    (H4 : rb_he ed s A = true → ∀ c j, q < L → c < A → tx q = nI c → j < Q → ed (s * 8 + c) = nI j → (kd j = 0 → J835 (nI (q + 1)) (nI j) x19 x20 x21 (nI (g + 1))) ∧ (¬ kd j = 0 → J835 (nI (q + 1)) (nI j) (nI (q + 1)) (nI j) x21 (nI (g + 1)))) :
    ∃ f, wL_law_853 post N xs J93 J796 J835 (nI Q) (nI A) (nI Z) x7 x8 (nI L) x14 x15 x16 (nI q) (nI s) x19 x20 x21 (nI g) kc ks (nI cap) (nI Q) (nI A) (nI Z) (nI L) (nI T) (nI (M T)) (nI e) ed kd nx so tx tl tok xM xR xB (nI cap) (nI Q) (nI A) (nI Z) (nI L) (nI T) (nI (M T)) (nI e) ed kd nx so tx tl2 tok2 xM2 xR2 xB2 f 1 0 := by
  obtain ⟨E1, E2, E3, E4, E5, E6, E7, E8⟩ := E
  refine pk_loop (fun f c (x : Int32) => wL_law_853 post N xs J93 J796 J835 (nI Q) (nI A) (nI Z) x7 x8 (nI L) x14 x15 x16 (nI q) (nI s) x19 x20 x21 (nI g) kc ks (nI cap) (nI Q) (nI A) (nI Z) (nI L) (nI T) (nI (M T)) (nI e) ed kd nx so tx tl tok xM xR xB (nI cap) (nI Q) (nI A) (nI Z) (nI L) (nI T) (nI (M T)) (nI e) ed kd nx so tx tl2 tok2 xM2 xR2 xB2 f x (nI c))
    (fun c x => (x = 1 ∧ ∀ c', c' < c → ed (s * 8 + c') = -1) ∨ (x = 0 ∧ rb_he ed s A = true)) A 0 1 (Nat.zero_le _) (Or.inl ⟨rfl, lt_0⟩) ?_ ?_
  · intro f x h
    refine pk_le A A (fun _ => ?_) (fun z => absurd z (by omega))
    rcases h with ⟨rfl, h⟩ | ⟨rfl, he⟩
    · exact br_f (by decide) (br_f (by decide) (nm_r (nI_1 g) (H1 (rb_he_f A h))))
    · refine br_t rfl (pk_lt q L (fun hL => ?_) (fun hL => br_t rfl (br_f (by decide) (nm_r (nI_1 q) (nm_r (nI_1 g) (H2 he hL))))))
      obtain ⟨c, hc, ec⟩ := E8 q hL
      refine rb_xsa E4 hL ?_
      rw [ec]
      refine rb_xed E2 E1 hs hc ?_
      rcases E5 (s * 8 + c) with h | ⟨j, hj, ej⟩
      · rw [h]
        exact br_t rfl (br_f (by decide) (nm_r (nI_1 q) (nm_r (nI_1 g) (H3 he c hL hc ec h))))
      · rw [ej]
        obtain ⟨h0, h1⟩ := H4 he c j hL hc ec hj ej
        refine br_t rfl (br_t (nI_pos' (by omega)) (nm_r (nI_1 q) (rb_xak E2 hj ?_)))
        obtain ⟨w, hw, ew⟩ := hk j
        by_cases hz : kd j = 0
        · exact br_t (by rw [hz]; decide) (nm_r (nI_1 g) (h0 hz))
        · refine br_f ?_ (nm_r (nI_1 g) (h1 hz))
          rw [ew] at hz ⊢
          exact nI_nle (Nat.pos_of_ne_zero (fun z => hz (by rw [z]; rfl))) (by omega)
  · intro f c x hc h hw
    refine pk_le A c (fun z => absurd z (by omega)) (fun _ => rb_xed E2 E1 hs hc ?_)
    rcases E5 (s * 8 + c) with h1 | ⟨j, hj, ej⟩
    · rw [h1]
      refine br_t (by decide) (nm_r (nI_1 c) (hw x ?_))
      rcases h with ⟨rfl, h⟩ | h
      · exact Or.inl ⟨rfl, lt_s h h1⟩
      · exact Or.inr h
    · rw [ej]
      exact br_f (nI_pos (by omega)) (nm_r (nI_1 c) (hw 0 (Or.inr ⟨rfl, rb_he_t (by rw [ej]; exact rb_m1 (by omega)) A hc⟩)))
/-- the law's bestEnd and bestState against (END, KIND, mode after) -/
def rb_Bl (kd nx : Nat → Int32) (Q s m : Nat) (x19 x20 : Int32) (b : Nat × Int32 × Nat) : Prop :=
  (x19 = -1 ∧ b = (s + 1, 0, m)) ∨ (∃ t en, t < Q ∧ en < 2 ^ 31 ∧ x20 = nI t ∧ x19 = nI en ∧ b = (en, kd t, rb_af nx m t))
theorem rb_l835e {J796 : Int32 → Int32 → Int32 → Prop} {x13 x14 x15 x16 x17 x18 x19 x20 x22 : Int32} {lk n : Nat} (hlk : lk < 2 ^ 31) (H : wL_law_969 post N xs J93 J796 (nI Q) (nI A) (nI Z) x7 x8 x13 x14 x15 x16 x19 x20 (nI lk) kc ks (nI cap) (nI Q) (nI A) (nI Z) (nI L) (nI T) (nI (M T)) (nI e) ed kd nx so tx tl tok xM xR xB (nI cap) (nI Q) (nI A) (nI Z) (nI L) (nI T) (nI (M T)) (nI e) ed kd nx so tx tl2 tok2 xM2 xR2 xB2) :
    wL_law_835 post N xs J93 J796 (nI Q) (nI A) (nI Z) x7 x8 x13 x14 x15 x16 kc ks (nI cap) (nI Q) (nI A) (nI Z) (nI L) (nI T) (nI (M T)) (nI e) ed kd nx so tx tl tok xM xR xB (nI cap) (nI Q) (nI A) (nI Z) (nI L) (nI T) (nI (M T)) (nI e) ed kd nx so tx tl2 tok2 xM2 xR2 xB2 (n + 1) x17 x18 x19 x20 (nI lk) x22 :=
  br_c (fun _ => H) (fun _ => br_t (nI_pos' hlk) H)
theorem rb_l835 {J796 : Int32 → Int32 → Int32 → Prop} {x14 x15 x16 : Int32} {s0 m : Nat} (E : rb_Env ed nx so tx A L Q Z) (hk : ∀ i, ∃ c, c < 16 ∧ kd i = nI c) : ∀ (d s q g : Nat) (b : Nat × Int32 × Nat) (x19 x20 : Int32), q ≤ L → L + 1 - q ≤ d → s < Q → g + s0 = q → rb_Bl kd nx Q s0 m x19 x20 b →
    (∀ (x19' x20' : Int32), rb_Bl kd nx Q s0 m x19' x20' (rb_sc ed kd nx tx A L m d s q b).2 → wL_law_969 post N xs J93 J796 (nI Q) (nI A) (nI Z) x7 x8 (nI L) x14 x15 x16 x19' x20' (nI (rb_sc ed kd nx tx A L m d s q b).1) kc ks (nI cap) (nI Q) (nI A) (nI Z) (nI L) (nI T) (nI (M T)) (nI e) ed kd nx so tx tl tok xM xR xB (nI cap) (nI Q) (nI A) (nI Z) (nI L) (nI T) (nI (M T)) (nI e) ed kd nx so tx tl2 tok2 xM2 xR2 xB2) →
    wL_law_835 post N xs J93 J796 (nI Q) (nI A) (nI Z) x7 x8 (nI L) x14 x15 x16 kc ks (nI cap) (nI Q) (nI A) (nI Z) (nI L) (nI T) (nI (M T)) (nI e) ed kd nx so tx tl tok xM xR xB (nI cap) (nI Q) (nI A) (nI Z) (nI L) (nI T) (nI (M T)) (nI e) ed kd nx so tx tl2 tok2 xM2 xR2 xB2 (d + 1) (nI q) (nI s) x19 x20 (-1) (nI g) := by
  have E' := E
  obtain ⟨E1, E2, E3, E4, E5, E6, E7, E8⟩ := E'
  intro d
  induction d with
  | zero => intro s q g b x19 x20 h1 h2 _ _ _ _; omega
  | succ d ih =>
    intro s q g b x19 x20 hq hd hs hg hb H
    refine pk_lt 65 g (fun z => absurd z (by omega)) (fun _ => br_f (by decide) (rb_l853 E hk hs hq (fun he => ?_) (fun he hL => ?_) (fun he c hL hc ec h => ?_) (fun he c j hL hc ec hj ej => ?_)))
    · rw [rb_sc1 he] at H
      exact rb_l835e (by omega) (H x19 x20 hb)
    · rw [rb_sc2 he hL] at H
      exact rb_l835e (by omega) (H x19 x20 hb)
    · have hcl : (tx q).toNatClampNeg = c := by rw [ec, nI_clamp (by omega)]
      rw [rb_sc3 he hL hcl h] at H
      exact rb_l835e (by omega) (H x19 x20 hb)
    · have hcl : (tx q).toNatClampNeg = c := by rw [ec, nI_clamp (by omega)]
      rw [rb_sc4 he hL hcl (by omega) ej] at H
      refine ⟨fun hz => ?_, fun hz => ?_⟩
      · rw [rb_up_0 hz] at H
        exact ih j (q + 1) (g + 1) b x19 x20 (by omega) (by omega) hj (by omega) hb H
      · rw [rb_up_1 hz] at H
        exact ih j (q + 1) (g + 1) (q + 1, kd j, rb_af nx m j) (nI (q + 1)) (nI j) (by omega) (by omega) hj (by omega) (Or.inr ⟨j, q + 1, hj, by omega, rfl, rfl, rfl⟩) H
theorem rb_l1039 {J796 : Int32 → Int32 → Int32 → Prop} {x13 x14 x15 x22 x23 x24 z0 : Int32} {i : Nat} (hT : T ≤ 64) (hi : i < T) (h0 : tok (i * 6) = x14) (h1 : tok (i * 6 + 1) = x23) (h2 : tok (i * 6 + 2) = x24) (h3 : tok (i * 6 + 3) = x15) (h4 : tok (i * 6 + 4) = x22)
    (hz0 : z0 < 0 → J796 x23 x15 (nI (i + 1))) (hz1 : ¬ z0 < 0 → J796 x23 z0 (nI (i + 1))) : wL_law_1039 post N xs J93 J796 (nI Q) (nI A) (nI Z) x7 x8 x13 x14 x15 (nI i) x22 x23 x24 z0 kc ks (nI cap) (nI Q) (nI A) (nI Z) (nI L) (nI T) (nI (M T)) (nI e) ed kd nx so tx tl tok xM xR xB (nI cap) (nI Q) (nI A) (nI Z) (nI L) (nI T) (nI (M T)) (nI e) ed kd nx so tx tl2 tok2 xM2 xR2 xB2 := by
  unfold wL_law_1039
  refine rb_xtk (f := 0) hT hi (by omega) (br_t h0 ?_)
  refine rb_xtk (f := 1) hT hi (by omega) (br_t h1 ?_)
  refine rb_xtk (f := 2) hT hi (by omega) (br_t h2 ?_)
  refine rb_xtk (f := 3) hT hi (by omega) (br_t h3 ?_)
  refine rb_xtk (f := 4) hT hi (by omega) (br_t h4 ?_)
  exact br_c (fun z => nm_r (nI_1 i) (hz0 z)) (fun z => nm_r (nI_1 i) (hz1 z))
theorem rb_l987 {J796 : Int32 → Int32 → Int32 → Prop} {x13 x19 x20 z0 : Int32} {i s m en af : Nat} {k : Int32} (E : rb_Env ed nx so tx A L Q Z) (hT : T ≤ 64) (hi : i < T) (hm : m < Z) (h0 : tok (i * 6) = nI s) (h1 : tok (i * 6 + 1) = nI en) (h2 : tok (i * 6 + 2) = k) (h3 : tok (i * 6 + 3) = nI m) (h4 : tok (i * 6 + 4) = z0)
    (hb : rb_Bl kd nx Q s m x19 x20 (en, k, af)) (hJ : J796 (nI en) (nI af) (nI (i + 1))) : wL_law_987 post N xs J93 J796 (nI Q) (nI A) (nI Z) x7 x8 x13 (nI s) (nI m) (nI i) x19 x20 z0 kc ks (nI cap) (nI Q) (nI A) (nI Z) (nI L) (nI T) (nI (M T)) (nI e) ed kd nx so tx tl tok xM xR xB (nI cap) (nI Q) (nI A) (nI Z) (nI L) (nI T) (nI (M T)) (nI e) ed kd nx so tx tl2 tok2 xM2 xR2 xB2 := by
  obtain ⟨E1, E2, E3, E4, E5, E6, E7, E8⟩ := E
  rcases hb with ⟨rfl, hb⟩ | ⟨t, en', ht, hen, rfl, rfl, hb⟩
  · obtain ⟨rfl, rfl, rfl⟩ : en = s + 1 ∧ k = 0 ∧ af = m := by
      obtain ⟨a, b⟩ := Prod.mk.inj hb
      obtain ⟨b, c⟩ := Prod.mk.inj b
      exact ⟨a, b, c⟩
    refine br_f (by decide) (br_f (by decide) (br_f (by decide) ?_))
    refine rb_l1039 hT hi h0 (h1.trans (nI_1 s).symm) h2 h3 h4 (fun _ => ?_) (fun z => absurd (by decide) z)
    rw [nI_1]
    exact hJ
  · obtain ⟨rfl, rfl, rfl⟩ : en = en' ∧ k = kd t ∧ af = rb_af nx m t := by
      obtain ⟨a, b⟩ := Prod.mk.inj hb
      obtain ⟨b, c⟩ := Prod.mk.inj b
      exact ⟨a, b, c⟩
    have hp : (0 : Int32) ≤ nI en := nI_pos' hen
    refine br_t hp (br_t hp (rb_xak E2 ht (br_t hp (rb_xam E2 ht ?_))))
    refine rb_l1039 hT hi h0 h1 h2 h3 h4 (fun z => ?_) (fun z => ?_)
    · by_cases hn : nx t = -1
      · rw [rb_af_s hn] at hJ
        exact hJ
      · rw [rb_af_nI (m := m) E3 E6 hn] at z
        have := rb_af_lt (s := t) E3 E6 hm
        exact absurd z (nI_pos (by omega))
    · by_cases hn : nx t = -1
      · rw [hn] at z
        exact absurd (by decide) z
      · rw [rb_af_nI (m := m) E3 E6 hn]
        exact hJ
theorem rb_l969 {J796 : Int32 → Int32 → Int32 → Prop} {x13 x19 x20 : Int32} {i s m en af lk : Nat} {k : Int32} (E : rb_Env ed nx so tx A L Q Z) (hT : T ≤ 64) (hi : i < T) (hm : m < Z) (hs : s < 64) (hlk : lk < 2 ^ 31) (h0 : tok (i * 6) = nI s) (h1 : tok (i * 6 + 1) = nI en) (h2 : tok (i * 6 + 2) = k) (h3 : tok (i * 6 + 3) = nI m) (h4 : tok (i * 6 + 4) = nI (rb_rc s lk))
    (hb : rb_Bl kd nx Q s m x19 x20 (en, k, af)) (hJ : J796 (nI en) (nI af) (nI (i + 1))) : wL_law_969 post N xs J93 J796 (nI Q) (nI A) (nI Z) x7 x8 x13 (nI s) (nI m) (nI i) x19 x20 (nI lk) kc ks (nI cap) (nI Q) (nI A) (nI Z) (nI L) (nI T) (nI (M T)) (nI e) ed kd nx so tx tl tok xM xR xB (nI cap) (nI Q) (nI A) (nI Z) (nI L) (nI T) (nI (M T)) (nI e) ed kd nx so tx tl2 tok2 xM2 xR2 xB2 := by
  refine pk_le lk (s + 1) (fun h => ?_) (fun h => ?_) rfl (nI_1 s)
  · have hr : rb_rc s lk = s + 1 := if_pos h
    rw [hr] at h4
    rw [nI_1]
    exact rb_l987 E hT hi hm h0 h1 h2 h3 h4 hb hJ
  · have hr : rb_rc s lk = lk := if_neg (by omega)
    rw [hr] at h4
    exact rb_l987 E hT hi hm h0 h1 h2 h3 h4 hb hJ
theorem rb_l780 {k : Nat} {K : Nat → Int32} {lk : Nat → Nat} (E : rb_Env ed nx so tx A L Q Z) (hk : ∀ i, ∃ c, c < 16 ∧ kd i = nI c) (hs : rb_Seq ed kd nx so tx A L Z T S M K lk) (hC : rb_Cut S M K lk T tok)
    (hJ : J93 (nI (k + 1)) (nI cap) (nI Q) (nI A) (nI Z) (nI L) (nI T) (nI (M T)) (nI e) ed kd nx so tx tl tok xM xR xB (nI cap) (nI Q) (nI A) (nI Z) (nI L) (nI T) (nI (M T)) (nI e) ed kd nx so tx tl2 tok2 xM2 xR2 xB2) : wL_law_780 post N xs J93 (nI Q) (nI A) (nI Z) x7 (nI k) kc ks (nI cap) (nI Q) (nI A) (nI Z) (nI L) (nI T) (nI (M T)) (nI e) ed kd nx so tx tl tok xM xR xB (nI cap) (nI Q) (nI A) (nI Z) (nI L) (nI T) (nI (M T)) (nI e) ed kd nx so tx tl2 tok2 xM2 xR2 xB2 := by
  have E' := E
  obtain ⟨E1, E2, E3, E4, E5, E6, E7, E8⟩ := E'
  obtain ⟨s1, s2, s3, s4, s5, s6⟩ := hs
  have H1 : wL_law_1131 post N xs J93 (nI Q) (nI A) (nI Z) x7 (nI k) (nI L) (nI (S T)) (nI (M T)) (nI T) kc ks (nI cap) (nI Q) (nI A) (nI Z) (nI L) (nI T) (nI (M T)) (nI e) ed kd nx so tx tl tok xM xR xB (nI cap) (nI Q) (nI A) (nI Z) (nI L) (nI T) (nI (M T)) (nI e) ed kd nx so tx tl2 tok2 xM2 xR2 xB2 := by
    rw [s4]
    exact br_t rfl (br_t rfl (br_t rfl (nm_r (nI_1 k) hJ)))
  have G := pk_loop (fun f i (_ : Unit) => wL_law_796 post N xs J93 (nI Q) (nI A) (nI Z) x7 (nI k) (nI L) kc ks (nI cap) (nI Q) (nI A) (nI Z) (nI L) (nI T) (nI (M T)) (nI e) ed kd nx so tx tl tok xM xR xB (nI cap) (nI Q) (nI A) (nI Z) (nI L) (nI T) (nI (M T)) (nI e) ed kd nx so tx tl2 tok2 xM2 xR2 xB2 f (nI (S i)) (nI (M i)) (nI i)) (fun _ _ => True) T 0 () (Nat.zero_le _) trivial ?_ ?_
  · rw [s1, s2] at G
    exact G
  · intro f _ _
    exact pk_lt 64 T (fun z => absurd z (by omega)) (fun _ => pk_le L (S T) (fun _ => H1) (fun z => absurd z (by omega)))
  · intro f i _ hi _ hw
    obtain ⟨g1, g2, g3, g4⟩ := s6 i hi
    obtain ⟨o0, o1, o2, o3, o4⟩ := hC i hi
    have w := hw () trivial
    obtain ⟨j, hj, ej⟩ := E7 (M i)
    have hlk := rb_tk_lk (ed := ed) (kd := kd) (nx := nx) (so := so) (tx := tx) (A := A) (m := M i) g1
    rw [g4] at hlk
    have hlk' : lk i ≤ L + 1 := hlk
    unfold rb_tk at g4
    rw [ej, nI_clamp (show j < 2 ^ 31 by omega)] at g4
    refine pk_lt 64 i (fun z => absurd z (by omega)) (fun _ => pk_le L (S i) (fun z => absurd z (by omega)) (fun _ => rb_xsr E3 g2 ?_))
    rw [ej]
    refine ⟨L + 1 - S i + 1, rb_l835 E hk (L + 1 - S i) j (S i) 0 (S i + 1, 0, M i) (-1) 0 (by omega) (by omega) hj (by omega) (Or.inl ⟨rfl, rfl⟩) ?_⟩
    rw [g4]
    intro x19 x20 hb
    exact rb_l969 E (by omega) hi g2 (by omega) (by omega) o0 o1 o2 o3 o4 hb w
end
end
section
/-! the law's step: the picture, the stable prefix, the splice step -/
/-- the picture that both objects match -/
def rb_P (k cap Q A Z L T e : Nat) (ed kd nx so tx tok tok2 : Nat → Int32) (S M : Nat → Nat) (K : Nat → Int32) (lk B : Nat → Nat) : Prop :=
  (8 ≤ cap ∧ cap ≤ 64 ∧ 4 ≤ Q ∧ 2 ≤ A ∧ 1 ≤ Z ∧ L ≤ cap ∧ e ≤ k) ∧ rb_Env ed nx so tx A L Q Z ∧ (∀ i, ∃ c, c < 16 ∧ kd i = nI c) ∧ rb_Seq ed kd nx so tx A L Z T S M K lk ∧ rb_Cut S M K lk T tok ∧ rb_Cut S M K lk T tok2 ∧ rb_Bi T e B tok ∧ rb_Bi T e B tok2
theorem rb_rc_ge (s lk : Nat) : lk ≤ rb_rc s lk ∧ s + 1 ≤ rb_rc s lk := by
  unfold rb_rc
  by_cases h : lk ≤ s + 1
  · rw [if_pos h]; omega
  · rw [if_neg h]; omega
theorem rb_pre {ed kd nx so tx tx' : Nat → Int32} {A L L' Z T T' pos k0 : Nat} {S M S' M' : Nat → Nat} {K K' : Nat → Int32} {lk lk' : Nat → Nat} (hs : rb_Seq ed kd nx so tx A L Z T S M K lk) (hs' : rb_Seq ed kd nx so tx' A L' Z T' S' M' K' lk')
    (h1 : pos ≤ L) (h2 : pos ≤ L') (ht : ∀ i, i < pos → tx i = tx' i) (hk : k0 ≤ T) (hr : ∀ i, i < k0 → rb_rc (S i) (lk i) ≤ pos) :
    ∀ i, i ≤ k0 → i ≤ T' ∧ S' i = S i ∧ M' i = M i ∧ (∀ j, j < i → K' j = K j ∧ lk' j = lk j) := by
  obtain ⟨s1, s2, s3, s4, s5, s6⟩ := hs
  obtain ⟨t1, t2, t3, t4, t5, t6⟩ := hs'
  intro i
  induction i with
  | zero => intro _; exact ⟨Nat.zero_le _, t1.trans s1.symm, t2.trans s2.symm, lt_0⟩
  | succ i ih =>
    intro hi
    obtain ⟨a, b, c, d⟩ := ih (by omega)
    have r := hr i (by omega)
    obtain ⟨r1, r2⟩ := rb_rc_ge (S i) (lk i)
    have hiT : i < T' := by
      rcases Nat.lt_or_ge i T' with z | z
      · exact z
      · have ei : i = T' := by omega
        rw [ei] at b r2 r
        omega
    obtain ⟨_, _, _, g4⟩ := s6 i (by omega)
    obtain ⟨_, _, _, g4'⟩ := t6 i hiT
    rw [b, c] at g4'
    have e1 := rb_tk_same (ed := ed) (kd := kd) (nx := nx) (so := so) (A := A) (s := S i) (m := M i) h1 h2 ht (by omega) (by rw [g4]; show lk i ≤ pos; omega)
    rw [g4, g4'] at e1
    obtain ⟨q1, q2⟩ := Prod.mk.inj e1
    obtain ⟨q2, q3⟩ := Prod.mk.inj q2
    obtain ⟨q3, q4⟩ := Prod.mk.inj q3
    exact ⟨hiT, q2, q4, lt_s d ⟨q3, q1⟩⟩
section
variable {N kc ks : Nat} {xs : Nat → Int32} {post : Int32 → Prop} {J93 : Int32 → Int32 → Int32 → Int32 → Int32 → Int32 → Int32 → Int32 → Int32 → (Nat → Int32) → (Nat → Int32) → (Nat → Int32) → (Nat → Int32) → (Nat → Int32) → (Nat → Int32) → (Nat → Int32) → (Nat → Int32) → (Nat → Int32) → (Nat → Int32) → Int32 → Int32 → Int32 → Int32 → Int32 → Int32 → Int32 → Int32 → (Nat → Int32) → (Nat → Int32) → (Nat → Int32) → (Nat → Int32) → (Nat → Int32) → (Nat → Int32) → (Nat → Int32) → (Nat → Int32) → (Nat → Int32) → (Nat → Int32) → Prop} {x7 x8 : Int32}
variable {cap Q A Z L T e : Nat} {ed kd nx so tx tl tok xM xR xB tl2 tok2 xM2 xR2 xB2 : Nat → Int32} {S M : Nat → Nat}
theorem rb_l708 {J691 : Int32 → Prop} {x13 x15 x16 x17 x18 x19 yL yme ye : Int32} {tx1 : Nat → Int32} {i T1 : Nat} (hT1 : T1 ≤ 64) (hT : T ≤ 64) (hi1 : i < T1) (hi : i < T) (h : ∀ f, f < 6 → tok (i * 6 + f) = tok2 (i * 6 + f)) (hb : ¬ tok (i * 6 + 5) = x19 + 1) (hJ : J691 (nI (i + 1))) :
    ∃ f, wL_law_708 post N xs J93 J691 (nI Q) (nI A) (nI Z) x7 x8 x13 x15 x16 x17 x18 x19 (nI i) kc ks (nI cap) (nI Q) (nI A) (nI Z) yL (nI T1) yme ye ed kd nx so tx1 tl tok xM xR xB (nI cap) (nI Q) (nI A) (nI Z) (nI L) (nI T) (nI (M T)) (nI e) ed kd nx so tx tl2 tok2 xM2 xR2 xB2 f 0 := by
  refine pk_loop (fun f j (_ : Unit) => wL_law_708 post N xs J93 J691 (nI Q) (nI A) (nI Z) x7 x8 x13 x15 x16 x17 x18 x19 (nI i) kc ks (nI cap) (nI Q) (nI A) (nI Z) yL (nI T1) yme ye ed kd nx so tx1 tl tok xM xR xB (nI cap) (nI Q) (nI A) (nI Z) (nI L) (nI T) (nI (M T)) (nI e) ed kd nx so tx tl2 tok2 xM2 xR2 xB2 f (nI j)) (fun _ _ => True) 6 0 () (Nat.zero_le _) trivial ?_ ?_
  · intro f _ _
    exact pk_lt 5 6 (fun _ => rb_ztk (f := 5) hT1 hi1 (by omega) (br_f hb (nm_r (nI_1 i) hJ))) (fun z => absurd z (by omega))
  · intro f j _ hj _ hw
    exact pk_lt 5 j (fun z => absurd z (by omega)) (fun _ => rb_ztk hT1 hi1 hj (rb_ztk hT hi hj (br_t (h j hj) (nm_r (nI_1 j) (hw () trivial)))))
theorem rb_l691 {x13 x15 x16 x17 x19 yL yme ye : Int32} {tx1 : Nat → Int32} {k0 T1 : Nat} (hT1 : T1 ≤ 64) (hT : T ≤ 64) (hk1 : k0 ≤ T1) (hk : k0 ≤ T) (h : ∀ i, i < k0 → (∀ f, f < 6 → tok (i * 6 + f) = tok2 (i * 6 + f)) ∧ ¬ tok (i * 6 + 5) = x19 + 1)
    (H : wL_law_766 post N xs J93 (nI Q) (nI A) (nI Z) x7 x8 x13 x15 x16 x17 kc ks (nI cap) (nI Q) (nI A) (nI Z) yL (nI T1) yme ye ed kd nx so tx1 tl tok xM xR xB (nI cap) (nI Q) (nI A) (nI Z) (nI L) (nI T) (nI (M T)) (nI e) ed kd nx so tx tl2 tok2 xM2 xR2 xB2) :
    ∃ f, wL_law_691 post N xs J93 (nI Q) (nI A) (nI Z) x7 x8 x13 x15 x16 x17 (nI k0) x19 kc ks (nI cap) (nI Q) (nI A) (nI Z) yL (nI T1) yme ye ed kd nx so tx1 tl tok xM xR xB (nI cap) (nI Q) (nI A) (nI Z) (nI L) (nI T) (nI (M T)) (nI e) ed kd nx so tx tl2 tok2 xM2 xR2 xB2 f 0 := by
  refine pk_loop (fun f i (_ : Unit) => wL_law_691 post N xs J93 (nI Q) (nI A) (nI Z) x7 x8 x13 x15 x16 x17 (nI k0) x19 kc ks (nI cap) (nI Q) (nI A) (nI Z) yL (nI T1) yme ye ed kd nx so tx1 tl tok xM xR xB (nI cap) (nI Q) (nI A) (nI Z) (nI L) (nI T) (nI (M T)) (nI e) ed kd nx so tx tl2 tok2 xM2 xR2 xB2 f (nI i)) (fun _ _ => True) k0 0 () (Nat.zero_le _) trivial ?_ ?_
  · intro f _ _
    exact pk_le k0 k0 (fun _ => H) (fun z => absurd z (by omega))
  · intro f i _ hi _ hw
    exact pk_le k0 i (fun z => absurd z (by omega)) (fun _ => pk_lt 64 i (fun z => absurd z (by omega)) (fun _ => rb_l708 hT1 hT (by omega) (by omega) (h i hi).1 (h i hi).2 (hw () trivial)))
theorem rb_nxt {P : Int32 → Prop} {p : Int32} (h : ∀ r, P r) : wpL_next P () p := h _
theorem rb_xei {me : Int32} {P : Int32 → Prop} (h : P (nI e)) : wpX_edits P (nI cap, nI Q, nI A, nI Z, nI L, nI T, me, nI e, ed, kd, nx, so, tx, tl, tok, xM, xR, xB) := h
theorem rb_xtc {me : Int32} {P : Int32 → Prop} (h : P (nI T)) : wpX_tokenCount P (nI cap, nI Q, nI A, nI Z, nI L, nI T, me, nI e, ed, kd, nx, so, tx, tl, tok, xM, xR, xB) := h
theorem rb_xle {me : Int32} {P : Int32 → Prop} (h : P (nI L)) : wpX_length P (nI cap, nI Q, nI A, nI Z, nI L, nI T, me, nI e, ed, kd, nx, so, tx, tl, tok, xM, xR, xB) := h
theorem rb_l588 {J556 : Int32 → Int32 → Int32 → Prop} {x10 x11 x13 x15 x16 x17 z0 z1 : Int32} {j : Nat} (hz : ¬ z0 = 0) (h : ∀ y, J556 x11 y (nI (j + 1))) : wL_law_588 post N xs J93 J556 (nI Q) (nI A) (nI Z) x7 x8 x10 x11 x13 x15 x16 x17 (nI j) z0 z1 kc ks (nI cap) (nI Q) (nI A) (nI Z) (nI L) (nI T) (nI (M T)) (nI e) ed kd nx so tx tl tok xM xR xB (nI cap) (nI Q) (nI A) (nI Z) (nI L) (nI T) (nI (M T)) (nI e) ed kd nx so tx tl2 tok2 xM2 xR2 xB2 :=
  ⟨hz, nm_e (br_c (fun _ => br_c (fun _ => ⟨by decide, nm_e (nm_e (nm_r (nI_1 j) (h _)))⟩) (fun _ => nm_e (nm_r (nI_1 j) (h _)))) (fun _ => nm_e (nm_r (nI_1 j) (h _))))⟩
theorem rb_l556 {k : Nat} {K : Nat → Int32} {lk B : Nat → Nat} {x10 x13 x15 x16 : Int32} (hP : rb_P k cap Q A Z L T e ed kd nx so tx tok tok2 S M K lk B) (hk : k < 2 ^ 20)
    (HJ : ∀ (L T e : Nat) (ed kd nx so tx tl tok xM xR xB tl2 tok2 xM2 xR2 xB2 : Nat → Int32) (S M : Nat → Nat) (K : Nat → Int32) (lk B : Nat → Nat), rb_P (k + 1) cap Q A Z L T e ed kd nx so tx tok tok2 S M K lk B → J93 (nI (k + 1)) (nI cap) (nI Q) (nI A) (nI Z) (nI L) (nI T) (nI (M T)) (nI e) ed kd nx so tx tl tok xM xR xB (nI cap) (nI Q) (nI A) (nI Z) (nI L) (nI T) (nI (M T)) (nI e) ed kd nx so tx tl2 tok2 xM2 xR2 xB2) (x11 x17 : Int32) :
    ∃ f, wL_law_556 post N xs J93 (nI Q) (nI A) (nI Z) x7 (nI k) x10 x13 x15 x16 kc ks (nI cap) (nI Q) (nI A) (nI Z) (nI L) (nI T) (nI (M T)) (nI e) ed kd nx so tx tl tok xM xR xB (nI cap) (nI Q) (nI A) (nI Z) (nI L) (nI T) (nI (M T)) (nI e) ed kd nx so tx tl2 tok2 xM2 xR2 xB2 f x11 x17 0 := by
  obtain ⟨⟨c1, c2, c3, c4, c5, c6, c7⟩, E, hkd, hs, hC, hC2, hB, hB2⟩ := hP
  have E' := E
  obtain ⟨E1, E2, E3, E4, E5, E6, E7, E8⟩ := E'
  have hT : T ≤ L := hs.2.2.1
  refine pk_loop (fun f j (w : Int32 × Int32) => wL_law_556 post N xs J93 (nI Q) (nI A) (nI Z) x7 (nI k) x10 x13 x15 x16 kc ks (nI cap) (nI Q) (nI A) (nI Z) (nI L) (nI T) (nI (M T)) (nI e) ed kd nx so tx tl tok xM xR xB (nI cap) (nI Q) (nI A) (nI Z) (nI L) (nI T) (nI (M T)) (nI e) ed kd nx so tx tl2 tok2 xM2 xR2 xB2 f w.1 w.2 (nI j)) (fun _ _ => True) 8 0 (x11, x17) (Nat.zero_le _) trivial ?_ ?_
  · intro f w _
    refine pk_le 8 8 (fun _ => ?_) (fun z => absurd z (by omega))
    obtain ⟨r, hr1, hr2⟩ := rb_xstb (cap := cap) (Q := Q) (A := A) (Z := Z) (e := e) (ed := ed) (kd := kd) (nx := nx) (so := so) (tx := tx) (S := S) (M := M) (K := K) (lk := lk) E4 hT x13
    refine hr2 _ _ _ _ _ _ _ hC ?_
    rcases rb_xsp c6 c2 (show e + 1 < 2 ^ 31 by omega) E hs x13 x15 x16 w.2 with ⟨rr, H⟩ | ⟨pos, del, n, e1, hd, hn, hc, EE, H⟩
    · refine rb_xei (H _ _ _ _ _ _ _ (rb_xei (br_f ?_ ?_)))
      · rw [nI_1]
        intro z
        have := (nI_eq (by omega) (by omega)).mp z
        omega
      · unfold wL_law_766
        exact H _ _ _ _ _ _ _ (rb_l780 E hkd hs hC (HJ _ _ _ _ _ _ _ _ _ _ _ _ _ _ _ _ _ _ S M K lk B ⟨⟨c1, c2, c3, c4, c5, c6, by omega⟩, E, hkd, hs, hC, hC2, hB, hB2⟩))
    · obtain ⟨T', S', M', K', lk', hs'⟩ := rb_Seq_ex (kd := kd) EE (by omega)
      obtain ⟨i0, hi0, er, hrc⟩ := hr1 pos e1 (by omega)
      have hrc' : ∀ i, i < i0 → rb_rc (S i) (lk i) ≤ pos := fun i hi => by
        have q1 := (hs.2.2.2.2.2 i (by omega)).1
        have q2 := (hs.2.2.2.2.2 i (by omega)).2.2.2
        have q3 := rb_tk_lk (ed := ed) (kd := kd) (nx := nx) (so := so) (tx := tx) (A := A) (m := M i) q1
        rw [q2] at q3
        have q4 : lk i ≤ L + 1 := q3
        have q5 : rb_rc (S i) (lk i) ≤ L + 2 := by
          unfold rb_rc
          by_cases z : lk i ≤ S i + 1
          · rw [if_pos z]; omega
          · rw [if_neg z]; omega
        exact (nI_leI (by omega) (by omega)).mp (hrc i hi)
      have pre := rb_pre hs hs' (show pos ≤ L by omega) (show pos ≤ L - del + n by omega) (fun i hi => (rb_nt_1 hi).symm) hi0 hrc'
      have hT' : T' ≤ L - del + n := hs'.2.2.1
      subst er
      refine rb_xei (H T' S' M' K' lk' hs' B _ _ _ _ _ _ _ hC hB (fun r tl' tok' xM' xR' xB' hC' hB' => rb_xei (br_t (nI_1 e).symm (rb_xtc (br_t (nI_le (pre i0 (Nat.le_refl _)).1 (by omega)) (rb_l691 (by omega) (by omega) (pre i0 (Nat.le_refl _)).1 hi0 (fun i hi => ?_) ?_))))))
      · obtain ⟨p1, p2, p3, p4⟩ := pre (i + 1) (by omega)
        obtain ⟨u1, u2, u3, _⟩ := pre i (by omega)
        obtain ⟨p5, p6⟩ := p4 i (by omega)
        obtain ⟨y0, y1, y2, y3, y4⟩ := hC' i (by omega)
        obtain ⟨w0, w1, w2, w3, w4⟩ := hC2 i (by omega)
        obtain ⟨b1, b2⟩ := hB' i (by omega)
        obtain ⟨d1, d2⟩ := hB2 i (by omega)
        obtain ⟨r1, r2⟩ := rb_rc_ge (S i) (lk i)
        have r3 := hrc' i hi
        have hbn : rb_bn T S M (fun i => nI (rb_rc (S i) (lk i))) B pos del n e (S' i) (M' i) = B i :=
          rb_bn_s (rb_ch_in (rb_Seq_ch hs)) (by omega) ⟨u3.symm, Or.inl ⟨by omega, u2.symm, hrc i hi⟩⟩
        have b1' : tok' (i * 6 + 5) = nI (rb_bn T S M (fun i => nI (rb_rc (S i) (lk i))) B pos del n e (S' i) (M' i)) := b1
        rw [hbn] at b1'
        refine ⟨fun f hf => ?_, ?_⟩
        · match f, hf with
          | 0, _ => exact y0.trans ((congrArg nI u2).trans w0.symm)
          | 1, _ => exact y1.trans ((congrArg nI p2).trans w1.symm)
          | 2, _ => exact y2.trans (p5.trans w2.symm)
          | 3, _ => exact y3.trans ((congrArg nI u3).trans w3.symm)
          | 4, _ => exact y4.trans ((congrArg nI (by rw [u2, p6])).trans w4.symm)
          | 5, _ => exact b1'.trans d1.symm
        · rw [b1', nI_1]
          intro z
          have := (nI_eq (by omega) (by omega)).mp z
          omega
      · unfold wL_law_766
        refine H T' S' M' K' lk' hs' B _ _ _ _ _ _ _ hC2 hB2 (fun r tl2' tok2' xM2' xR2' xB2' hC2' hB2' => ?_)
        exact rb_l780 EE hkd hs' hC' (HJ _ _ _ _ _ _ _ _ _ _ _ _ _ _ _ _ _ _ S' M' K' lk' _ ⟨⟨c1, c2, c3, c4, c5, hc, by omega⟩, EE, hkd, hs', hC', hC2', hB', hB2'⟩)
  · intro f j w hj _ hw
    exact pk_le 8 j (fun z => absurd z (by omega)) (fun _ => rb_nxt (fun r => br_c (fun _ => rb_l588 (by decide) (fun y => hw (_, y) trivial)) (fun _ => rb_l588 (nI_ne0 (by omega) (by omega)) (fun y => hw (_, y) trivial))))
end
end
section
/-! the law's loading of tables -/
theorem rb_P_tab {k cap Q A Z L T e : Nat} {ed kd nx so tx tok tok2 ed' kd' nx' so' : Nat → Int32} {S M : Nat → Nat} {K : Nat → Int32} {lk B : Nat → Nat} (hP : rb_P k cap Q A Z L T e ed kd nx so tx tok tok2 S M K lk B)
    (h1 : ∀ i, ed' i = -1 ∨ ∃ j, j < Q ∧ ed' i = nI j) (h2 : ∀ i, ∃ c, c < 16 ∧ kd' i = nI c) (h3 : ∀ i, nx' i = -1 ∨ ∃ j, j < Z ∧ nx' i = nI j) (h4 : ∀ i, ∃ j, j < Q ∧ so' i = nI j)
    (h : L ≠ 0 → ed' = ed ∧ kd' = kd ∧ nx' = nx ∧ so' = so) : rb_P k cap Q A Z L T e ed' kd' nx' so' tx tok tok2 S M K lk B := by
  by_cases hL : L = 0
  · obtain ⟨c, ⟨E1, E2, E3, E4, E5, E6, E7, E8⟩, hkd, ⟨s1, s2, s3, s4, s5, s6⟩, r⟩ := hP
    exact ⟨c, ⟨E1, E2, E3, E4, h1, h3, h4, E8⟩, h2, ⟨s1, s2, s3, s4, s5, fun i hi => absurd hi (by omega)⟩, r⟩
  · obtain ⟨rfl, rfl, rfl, rfl⟩ := h hL
    exact hP
section
variable {N kc ks : Nat} {xs : Nat → Int32} {post : Int32 → Prop} {J93 : Int32 → Int32 → Int32 → Int32 → Int32 → Int32 → Int32 → Int32 → Int32 → (Nat → Int32) → (Nat → Int32) → (Nat → Int32) → (Nat → Int32) → (Nat → Int32) → (Nat → Int32) → (Nat → Int32) → (Nat → Int32) → (Nat → Int32) → (Nat → Int32) → Int32 → Int32 → Int32 → Int32 → Int32 → Int32 → Int32 → Int32 → (Nat → Int32) → (Nat → Int32) → (Nat → Int32) → (Nat → Int32) → (Nat → Int32) → (Nat → Int32) → (Nat → Int32) → (Nat → Int32) → (Nat → Int32) → (Nat → Int32) → Prop} {x7 : Int32}
variable {cap Q A Z L T e k : Nat} {tx tl tok xM xR xB tl2 tok2 xM2 xR2 xB2 : Nat → Int32} {S M : Nat → Nat} {K : Nat → Int32} {lk B : Nat → Nat}
theorem rb_xse2 {me : Int32} {ed kd nx so : Nat → Int32} {v1 v2 v3 : Int32} {P : Int32 → St2 → Prop} (E : rb_Env ed nx so tx A L Q Z) (h : ∀ (r : Int32) (ed' : Nat → Int32), (∀ i, ed' i = -1 ∨ ∃ j, j < Q ∧ ed' i = nI j) → (L ≠ 0 → ed' = ed) →
    (∀ (post : Int32 → St2 → Prop) (me : Int32) (tl tok xM xR xB : Nat → Int32), post r (nI cap, nI Q, nI A, nI Z, nI L, nI T, me, nI e, ed', kd, nx, so, tx, tl, tok, xM, xR, xB) → wpX_setEdges post (nI cap, nI Q, nI A, nI Z, nI L, nI T, me, nI e, ed, kd, nx, so, tx, tl, tok, xM, xR, xB) v1 v2 v3) → P r (nI cap, nI Q, nI A, nI Z, nI L, nI T, me, nI e, ed', kd, nx, so, tx, tl, tok, xM, xR, xB)) : wpX_setEdges P (nI cap, nI Q, nI A, nI Z, nI L, nI T, me, nI e, ed, kd, nx, so, tx, tl, tok, xM, xR, xB) v1 v2 v3 := by
  obtain ⟨r, ed', a, b, H⟩ := rb_xse (cap := cap) (T := T) (e := e) (kd := kd) E v1 v2 v3
  exact H P _ _ _ _ _ _ (h r ed' a b H)
theorem rb_xac2 {me : Int32} {ed kd nx so : Nat → Int32} {v1 v2 v3 : Int32} {P : Int32 → St2 → Prop} (E : rb_Env ed nx so tx A L Q Z) (hk : ∀ i, ∃ c, c < 16 ∧ kd i = nI c) (h : ∀ (r : Int32) (kd' nx' : Nat → Int32), (∀ i, ∃ c, c < 16 ∧ kd' i = nI c) → (∀ i, nx' i = -1 ∨ ∃ j, j < Z ∧ nx' i = nI j) → (L ≠ 0 → kd' = kd ∧ nx' = nx) →
    (∀ (post : Int32 → St2 → Prop) (me : Int32) (tl tok xM xR xB : Nat → Int32), post r (nI cap, nI Q, nI A, nI Z, nI L, nI T, me, nI e, ed, kd', nx', so, tx, tl, tok, xM, xR, xB) → wpX_setAccept post (nI cap, nI Q, nI A, nI Z, nI L, nI T, me, nI e, ed, kd, nx, so, tx, tl, tok, xM, xR, xB) v1 v2 v3) → P r (nI cap, nI Q, nI A, nI Z, nI L, nI T, me, nI e, ed, kd', nx', so, tx, tl, tok, xM, xR, xB)) : wpX_setAccept P (nI cap, nI Q, nI A, nI Z, nI L, nI T, me, nI e, ed, kd, nx, so, tx, tl, tok, xM, xR, xB) v1 v2 v3 := by
  obtain ⟨r, kd', nx', a, b, c, H⟩ := rb_xac (cap := cap) (T := T) (e := e) (kd := kd) E hk v1 v2 v3
  exact H P _ _ _ _ _ _ (h r kd' nx' a b c H)
theorem rb_xso2 {me : Int32} {ed kd nx so : Nat → Int32} {v1 v2 : Int32} {P : Int32 → St2 → Prop} (E : rb_Env ed nx so tx A L Q Z) (h : ∀ (r : Int32) (so' : Nat → Int32), (∀ i, ∃ j, j < Q ∧ so' i = nI j) → (L ≠ 0 → so' = so) →
    (∀ (post : Int32 → St2 → Prop) (me : Int32) (tl tok xM xR xB : Nat → Int32), post r (nI cap, nI Q, nI A, nI Z, nI L, nI T, me, nI e, ed, kd, nx, so', tx, tl, tok, xM, xR, xB) → wpX_setStart post (nI cap, nI Q, nI A, nI Z, nI L, nI T, me, nI e, ed, kd, nx, so, tx, tl, tok, xM, xR, xB) v1 v2) → P r (nI cap, nI Q, nI A, nI Z, nI L, nI T, me, nI e, ed, kd, nx, so', tx, tl, tok, xM, xR, xB)) : wpX_setStart P (nI cap, nI Q, nI A, nI Z, nI L, nI T, me, nI e, ed, kd, nx, so, tx, tl, tok, xM, xR, xB) v1 v2 := by
  obtain ⟨r, so', a, b, H⟩ := rb_xso (cap := cap) (T := T) (e := e) (kd := kd) E v1 v2
  exact H P _ _ _ _ _ _ (h r so' a b H)
theorem rb_l780p {ed kd nx so : Nat → Int32} (hP : rb_P k cap Q A Z L T e ed kd nx so tx tok tok2 S M K lk B)
    (HJ : ∀ (L T e : Nat) (ed kd nx so tx tl tok xM xR xB tl2 tok2 xM2 xR2 xB2 : Nat → Int32) (S M : Nat → Nat) (K : Nat → Int32) (lk B : Nat → Nat), rb_P (k + 1) cap Q A Z L T e ed kd nx so tx tok tok2 S M K lk B → J93 (nI (k + 1)) (nI cap) (nI Q) (nI A) (nI Z) (nI L) (nI T) (nI (M T)) (nI e) ed kd nx so tx tl tok xM xR xB (nI cap) (nI Q) (nI A) (nI Z) (nI L) (nI T) (nI (M T)) (nI e) ed kd nx so tx tl2 tok2 xM2 xR2 xB2) :
    wL_law_780 post N xs J93 (nI Q) (nI A) (nI Z) x7 (nI k) kc ks (nI cap) (nI Q) (nI A) (nI Z) (nI L) (nI T) (nI (M T)) (nI e) ed kd nx so tx tl tok xM xR xB (nI cap) (nI Q) (nI A) (nI Z) (nI L) (nI T) (nI (M T)) (nI e) ed kd nx so tx tl2 tok2 xM2 xR2 xB2 := by
  obtain ⟨⟨c1, c2, c3, c4, c5, c6, c7⟩, E, hkd, hs, hC, hC2, hB, hB2⟩ := hP
  exact rb_l780 E hkd hs hC (HJ _ _ _ _ _ _ _ _ _ _ _ _ _ _ _ _ _ _ S M K lk B ⟨⟨c1, c2, c3, c4, c5, c6, by omega⟩, E, hkd, hs, hC, hC2, hB, hB2⟩)
theorem rb_l377 {ed kd nx : Nat → Int32}
    (HJ : ∀ (L T e : Nat) (ed kd nx so tx tl tok xM xR xB tl2 tok2 xM2 xR2 xB2 : Nat → Int32) (S M : Nat → Nat) (K : Nat → Int32) (lk B : Nat → Nat), rb_P (k + 1) cap Q A Z L T e ed kd nx so tx tok tok2 S M K lk B → J93 (nI (k + 1)) (nI cap) (nI Q) (nI A) (nI Z) (nI L) (nI T) (nI (M T)) (nI e) ed kd nx so tx tl tok xM xR xB (nI cap) (nI Q) (nI A) (nI Z) (nI L) (nI T) (nI (M T)) (nI e) ed kd nx so tx tl2 tok2 xM2 xR2 xB2) :
    ∀ (d i : Nat) (x11 : Int32) (so : Nat → Int32), i ≤ Z → Z - i < d → rb_P k cap Q A Z L T e ed kd nx so tx tok tok2 S M K lk B →
    wL_law_377 post N xs J93 (nI Q) (nI A) (nI Z) x7 (nI k) kc ks d x11 (nI i) (nI cap) (nI Q) (nI A) (nI Z) (nI L) (nI T) (nI (M T)) (nI e) ed kd nx so tx tl tok xM xR xB (nI cap) (nI Q) (nI A) (nI Z) (nI L) (nI T) (nI (M T)) (nI e) ed kd nx so tx tl2 tok2 xM2 xR2 xB2 := by
  intro d
  induction d with
  | zero => intro i x11 so h1 h2 _; omega
  | succ d ih =>
    intro i x11 so h1 h2 hP
    have hP' := hP
    obtain ⟨⟨c1, c2, c3, c4, c5, c6, c7⟩, E, hkd, hs, hC, hC2, hB, hB2⟩ := hP'
    have E' := E
    obtain ⟨E1, E2, E3, E4, E5, E6, E7, E8⟩ := E'
    have hQ0 : ¬ nI Q = 0 := nI_ne0 (by omega) (by omega)
    exact pk_le Z i (fun _ => rb_l780p hP HJ) (fun hi => rb_nxt (fun r => ⟨hQ0, rb_xso2 E (fun r' so' g1 g2 H => ⟨hQ0, H _ _ _ _ _ _ _ (nm_r (nI_1 i) (ih (i + 1) r so' (by omega) (by omega) (rb_P_tab hP E5 hkd E6 g1 (fun z => ⟨rfl, rfl, rfl, g2 z⟩))))⟩)⟩))
theorem rb_l220 {J167 : Int32 → Int32 → Int32 → Int32 → Int32 → Int32 → Int32 → Int32 → Int32 → Int32 → (Nat → Int32) → (Nat → Int32) → (Nat → Int32) → (Nat → Int32) → (Nat → Int32) → (Nat → Int32) → (Nat → Int32) → (Nat → Int32) → (Nat → Int32) → (Nat → Int32) → Int32 → Int32 → Int32 → Int32 → Int32 → Int32 → Int32 → Int32 → (Nat → Int32) → (Nat → Int32) → (Nat → Int32) → (Nat → Int32) → (Nat → Int32) → (Nat → Int32) → (Nat → Int32) → (Nat → Int32) → (Nat → Int32) → (Nat → Int32) → Prop} {i : Nat} {x14 : Int32} (HJ7 : ∀ (x11 : Int32) (ed kd nx so : Nat → Int32), rb_P k cap Q A Z L T e ed kd nx so tx tok tok2 S M K lk B → J167 x11 (nI (i + 1)) (nI cap) (nI Q) (nI A) (nI Z) (nI L) (nI T) (nI (M T)) (nI e) ed kd nx so tx tl tok xM xR xB (nI cap) (nI Q) (nI A) (nI Z) (nI L) (nI T) (nI (M T)) (nI e) ed kd nx so tx tl2 tok2 xM2 xR2 xB2) :
    ∀ (x11 : Int32) (ed kd nx so : Nat → Int32), rb_P k cap Q A Z L T e ed kd nx so tx tok tok2 S M K lk B →
    ∃ f, wL_law_220 post N xs J93 J167 (nI Q) (nI A) (nI Z) x7 (nI k) (nI i) x14 kc ks f x11 0 (nI cap) (nI Q) (nI A) (nI Z) (nI L) (nI T) (nI (M T)) (nI e) ed kd nx so tx tl tok xM xR xB (nI cap) (nI Q) (nI A) (nI Z) (nI L) (nI T) (nI (M T)) (nI e) ed kd nx so tx tl2 tok2 xM2 xR2 xB2 := by
  obtain ⟨w, w1, w2⟩ : ∃ w : Nat, (∀ j, j < w → ¬ x14 ≤ nI j) ∧ x14 ≤ nI w := by
    by_cases h : x14 < 0
    · exact ⟨0, fun j hj => absurd hj (by omega), Int32.le_of_lt h⟩
    · obtain ⟨w, hw, rfl⟩ := nI_of h
      exact ⟨w, fun j hj => nI_ge hj hw, nI_le (Nat.le_refl _) hw⟩
  have G : ∀ (d j : Nat) (x11 : Int32) (ed kd nx so : Nat → Int32), j + d = w → rb_P k cap Q A Z L T e ed kd nx so tx tok tok2 S M K lk B →
      wL_law_220 post N xs J93 J167 (nI Q) (nI A) (nI Z) x7 (nI k) (nI i) x14 kc ks (d + 1) x11 (nI j) (nI cap) (nI Q) (nI A) (nI Z) (nI L) (nI T) (nI (M T)) (nI e) ed kd nx so tx tl tok xM xR xB (nI cap) (nI Q) (nI A) (nI Z) (nI L) (nI T) (nI (M T)) (nI e) ed kd nx so tx tl2 tok2 xM2 xR2 xB2 := by
    intro d
    induction d with
    | zero =>
      intro j x11 ed kd nx so hj hP
      have hP' := hP
      obtain ⟨⟨c1, c2, c3, c4, c5, c6, c7⟩, E, hkd, hs, hC, hC2, hB, hB2⟩ := hP'
      have E' := E
      obtain ⟨E1, E2, E3, E4, E5, E6, E7, E8⟩ := E'
      have ej : j = w := by omega
      have hZ0 : ¬ nI Z + 1 = 0 := by rw [nI_1]; exact nI_ne0 (by omega) (by omega)
      have H3 : ∀ y z : Int32, wL_law_323 post N xs J93 J167 (nI Q) (nI A) (nI Z) x7 (nI k) y (nI i) z kc ks (nI cap) (nI Q) (nI A) (nI Z) (nI L) (nI T) (nI (M T)) (nI e) ed kd nx so tx tl tok xM xR xB (nI cap) (nI Q) (nI A) (nI Z) (nI L) (nI T) (nI (M T)) (nI e) ed kd nx so tx tl2 tok2 xM2 xR2 xB2 := fun y z =>
        rb_nxt (fun r => ⟨hZ0, nm_e (rb_xac2 E hkd (fun r' kd' nx' g1 g2 g3 H => H _ _ _ _ _ _ _ (nm_r (nI_1 i) (HJ7 r ed kd' nx' so (rb_P_tab hP E5 g1 g2 E7 (fun z => ⟨rfl, (g3 z).1, (g3 z).2, rfl⟩))))))⟩)
      exact br_t (by rw [ej]; exact w2) (rb_nxt (fun r => ⟨by decide, nm_e (br_c (fun _ => H3 _ _) (fun _ => H3 _ _))⟩))
    | succ d ih =>
      intro j x11 ed kd nx so hj hP
      have hP' := hP
      obtain ⟨⟨c1, c2, c3, c4, c5, c6, c7⟩, E, hkd, hs, hC, hC2, hB, hB2⟩ := hP'
      have E' := E
      obtain ⟨E1, E2, E3, E4, E5, E6, E7, E8⟩ := E'
      have hQ0 : ¬ nI Q = 0 := nI_ne0 (by omega) (by omega)
      have hA0 : ¬ (((1 : Int32) <<< (nI A &&& 31)) - 1) = 0 := rb_sh A c4 E1
      exact br_f (w1 j (by omega)) (rb_nxt (fun r => ⟨hA0, nm_e (rb_nxt (fun r2 => ⟨hQ0, nm_e (rb_xse2 E (fun r' ed' g1 g2 H => H _ _ _ _ _ _ _ (nm_r (nI_1 j) (ih (j + 1) r2 ed' kd nx so (by omega) (rb_P_tab hP g1 hkd E6 E7 (fun z => ⟨g2 z, rfl, rfl, rfl⟩))))))⟩))⟩))
  intro x11 ed kd nx so hP
  exact ⟨w + 1, G w 0 x11 ed kd nx so (by omega) hP⟩
theorem rb_l167
    (HJ : ∀ (L T e : Nat) (ed kd nx so tx tl tok xM xR xB tl2 tok2 xM2 xR2 xB2 : Nat → Int32) (S M : Nat → Nat) (K : Nat → Int32) (lk B : Nat → Nat), rb_P (k + 1) cap Q A Z L T e ed kd nx so tx tok tok2 S M K lk B → J93 (nI (k + 1)) (nI cap) (nI Q) (nI A) (nI Z) (nI L) (nI T) (nI (M T)) (nI e) ed kd nx so tx tl tok xM xR xB (nI cap) (nI Q) (nI A) (nI Z) (nI L) (nI T) (nI (M T)) (nI e) ed kd nx so tx tl2 tok2 xM2 xR2 xB2) :
    ∀ (d i : Nat) (x11 : Int32) (ed kd nx so : Nat → Int32), i ≤ Q → Q - i < d → rb_P k cap Q A Z L T e ed kd nx so tx tok tok2 S M K lk B →
    wL_law_167 post N xs J93 (nI Q) (nI A) (nI Z) x7 (nI k) kc ks d x11 (nI i) (nI cap) (nI Q) (nI A) (nI Z) (nI L) (nI T) (nI (M T)) (nI e) ed kd nx so tx tl tok xM xR xB (nI cap) (nI Q) (nI A) (nI Z) (nI L) (nI T) (nI (M T)) (nI e) ed kd nx so tx tl2 tok2 xM2 xR2 xB2 := by
  intro d
  induction d with
  | zero => intro i x11 ed kd nx so h1 h2 _; omega
  | succ d ih =>
    intro i x11 ed kd nx so h1 h2 hP
    have hP' := hP
    obtain ⟨⟨c1, c2, c3, c4, c5, c6, c7⟩, E, hkd, hs, hC, hC2, hB, hB2⟩ := hP'
    have E' := E
    obtain ⟨E1, E2, E3, E4, E5, E6, E7, E8⟩ := E'
    refine pk_le Q i (fun _ => ⟨Z + 1, rb_l377 HJ (Z + 1) 0 x11 so (Nat.zero_le _) (by omega) hP⟩) (fun hi => rb_xse2 E (fun r ed' g1 g2 H => H _ _ _ _ _ _ _ (rb_nxt (fun r' => ⟨by decide, nm_e ?_⟩))))
    exact rb_l220 (fun y ed kd nx so hP' => ih (i + 1) y ed kd nx so (by omega) (by omega) hP') r' ed' kd nx so (rb_P_tab hP g1 hkd E6 E7 (fun z => ⟨g2 z, rfl, rfl, rfl⟩))
end
end
section
/-! the law -/
section
variable {N kc ks : Nat} {xs : Nat → Int32} {post : Int32 → Prop} {J93 : Int32 → Int32 → Int32 → Int32 → Int32 → Int32 → Int32 → Int32 → Int32 → (Nat → Int32) → (Nat → Int32) → (Nat → Int32) → (Nat → Int32) → (Nat → Int32) → (Nat → Int32) → (Nat → Int32) → (Nat → Int32) → (Nat → Int32) → (Nat → Int32) → Int32 → Int32 → Int32 → Int32 → Int32 → Int32 → Int32 → Int32 → (Nat → Int32) → (Nat → Int32) → (Nat → Int32) → (Nat → Int32) → (Nat → Int32) → (Nat → Int32) → (Nat → Int32) → (Nat → Int32) → (Nat → Int32) → (Nat → Int32) → Prop} {x7 : Int32}
variable {cap Q A Z L T e k : Nat} {ed kd nx so tx tl tok xM xR xB tl2 tok2 xM2 xR2 xB2 : Nat → Int32} {S M : Nat → Nat} {K : Nat → Int32} {lk B : Nat → Nat}
theorem rb_cell {P : Int32 → Prop} {x : Int32} (p : Nat) (hx : x = nI p) (hp : p < 2 ^ 31) (hN : N < 2 ^ 31) (h : ∀ r, P r) : wpL_cell P N xs () x := by
  subst hx
  exact pk_le N p (fun _ => h 0) (fun z => ⟨pk_in p N z, h _⟩)
theorem rb_mod {P : Int32 → Prop} {c m : Int32} (h : ∀ r, P r) : wpL_mod P () c m :=
  br_c (fun z => ⟨fun e => absurd z (by rw [e]; decide), h _⟩) (fun _ => h 0)
theorem rb_modE (c : Int32) (m : Nat) (hm : 0 < m) (hm2 : m < 2 ^ 31) : ∃ j, j < m ∧ ∀ P : Int32 → Prop, P (nI j) → wpL_mod P () c (nI m) := by
  obtain ⟨w, hw, ew⟩ := pk_andE c (m := 2147483647) 31 (by decide)
  refine ⟨w % m, Nat.mod_lt _ hm, fun P hp => br_t (nI_le (a := 1) hm hm2) ⟨nI_ne0 hm hm2, ?_⟩⟩
  rw [ew, pk_rem hw hm hm2]
  exact hp
theorem rb_l430 {p9 : Nat} {x10 x11 x12 : Int32} (h9 : p9 < 2 ^ 20) (hN : N < 2 ^ 20) (hP : rb_P k cap Q A Z L T e ed kd nx so tx tok tok2 S M K lk B) (hk : k < 2 ^ 20)
    (HJ : ∀ (L T e : Nat) (ed kd nx so tx tl tok xM xR xB tl2 tok2 xM2 xR2 xB2 : Nat → Int32) (S M : Nat → Nat) (K : Nat → Int32) (lk B : Nat → Nat), rb_P (k + 1) cap Q A Z L T e ed kd nx so tx tok tok2 S M K lk B → J93 (nI (k + 1)) (nI cap) (nI Q) (nI A) (nI Z) (nI L) (nI T) (nI (M T)) (nI e) ed kd nx so tx tl tok xM xR xB (nI cap) (nI Q) (nI A) (nI Z) (nI L) (nI T) (nI (M T)) (nI e) ed kd nx so tx tl2 tok2 xM2 xR2 xB2) :
    wL_law_430 post N xs J93 (nI Q) (nI A) (nI Z) x7 (nI k) (nI p9) x10 x11 x12 kc ks (nI cap) (nI Q) (nI A) (nI Z) (nI L) (nI T) (nI (M T)) (nI e) ed kd nx so tx tl tok xM xR xB (nI cap) (nI Q) (nI A) (nI Z) (nI L) (nI T) (nI (M T)) (nI e) ed kd nx so tx tl2 tok2 xM2 xR2 xB2 := by
  have H5 : ∀ x13 x15 : Int32, wL_law_519 post N xs J93 (nI Q) (nI A) (nI Z) x7 (nI k) (nI p9) x10 x11 x13 x15 kc ks (nI cap) (nI Q) (nI A) (nI Z) (nI L) (nI T) (nI (M T)) (nI e) ed kd nx so tx tl tok xM xR xB (nI cap) (nI Q) (nI A) (nI Z) (nI L) (nI T) (nI (M T)) (nI e) ed kd nx so tx tl2 tok2 xM2 xR2 xB2 := fun x13 x15 =>
    br_c (fun _ => rb_l556 hP hk HJ _ _) (fun _ => rb_cell (p9 + 3) (nI_add p9 3) (by omega) (by omega) (fun r => rb_mod (fun r' => nm_e (rb_l556 hP hk HJ _ _))))
  have H4 : ∀ x13 x14 : Int32, wL_law_492 post N xs J93 (nI Q) (nI A) (nI Z) x7 (nI k) (nI p9) x10 x11 x12 x13 x14 kc ks (nI cap) (nI Q) (nI A) (nI Z) (nI L) (nI T) (nI (M T)) (nI e) ed kd nx so tx tl tok xM xR xB (nI cap) (nI Q) (nI A) (nI Z) (nI L) (nI T) (nI (M T)) (nI e) ed kd nx so tx tl2 tok2 xM2 xR2 xB2 := fun x13 x14 =>
    br_c (fun _ => H5 _ _) (fun _ => rb_cell (p9 + 2) (nI_add p9 2) (by omega) (by omega) (fun r => rb_mod (fun r' => H5 _ _)))
  have H3 : ∀ z : Int32, wL_law_466 post N xs J93 (nI Q) (nI A) (nI Z) x7 (nI k) (nI p9) x10 x11 x12 z kc ks (nI cap) (nI Q) (nI A) (nI Z) (nI L) (nI T) (nI (M T)) (nI e) ed kd nx so tx tl tok xM xR xB (nI cap) (nI Q) (nI A) (nI Z) (nI L) (nI T) (nI (M T)) (nI e) ed kd nx so tx tl2 tok2 xM2 xR2 xB2 := fun z =>
    nm_e (br_c (fun _ => H4 _ _) (fun _ => br_c (fun _ => H4 _ _) (fun _ => H4 _ _)))
  exact br_c (fun _ => H3 _) (fun _ => br_c (fun _ => H3 _) (fun _ => rb_cell (p9 + 1) (nI_add p9 1) (by omega) (by omega) (fun r => rb_mod (fun r' => H3 _))))
theorem rb_l93 {N' : Nat} (hN' : N' < 2 ^ 16) (hN : N < 2 ^ 20) : ∀ (d k L T e : Nat) (ed kd nx so tx tl tok xM xR xB tl2 tok2 xM2 xR2 xB2 : Nat → Int32) (S M : Nat → Nat) (K : Nat → Int32) (lk B : Nat → Nat), k ≤ N' → N' - k < d → rb_P k cap Q A Z L T e ed kd nx so tx tok tok2 S M K lk B →
    wL_law_93 (fun r => r = 1) N xs (nI Q) (nI A) (nI Z) (nI N') kc ks d (nI k) (nI cap) (nI Q) (nI A) (nI Z) (nI L) (nI T) (nI (M T)) (nI e) ed kd nx so tx tl tok xM xR xB (nI cap) (nI Q) (nI A) (nI Z) (nI L) (nI T) (nI (M T)) (nI e) ed kd nx so tx tl2 tok2 xM2 xR2 xB2 := by
  intro d
  induction d with
  | zero => intro k L T e ed kd nx so tx tl tok xM xR xB tl2 tok2 xM2 xR2 xB2 S M K lk B h1 h2 _; omega
  | succ d ih =>
    intro k L T e ed kd nx so tx tl tok xM xR xB tl2 tok2 xM2 xR2 xB2 S M K lk B h1 h2 hP
    refine pk_le N' k (fun _ => rfl) (fun hk => ?_)
    have HJ : ∀ (L T e : Nat) (ed kd nx so tx tl tok xM xR xB tl2 tok2 xM2 xR2 xB2 : Nat → Int32) (S M : Nat → Nat) (K : Nat → Int32) (lk B : Nat → Nat), rb_P (k + 1) cap Q A Z L T e ed kd nx so tx tok tok2 S M K lk B → wL_law_93 (fun r => r = 1) N xs (nI Q) (nI A) (nI Z) (nI N') kc ks d (nI (k + 1)) (nI cap) (nI Q) (nI A) (nI Z) (nI L) (nI T) (nI (M T)) (nI e) ed kd nx so tx tl tok xM xR xB (nI cap) (nI Q) (nI A) (nI Z) (nI L) (nI T) (nI (M T)) (nI e) ed kd nx so tx tl2 tok2 xM2 xR2 xB2 :=
      fun L T e ed kd nx so tx tl tok xM xR xB tl2 tok2 xM2 xR2 xB2 S M K lk B hP' => ih (k + 1) L T e ed kd nx so tx tl tok xM xR xB tl2 tok2 xM2 xR2 xB2 S M K lk B (by omega) (by omega) hP'
    have e9 : (4 : Int32) + 5 * nI k = nI (4 + 5 * k) := (congrArg (fun z => nI 4 + z) (pk_mul 5 k)).trans (nI_add 4 (5 * k))
    refine nm_r e9 (rb_cell (4 + 5 * k) rfl (by omega) (by omega) (fun r1 => rb_mod (fun r2 => rb_cell (4 + 5 * k + 4) (nI_add (4 + 5 * k) 4) (by omega) (by omega) (fun r3 => nm_e (rb_xle ?_)))))
    have LD : ∀ x11 : Int32, ∃ f, wL_law_167 (fun r => r = 1) N xs (wL_law_93 (fun r => r = 1) N xs (nI Q) (nI A) (nI Z) (nI N') kc ks d) (nI Q) (nI A) (nI Z) (nI N') (nI k) kc ks f x11 0 (nI cap) (nI Q) (nI A) (nI Z) (nI L) (nI T) (nI (M T)) (nI e) ed kd nx so tx tl tok xM xR xB (nI cap) (nI Q) (nI A) (nI Z) (nI L) (nI T) (nI (M T)) (nI e) ed kd nx so tx tl2 tok2 xM2 xR2 xB2 := fun x11 =>
      ⟨Q + 1, rb_l167 HJ (Q + 1) 0 x11 ed kd nx so (Nat.zero_le _) (by omega) hP⟩
    have SP : ∀ x10 x11 x12 : Int32, wL_law_430 (fun r => r = 1) N xs (wL_law_93 (fun r => r = 1) N xs (nI Q) (nI A) (nI Z) (nI N') kc ks d) (nI Q) (nI A) (nI Z) (nI N') (nI k) (nI (4 + 5 * k)) x10 x11 x12 kc ks (nI cap) (nI Q) (nI A) (nI Z) (nI L) (nI T) (nI (M T)) (nI e) ed kd nx so tx tl tok xM xR xB (nI cap) (nI Q) (nI A) (nI Z) (nI L) (nI T) (nI (M T)) (nI e) ed kd nx so tx tl2 tok2 xM2 xR2 xB2 := fun x10 x11 x12 =>
      rb_l430 (by omega) hN hP (by omega) HJ
    exact br_c (fun _ => LD _) (fun _ => br_c (fun _ => LD _) (fun _ => br_c (fun _ => br_c (fun _ => SP _ _ _) (fun _ => LD _)) (fun _ => SP _ _ _)))
end
theorem rb_xinit {post : St2 → Prop} {c q a z : Nat} (hc : 8 ≤ c ∧ c ≤ 64) (hq : 4 ≤ q ∧ q ≤ 16) (ha : 2 ≤ a ∧ a ≤ 8) (hz : 1 ≤ z ∧ z ≤ 4)
    (hp : post (nI c, nI q, nI a, nI z, 0, 0, 0, 0, rb_fl 128, (fun _ => 0), rb_fl 16, (fun _ => 0), (fun _ => 0), (fun _ => 0), (fun _ => 0), (fun _ => 0), (fun _ => 0), (fun _ => 0))) : wpX_init post 10 868 (0, 0, 0, 0, 0, 0, 0, 0) (nI c) (nI q) (nI a) (nI z) := by
  have C : ∀ (W : Int32 → Prop) (lo hi n : Nat), lo ≤ n → n ≤ hi → hi < 2 ^ 31 → W (nI n) → wpX_clamp W () (nI n) (nI lo) (nI hi) := fun W lo hi n h1 h2 h3 w => br_t (nI_le h1 (by omega)) (br_t (nI_le h2 h3) w)
  refine ⟨by omega, by omega, by omega, by omega, by omega, by omega, by omega, by omega, by omega, by omega, by omega, by omega, by omega, by omega, by omega, by omega, by omega, by omega, by omega, by omega, ?_⟩
  refine C _ 8 64 c hc.1 hc.2 (by omega) ?_
  refine C _ 4 16 q hq.1 hq.2 (by omega) ?_
  refine C _ 2 8 a ha.1 ha.2 (by omega) ?_
  refine C _ 1 4 z hz.1 hz.2 (by omega) ?_
  exact rb_xini hp
theorem i_vc (xs : Nat → Int32) (L : Nat) (hL : L ≤ 260) : wpL_law (fun r => r = 1) L xs := by
  unfold wpL_law
  refine rb_cell 0 rfl (by omega) (by omega) (fun r1 => ?_)
  obtain ⟨j1, h1, H1⟩ := rb_modE r1 57 (by omega) (by omega)
  refine H1 _ (nm_r (nI_add 8 j1) ?_)
  refine rb_cell 1 rfl (by omega) (by omega) (fun r2 => ?_)
  obtain ⟨j2, h2, H2⟩ := rb_modE r2 13 (by omega) (by omega)
  refine H2 _ (nm_r (nI_add 4 j2) ?_)
  refine rb_cell 2 rfl (by omega) (by omega) (fun r3 => ?_)
  obtain ⟨j3, h3, H3⟩ := rb_modE r3 7 (by omega) (by omega)
  refine H3 _ (nm_r (nI_add 2 j3) ?_)
  refine rb_cell 3 rfl (by omega) (by omega) (fun r4 => ?_)
  obtain ⟨j4, h4, H4⟩ := rb_modE r4 4 (by omega) (by omega)
  refine H4 _ (nm_r (nI_add 1 j4) ?_)
  refine ⟨10, 868, by omega, by omega, rb_xinit ⟨by omega, by omega⟩ ⟨by omega, by omega⟩ ⟨by omega, by omega⟩ ⟨by omega, by omega⟩ ⟨by omega, by omega, 10, 868, by omega, by omega, rb_xinit ⟨by omega, by omega⟩ ⟨by omega, by omega⟩ ⟨by omega, by omega⟩ ⟨by omega, by omega⟩ ⟨by decide, nm_r (e' := nI (10 + L / 5)) ?_ ?_⟩⟩⟩
  · show nI 10 + nI L / nI 5 = nI (10 + L / 5)
    rw [pk_div (by omega) (by omega) (by omega), nI_add]
  · refine ⟨10 + L / 5 + 1, rb_l93 (by omega) (by omega) (10 + L / 5 + 1) 0 0 0 0 (rb_fl 128) (fun _ => 0) (rb_fl 16) (fun _ => 0) (fun _ => 0) (fun _ => 0) (fun _ => 0) (fun _ => 0) (fun _ => 0) (fun _ => 0) (fun _ => 0) (fun _ => 0) (fun _ => 0) (fun _ => 0) (fun _ => 0) (fun _ => 0) (fun _ => 0) (fun _ => 0) (fun _ => 0) (fun _ => 0) (Nat.zero_le _) (by omega) ?_⟩
    have hcut : ∀ tok : Nat → Int32, rb_Cut (fun _ => 0) (fun _ => 0) (fun _ => 0) (fun _ => 0) 0 tok := fun tok j hj => absurd hj (by omega)
    have hbi : ∀ tok : Nat → Int32, rb_Bi 0 0 (fun _ => 0) tok := fun tok j hj => absurd hj (by omega)
    exact ⟨⟨by omega, by omega, by omega, by omega, by omega, Nat.zero_le _, Nat.le_refl _⟩, ⟨by omega, by omega, by omega, by omega, fun i => rb_fl_in i (by omega), fun i => rb_fl_in i (by omega), fun i => ⟨0, by omega, rfl⟩, fun i hi => absurd hi (by omega)⟩,
      fun i => ⟨0, by omega, rfl⟩, ⟨rfl, rfl, Nat.le_refl _, rfl, by show 0 < 1 + j4; omega, fun i hi => absurd hi (by omega)⟩, hcut _, hcut _, hbi _, hbi _⟩
end
