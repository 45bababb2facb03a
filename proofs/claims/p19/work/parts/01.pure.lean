/-! whole: the mathematics, free of every printed name but nI, upd. Tables are functions; A alphabet, L length, Q states, Z modes -/
theorem rb_uu {f : Nat → Int32} {k : Nat} {x y : Int32} : upd (upd f k x) k y = upd f k y := by
  funext j
  by_cases h : j = k <;> simp [upd, h]
theorem rb_m1 {n : Nat} (h : n < 2 ^ 31) : ¬ nI n = -1 := by
  intro e
  have h1 := nI_toInt h
  rw [e] at h1
  have h2 : (-1 : Int32).toInt = -1 := by decide
  omega
/-- some edge leaves state s under a symbol below the last argument -/
def rb_he (ed : Nat → Int32) (s : Nat) : Nat → Bool
  | 0 => false
  | c + 1 => rb_he ed s c || decide (¬ ed (s * 8 + c) = -1)
theorem rb_he_f {ed : Nat → Int32} {s : Nat} : ∀ A : Nat, (∀ c, c < A → ed (s * 8 + c) = -1) → rb_he ed s A = false := by
  intro A
  induction A with
  | zero => intro _; rfl
  | succ A ih =>
    intro h
    have h1 := ih (fun c hc => h c (by omega))
    have h2 := h A (by omega)
    simp [rb_he, h1, h2]
theorem rb_he_t {ed : Nat → Int32} {s c : Nat} (h : ¬ ed (s * 8 + c) = -1) : ∀ A : Nat, c < A → rb_he ed s A = true := by
  intro A
  induction A with
  | zero => intro z; omega
  | succ A ih =>
    intro hc
    by_cases e : c = A
    · subst e; simp [rb_he, h]
    · have h1 := ih (by omega)
      simp [rb_he, h1]
/-- the mode after a token that ends in state s, begun in mode m -/
def rb_af (nx : Nat → Int32) (m s : Nat) : Nat := if nx s = -1 then m else (nx s).toNatClampNeg
/-- (END, KIND, mode after), as it stands behind a step to state s over position q -/
def rb_up (kd nx : Nat → Int32) (m q s : Nat) (b : Nat × Int32 × Nat) : Nat × Int32 × Nat :=
  if kd s = 0 then b else (q + 1, kd s, rb_af nx m s)
/-- the scan: fuel, state, q, best; gives looked and best -/
def rb_sc (ed kd nx tx : Nat → Int32) (A L m : Nat) : Nat → Nat → Nat → Nat × Int32 × Nat → Nat × Nat × Int32 × Nat
  | 0, _, q, b => (q, b)
  | d + 1, s, q, b =>
    if rb_he ed s A = false then (q, b)
    else if L ≤ q then (q + 1, b)
    else if ed (s * 8 + (tx q).toNatClampNeg) = -1 then (q + 1, b)
    else rb_sc ed kd nx tx A L m d (ed (s * 8 + (tx q).toNatClampNeg)).toNatClampNeg (q + 1) (rb_up kd nx m q (ed (s * 8 + (tx q).toNatClampNeg)).toNatClampNeg b)
theorem rb_sc1 {ed kd nx tx : Nat → Int32} {A L m d s q : Nat} {b : Nat × Int32 × Nat} (h : rb_he ed s A = false) : rb_sc ed kd nx tx A L m (d + 1) s q b = (q, b) := by
  rw [rb_sc, if_pos h]
theorem rb_sc2 {ed kd nx tx : Nat → Int32} {A L m d s q : Nat} {b : Nat × Int32 × Nat} (h : rb_he ed s A = true) (h2 : L ≤ q) : rb_sc ed kd nx tx A L m (d + 1) s q b = (q + 1, b) := by
  rw [rb_sc, if_neg (by rw [h]; decide), if_pos h2]
theorem rb_sc3 {ed kd nx tx : Nat → Int32} {A L m d s q c : Nat} {b : Nat × Int32 × Nat} (h : rb_he ed s A = true) (h2 : q < L) (hc : (tx q).toNatClampNeg = c) (h3 : ed (s * 8 + c) = -1) : rb_sc ed kd nx tx A L m (d + 1) s q b = (q + 1, b) := by
  subst hc
  rw [rb_sc, if_neg (by rw [h]; decide), if_neg (by omega), if_pos h3]
theorem rb_sc4 {ed kd nx tx : Nat → Int32} {A L m d s q c j : Nat} {b : Nat × Int32 × Nat} (h : rb_he ed s A = true) (h2 : q < L) (hc : (tx q).toNatClampNeg = c) (hj : j < 2 ^ 31) (h3 : ed (s * 8 + c) = nI j) : rb_sc ed kd nx tx A L m (d + 1) s q b = rb_sc ed kd nx tx A L m d j (q + 1) (rb_up kd nx m q j b) := by
  subst hc
  rw [rb_sc, if_neg (by rw [h]; decide), if_neg (by omega), if_neg (by rw [h3]; exact rb_m1 hj), h3, nI_clamp hj]
/-- the tables and the text are within -/
def rb_Env (ed nx so tx : Nat → Int32) (A L Q Z : Nat) : Prop :=
  A ≤ 8 ∧ Q ≤ 16 ∧ Z ≤ 4 ∧ L ≤ 64 ∧ (∀ i, ed i = -1 ∨ ∃ j, j < Q ∧ ed i = nI j) ∧ (∀ i, nx i = -1 ∨ ∃ j, j < Z ∧ nx i = nI j) ∧ (∀ i, ∃ j, j < Q ∧ so i = nI j) ∧ (∀ i, i < L → ∃ c, c < A ∧ tx i = nI c)
theorem rb_af_lt {nx : Nat → Int32} {Z m s : Nat} (hZ : Z ≤ 4) (hx : ∀ i, nx i = -1 ∨ ∃ j, j < Z ∧ nx i = nI j) (hm : m < Z) : rb_af nx m s < Z := by
  unfold rb_af
  by_cases h : nx s = -1
  · rw [if_pos h]; exact hm
  · rw [if_neg h]
    rcases hx s with h1 | ⟨j, hj, e⟩
    · exact absurd h1 h
    · rw [e, nI_clamp (by omega)]; exact hj
theorem rb_af_s {nx : Nat → Int32} {m s : Nat} (h : nx s = -1) : rb_af nx m s = m := if_pos h
theorem rb_af_nI {nx : Nat → Int32} {Z m s : Nat} (hZ : Z ≤ 4) (hx : ∀ i, nx i = -1 ∨ ∃ j, j < Z ∧ nx i = nI j) (h : ¬ nx s = -1) : nx s = nI (rb_af nx m s) := by
  unfold rb_af
  rw [if_neg h]
  rcases hx s with h1 | ⟨j, hj, e⟩
  · exact absurd h1 h
  · rw [e, nI_clamp (by omega)]
theorem rb_up_ok {kd nx : Nat → Int32} {Z L m q s f : Nat} {b : Nat × Int32 × Nat} (hZ : Z ≤ 4) (hx : ∀ i, nx i = -1 ∨ ∃ j, j < Z ∧ nx i = nI j) (hm : m < Z) (hq : q < L) (hf : f ≤ q)
    (hb : f < b.1 ∧ b.1 ≤ L ∧ b.2.2 < Z) : f < (rb_up kd nx m q s b).1 ∧ (rb_up kd nx m q s b).1 ≤ L ∧ (rb_up kd nx m q s b).2.2 < Z := by
  unfold rb_up
  by_cases h : kd s = 0
  · rw [if_pos h]; exact hb
  · rw [if_neg h]; exact ⟨by show f < q + 1; omega, by show q + 1 ≤ L; omega, rb_af_lt hZ hx hm⟩
theorem rb_sc_ok {ed kd nx tx : Nat → Int32} {A L m Z f : Nat} (hZ : Z ≤ 4) (hx : ∀ i, nx i = -1 ∨ ∃ j, j < Z ∧ nx i = nI j) (hm : m < Z) :
    ∀ (d s q : Nat) (b : Nat × Int32 × Nat), f ≤ q → (f < b.1 ∧ b.1 ≤ L ∧ b.2.2 < Z) →
      f < (rb_sc ed kd nx tx A L m d s q b).2.1 ∧ (rb_sc ed kd nx tx A L m d s q b).2.1 ≤ L ∧ (rb_sc ed kd nx tx A L m d s q b).2.2.2 < Z := by
  intro d
  induction d with
  | zero => intro s q b _ hb; exact hb
  | succ d ih =>
    intro s q b hq hb
    unfold rb_sc
    by_cases h1 : rb_he ed s A = false
    · rw [if_pos h1]; exact hb
    · rw [if_neg h1]
      by_cases h2 : L ≤ q
      · rw [if_pos h2]; exact hb
      · rw [if_neg h2]
        by_cases h3 : ed (s * 8 + (tx q).toNatClampNeg) = -1
        · rw [if_pos h3]; exact hb
        · rw [if_neg h3]
          exact ih _ _ _ (by omega) (rb_up_ok hZ hx hm (by omega) hq hb)
/-- looked stays within -/
theorem rb_sc_lk {ed kd nx tx : Nat → Int32} {A L m : Nat} :
    ∀ (d s q : Nat) (b : Nat × Int32 × Nat), (rb_sc ed kd nx tx A L m d s q b).1 ≤ q + d := by
  intro d
  induction d with
  | zero => intro s q b; exact Nat.le_refl _
  | succ d ih =>
    intro s q b
    unfold rb_sc
    by_cases h1 : rb_he ed s A = false
    · rw [if_pos h1]; show q ≤ q + (d + 1); omega
    · rw [if_neg h1]
      by_cases h2 : L ≤ q
      · rw [if_pos h2]; show q + 1 ≤ q + (d + 1); omega
      · rw [if_neg h2]
        by_cases h3 : ed (s * 8 + (tx q).toNatClampNeg) = -1
        · rw [if_pos h3]; show q + 1 ≤ q + (d + 1); omega
        · rw [if_neg h3]
          have h4 := ih (ed (s * 8 + (tx q).toNatClampNeg)).toNatClampNeg (q + 1) (rb_up kd nx m q (ed (s * 8 + (tx q).toNatClampNeg)).toNatClampNeg b)
          omega
/-- the token at s in mode m: looked, END, KIND, mode after -/
def rb_tk (ed kd nx so tx : Nat → Int32) (A L s m : Nat) : Nat × Nat × Int32 × Nat :=
  rb_sc ed kd nx tx A L m (L + 1 - s) (so m).toNatClampNeg s (s + 1, 0, m)
/-- START and MODE of token i -/
def rb_sm (ed kd nx so tx : Nat → Int32) (A L : Nat) : Nat → Nat × Nat
  | 0 => (0, 0)
  | i + 1 => ((rb_tk ed kd nx so tx A L (rb_sm ed kd nx so tx A L i).1 (rb_sm ed kd nx so tx A L i).2).2.1,
              (rb_tk ed kd nx so tx A L (rb_sm ed kd nx so tx A L i).1 (rb_sm ed kd nx so tx A L i).2).2.2.2)
theorem rb_tk_ok {ed kd nx so tx : Nat → Int32} {A L s m Q Z : Nat} (E : rb_Env ed nx so tx A L Q Z) (hm : m < Z) (hs : s < L) :
    s < (rb_tk ed kd nx so tx A L s m).2.1 ∧ (rb_tk ed kd nx so tx A L s m).2.1 ≤ L ∧ (rb_tk ed kd nx so tx A L s m).2.2.2 < Z :=
  rb_sc_ok E.2.2.1 E.2.2.2.2.2.1 hm _ _ _ _ (Nat.le_refl _) ⟨by show s < s + 1; omega, by show s + 1 ≤ L; omega, hm⟩
theorem rb_tk_lk {ed kd nx so tx : Nat → Int32} {A L s m : Nat} (hs : s < L) : (rb_tk ed kd nx so tx A L s m).1 ≤ L + 1 := by
  have h := rb_sc_lk (ed := ed) (kd := kd) (nx := nx) (tx := tx) (A := A) (L := L) (m := m) (L + 1 - s) (so m).toNatClampNeg s (s + 1, 0, m)
  unfold rb_tk
  omega
theorem rb_T_ex {ed kd nx so tx : Nat → Int32} {A L Q Z : Nat} (E : rb_Env ed nx so tx A L Q Z) : ∀ d i : Nat,
    (rb_sm ed kd nx so tx A L i).1 ≤ L → L - (rb_sm ed kd nx so tx A L i).1 ≤ d → (rb_sm ed kd nx so tx A L i).2 < Z →
    (∀ j, j < i → (rb_sm ed kd nx so tx A L j).1 < L ∧ (rb_sm ed kd nx so tx A L j).2 < Z ∧ (rb_sm ed kd nx so tx A L j).1 < (rb_sm ed kd nx so tx A L (j + 1)).1) →
    ∃ T, (∀ j, j < T → (rb_sm ed kd nx so tx A L j).1 < L ∧ (rb_sm ed kd nx so tx A L j).2 < Z ∧ (rb_sm ed kd nx so tx A L j).1 < (rb_sm ed kd nx so tx A L (j + 1)).1) ∧
      (rb_sm ed kd nx so tx A L T).1 = L ∧ (rb_sm ed kd nx so tx A L T).2 < Z := by
  intro d
  induction d with
  | zero => intro i h1 h2 h3 h4; exact ⟨i, h4, by omega, h3⟩
  | succ d ih =>
    intro i h1 h2 h3 h4
    by_cases h : (rb_sm ed kd nx so tx A L i).1 = L
    · exact ⟨i, h4, h, h3⟩
    · have ok := rb_tk_ok (kd := kd) E h3 (s := (rb_sm ed kd nx so tx A L i).1) (by omega)
      have e1 : (rb_sm ed kd nx so tx A L (i + 1)).1 = (rb_tk ed kd nx so tx A L (rb_sm ed kd nx so tx A L i).1 (rb_sm ed kd nx so tx A L i).2).2.1 := rfl
      have e2 : (rb_sm ed kd nx so tx A L (i + 1)).2 = (rb_tk ed kd nx so tx A L (rb_sm ed kd nx so tx A L i).1 (rb_sm ed kd nx so tx A L i).2).2.2.2 := rfl
      rw [← e1, ← e2] at ok
      exact ih (i + 1) ok.2.1 (by omega) ok.2.2 (lt_s h4 ⟨by omega, h3, ok.1⟩)
theorem rb_ch {S : Nat → Nat} {T : Nat} (h : ∀ i, i < T → S i < S (i + 1)) (i : Nat) : ∀ d, i + d ≤ T → S i + d ≤ S (i + d) := by
  intro d
  induction d with
  | zero => intro _; exact Nat.le_refl _
  | succ d ih =>
    intro hd
    have h1 := ih (by omega)
    have h2 := h (i + d) (by omega)
    show S i + (d + 1) ≤ S (i + d + 1)
    omega
theorem rb_ch_lt {S : Nat → Nat} {T i j : Nat} (h : ∀ i, i < T → S i < S (i + 1)) (hij : i < j) (hj : j ≤ T) : S i < S j := by
  have h1 := rb_ch h i (j - i) (by omega)
  rw [show i + (j - i) = j by omega] at h1
  omega
theorem rb_ch_in {S : Nat → Nat} {T : Nat} (h : ∀ i, i < T → S i < S (i + 1)) (i j : Nat) (hi : i < T) (hj : j < T) (e : S i = S j) : i = j := by
  rcases Nat.lt_trichotomy i j with h1 | h1 | h1
  · have h2 := rb_ch_lt h h1 (by omega); omega
  · exact h1
  · have h2 := rb_ch_lt h h1 (by omega); omega
/-- the token list of a text: T tokens -/
theorem rb_T {ed kd nx so tx : Nat → Int32} {A L Q Z : Nat} (E : rb_Env ed nx so tx A L Q Z) (hZ : 0 < Z) :
    ∃ T, T ≤ L ∧ (∀ j, j < T → (rb_sm ed kd nx so tx A L j).1 < L ∧ (rb_sm ed kd nx so tx A L j).2 < Z ∧ (rb_sm ed kd nx so tx A L j).1 < (rb_sm ed kd nx so tx A L (j + 1)).1) ∧
      (rb_sm ed kd nx so tx A L T).1 = L ∧ (rb_sm ed kd nx so tx A L T).2 < Z := by
  obtain ⟨T, h1, h2, h3⟩ := rb_T_ex (kd := kd) E L 0 (Nat.zero_le _) (Nat.sub_le _ _) hZ lt_0
  have h4 := rb_ch (S := fun i => (rb_sm ed kd nx so tx A L i).1) (T := T) (fun i hi => (h1 i hi).2.2) 0 T (by omega)
  have h5 : (rb_sm ed kd nx so tx A L 0).1 + T ≤ (rb_sm ed kd nx so tx A L (0 + T)).1 := h4
  rw [Nat.zero_add] at h5
  exact ⟨T, by omega, h1, h2, h3⟩
/-! births: the old list is (c, S, M, R, B) -/
def rb_F (S M : Nat → Nat) (R : Nat → Int32) (pos del n s m j : Nat) : Prop :=
  M j = m ∧ ((s < pos ∧ S j = s ∧ R j ≤ nI pos) ∨ (pos + n ≤ s ∧ S j + n = s + del))
noncomputable def rb_bn (c : Nat) (S M : Nat → Nat) (R : Nat → Int32) (B : Nat → Nat) (pos del n e s m : Nat) : Nat :=
  @dite _ (∃ j, j < c ∧ rb_F S M R pos del n s m j) (Classical.propDecidable _) (fun h => B h.choose) (fun _ => e + 1)
theorem rb_bn_n {c : Nat} {S M : Nat → Nat} {R : Nat → Int32} {B : Nat → Nat} {pos del n e s m : Nat} (h : ∀ j, j < c → ¬ rb_F S M R pos del n s m j) : rb_bn c S M R B pos del n e s m = e + 1 := by
  unfold rb_bn
  exact dif_neg (fun ⟨j, hj, hF⟩ => h j hj hF)
theorem rb_F_u {S M : Nat → Nat} {R : Nat → Int32} {pos del n s m i j : Nat} (hi : rb_F S M R pos del n s m i) (hj : rb_F S M R pos del n s m j) : S i = S j := by
  rcases hi with ⟨_, ⟨a, b, _⟩ | ⟨a, b⟩⟩ <;> rcases hj with ⟨_, ⟨a', b', _⟩ | ⟨a', b'⟩⟩ <;> omega
theorem rb_bn_s {c : Nat} {S M : Nat → Nat} {R : Nat → Int32} {B : Nat → Nat} {pos del n e s m j : Nat} (hS : ∀ i j, i < c → j < c → S i = S j → i = j) (hj : j < c) (hF : rb_F S M R pos del n s m j) : rb_bn c S M R B pos del n e s m = B j := by
  have h : ∃ j, j < c ∧ rb_F S M R pos del n s m j := ⟨j, hj, hF⟩
  unfold rb_bn
  rw [dif_pos h]
  have e1 : h.choose = j := hS _ _ h.choose_spec.1 hj (rb_F_u h.choose_spec.2 hF)
  rw [e1]
theorem rb_bn_le {c : Nat} {S M : Nat → Nat} {R : Nat → Int32} {B : Nat → Nat} {pos del n e s m : Nat} (hB : ∀ j, j < c → B j ≤ e) : rb_bn c S M R B pos del n e s m ≤ e + 1 := by
  unfold rb_bn
  by_cases h : ∃ j, j < c ∧ rb_F S M R pos del n s m j
  · rw [dif_pos h]
    have h1 := hB _ h.choose_spec.1
    omega
  · rw [dif_neg h]
    exact Nat.le_refl _
/-- how many of the first i births are the number e -/
def rb_fr (e : Nat) (b : Nat → Nat) : Nat → Nat
  | 0 => 0
  | i + 1 => if b i = e then rb_fr e b i + 1 else rb_fr e b i
theorem rb_fr_le (e : Nat) (b : Nat → Nat) : ∀ i, rb_fr e b i ≤ i := by
  intro i
  induction i with
  | zero => exact Nat.le_refl _
  | succ i ih =>
    unfold rb_fr
    by_cases h : b i = e
    · rw [if_pos h]; omega
    · rw [if_neg h]; omega
theorem rb_fr_t {e : Nat} {b : Nat → Nat} {i : Nat} (h : b i = e) : rb_fr e b (i + 1) = rb_fr e b i + 1 := if_pos h
theorem rb_fr_f {e : Nat} {b : Nat → Nat} {i : Nat} (h : b i ≠ e) : rb_fr e b (i + 1) = rb_fr e b i := if_neg h
/-- the class's three arrays by START hold the old list -/
def rb_Old (c : Nat) (S M : Nat → Nat) (R : Nat → Int32) (B : Nat → Nat) (oM oR oB : Nat → Int32) : Prop :=
  (∀ j, j < c → oM (S j) = nI (M j) ∧ oR (S j) = R j ∧ oB (S j) = nI (B j)) ∧ (∀ p, p < 64 → (∀ j, j < c → ¬ S j = p) → oM p = -1)
/-! the new text -/
def rb_nt (tx sy : Nat → Int32) (L pos del n : Nat) : Nat → Int32 := fun i =>
  if i < pos then tx i else if i < pos + n then sy (i - pos) else if i < L - del + n then tx (i + del - n) else tx i
def rb_w2 (tx sy : Nat → Int32) (pos k : Nat) : Nat → Int32 := fun i =>
  if i < pos then tx i else if i < pos + k then sy (i - pos) else tx i
def rb_w3 (tx sy : Nat → Int32) (pos del n k : Nat) : Nat → Int32 := fun i =>
  if i < pos then tx i else if i < pos + n then sy (i - pos) else if i < pos + n + k then tx (i + del - n) else tx i
theorem rb_w2_0 {tx sy : Nat → Int32} {pos : Nat} : rb_w2 tx sy pos 0 = tx := by
  funext i
  unfold rb_w2
  by_cases h : i < pos
  · rw [if_pos h]
  · rw [if_neg h, if_neg (show ¬ i < pos + 0 by omega)]
theorem rb_w2_s {tx sy : Nat → Int32} {pos k : Nat} : upd (rb_w2 tx sy pos k) (pos + k) (sy k) = rb_w2 tx sy pos (k + 1) := by
  funext i
  unfold upd rb_w2
  by_cases h1 : i = pos + k
  · subst h1
    rw [if_pos rfl, if_neg (show ¬ pos + k < pos by omega), if_pos (show pos + k < pos + (k + 1) by omega), show pos + k - pos = k by omega]
  · rw [if_neg h1]
    by_cases h2 : i < pos
    · rw [if_pos h2, if_pos h2]
    · rw [if_neg h2, if_neg h2]
      by_cases h3 : i < pos + k
      · rw [if_pos h3, if_pos (show i < pos + (k + 1) by omega)]
      · rw [if_neg h3, if_neg (show ¬ i < pos + (k + 1) by omega)]
theorem rb_w3_0 {tx sy : Nat → Int32} {pos del n : Nat} : rb_w3 tx sy pos del n 0 = rb_w2 tx sy pos n := by
  funext i
  unfold rb_w3 rb_w2
  by_cases h2 : i < pos
  · rw [if_pos h2, if_pos h2]
  · rw [if_neg h2, if_neg h2]
    by_cases h3 : i < pos + n
    · rw [if_pos h3, if_pos h3]
    · rw [if_neg h3, if_neg h3, if_neg (show ¬ i < pos + n + 0 by omega)]
theorem rb_w3_s {tx sy : Nat → Int32} {pos del n k : Nat} : upd (rb_w3 tx sy pos del n k) (pos + n + k) (tx (pos + del + k)) = rb_w3 tx sy pos del n (k + 1) := by
  funext i
  unfold upd rb_w3
  by_cases h1 : i = pos + n + k
  · subst h1
    rw [if_pos rfl, if_neg (show ¬ pos + n + k < pos by omega), if_neg (show ¬ pos + n + k < pos + n by omega), if_pos (show pos + n + k < pos + n + (k + 1) by omega), show pos + n + k + del - n = pos + del + k by omega]
  · rw [if_neg h1]
    by_cases h2 : i < pos
    · rw [if_pos h2, if_pos h2]
    · rw [if_neg h2, if_neg h2]
      by_cases h3 : i < pos + n
      · rw [if_pos h3, if_pos h3]
      · rw [if_neg h3, if_neg h3]
        by_cases h4 : i < pos + n + k
        · rw [if_pos h4, if_pos (show i < pos + n + (k + 1) by omega)]
        · rw [if_neg h4, if_neg (show ¬ i < pos + n + (k + 1) by omega)]
theorem rb_w3_e {tx sy : Nat → Int32} {L pos del n : Nat} (h : pos + del ≤ L) : rb_w3 tx sy pos del n (L - pos - del) = rb_nt tx sy L pos del n := by
  funext i
  unfold rb_w3 rb_nt
  rw [show pos + n + (L - pos - del) = L - del + n by omega]
def rb_y2 (nt tx : Nat → Int32) (k : Nat) : Nat → Int32 := fun i => if i < k then nt i else tx i
theorem rb_y2_0 {nt tx : Nat → Int32} : rb_y2 nt tx 0 = tx := by
  funext i
  exact if_neg (Nat.not_lt_zero i)
theorem rb_y2_s {nt tx : Nat → Int32} {k : Nat} : upd (rb_y2 nt tx k) k (nt k) = rb_y2 nt tx (k + 1) := by
  funext i
  unfold upd rb_y2
  by_cases h1 : i = k
  · subst h1
    rw [if_pos rfl, if_pos (show i < i + 1 by omega)]
  · rw [if_neg h1]
    by_cases h2 : i < k
    · rw [if_pos h2, if_pos (show i < k + 1 by omega)]
    · rw [if_neg h2, if_neg (show ¬ i < k + 1 by omega)]
theorem rb_y2_e {tx sy : Nat → Int32} {L pos del n : Nat} (h : pos + del ≤ L) : rb_y2 (rb_nt tx sy L pos del n) tx (L - del + n) = rb_nt tx sy L pos del n := by
  funext i
  unfold rb_y2
  by_cases h1 : i < L - del + n
  · rw [if_pos h1]
  · rw [if_neg h1]
    unfold rb_nt
    rw [if_neg (show ¬ i < pos by omega), if_neg (show ¬ i < pos + n by omega), if_neg h1]
theorem rb_nt_1 {tx sy : Nat → Int32} {L pos del n i : Nat} (h : i < pos) : rb_nt tx sy L pos del n i = tx i := if_pos h
theorem rb_nt_2 {tx sy : Nat → Int32} {L pos del n i : Nat} (h : pos ≤ i) (h2 : i < pos + n) : rb_nt tx sy L pos del n i = sy (i - pos) := by
  unfold rb_nt
  rw [if_neg (by omega), if_pos h2]
theorem rb_nt_3 {tx sy : Nat → Int32} {L pos del n i : Nat} (h : pos + n ≤ i) (h2 : i < L - del + n) : rb_nt tx sy L pos del n i = tx (i + del - n) := by
  unfold rb_nt
  rw [if_neg (by omega), if_neg (by omega), if_pos h2]
theorem rb_nt_in {tx sy : Nat → Int32} {A L pos del n : Nat} (hd : pos + del ≤ L) (ht : ∀ i, i < L → ∃ c, c < A ∧ tx i = nI c) (hs : ∀ k, k < n → ∃ c, c < A ∧ sy k = nI c) :
    ∀ i, i < L - del + n → ∃ c, c < A ∧ rb_nt tx sy L pos del n i = nI c := by
  intro i hi
  by_cases h1 : i < pos
  · rw [rb_nt_1 h1]; exact ht i (by omega)
  · by_cases h2 : i < pos + n
    · rw [rb_nt_2 (by omega) h2]; exact hs _ (by omega)
    · rw [rb_nt_3 (by omega) hi]; exact ht _ (by omega)
