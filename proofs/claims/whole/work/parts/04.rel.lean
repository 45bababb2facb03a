/-! the relation -/
/-- the class's cells and the reference's arrays hold the same tokens -/
def rb_Tok (T : Nat) (tok tS tE tK tM tR tB : Nat → Int32) : Prop :=
  ∀ i, i < T → tok (i * 6) = tS i ∧ tok (i * 6 + 1) = tE i ∧ tok (i * 6 + 2) = tK i ∧ tok (i * 6 + 3) = tM i ∧ tok (i * 6 + 4) = tR i ∧ tok (i * 6 + 5) = tB i
/-- a list of T tokens that covers a text of L symbols -/
def rb_Lst (T L Z e : Nat) (tS tE tM tB : Nat → Int32) (S M B : Nat → Nat) : Prop :=
  S 0 = 0 ∧ S T = L ∧ (∀ i, i < T → S i < S (i + 1)) ∧ (∀ i, i < T → tS i = nI (S i) ∧ tE i = nI (S (i + 1)) ∧ tM i = nI (M i) ∧ tB i = nI (B i) ∧ M i < Z ∧ B i ≤ e)
def rb_C (k cap Q A Z L T e : Nat) (me : Int32) (ed nx so tx tok tS tE tK tM tR tB tA : Nat → Int32) (S M B : Nat → Nat) : Prop :=
  (8 ≤ cap ∧ cap ≤ 64 ∧ 4 ≤ Q ∧ 2 ≤ A ∧ 1 ≤ Z ∧ L ≤ cap ∧ e ≤ k) ∧ rb_Env ed nx so tx A L Q Z ∧ rb_Tok T tok tS tE tK tM tR tB ∧ rb_Lst T L Z e tS tE tM tB S M B ∧ (T = 0 → me = 0) ∧ (∀ i, T = i + 1 → me = tA i)
/-- the relation at the head of a turn whose first cell is k -/
def i_Rel (k : Nat) (u : SX) (v : SY) : Prop :=
  ∃ (cap Q A Z L T e : Nat) (me oc : Int32) (ed kd nx so tx tl tok xM xR xB nt tS tE tK tM tR tB tA yS yM yR yB : Nat → Int32) (S M B : Nat → Nat),
    u = (nI cap, nI Q, nI A, nI Z, nI L, nI T, me, nI e, ed, kd, nx, so, tx, tl, tok, xM, xR, xB) ∧ v = (nI cap, nI Q, nI A, nI Z, nI L, nI e, nI T, oc, ed, kd, nx, so, tx, nt, tS, tE, tK, tM, tR, tB, tA, yS, yM, yR, yB) ∧ rb_C k cap Q A Z L T e me ed nx so tx tok tS tE tK tM tR tB tA S M B
theorem rb_mk {k cap Q A Z L T e : Nat} {me oc : Int32} {ed kd nx so tx tl tok xM xR xB nt tS tE tK tM tR tB tA yS yM yR yB : Nat → Int32} {S M B : Nat → Nat}
    (h : rb_C k cap Q A Z L T e me ed nx so tx tok tS tE tK tM tR tB tA S M B) : i_Rel k (nI cap, nI Q, nI A, nI Z, nI L, nI T, me, nI e, ed, kd, nx, so, tx, tl, tok, xM, xR, xB) (nI cap, nI Q, nI A, nI Z, nI L, nI e, nI T, oc, ed, kd, nx, so, tx, nt, tS, tE, tK, tM, tR, tB, tA, yS, yM, yR, yB) :=
  ⟨cap, Q, A, Z, L, T, e, me, oc, ed, kd, nx, so, tx, tl, tok, xM, xR, xB, nt, tS, tE, tK, tM, tR, tB, tA, yS, yM, yR, yB, S, M, B, rfl, rfl, h⟩
theorem rb_C_up {k cap Q A Z L T e : Nat} {me : Int32} {ed nx so tx tok tS tE tK tM tR tB tA : Nat → Int32} {S M B : Nat → Nat}
    (h : rb_C k cap Q A Z L T e me ed nx so tx tok tS tE tK tM tR tB tA S M B) : rb_C (k + 5) cap Q A Z L T e me ed nx so tx tok tS tE tK tM tR tB tA S M B := by
  obtain ⟨⟨a, b, c, d, f, g, h⟩, r⟩ := h
  exact ⟨⟨a, b, c, d, f, g, by omega⟩, r⟩
theorem i_up {k : Nat} {u : SX} {v : SY} (h : i_Rel k u v) : i_Rel (k + 5) u v := by
  obtain ⟨cap, Q, A, Z, L, T, e, me, oc, ed, kd, nx, so, tx, tl, tok, xM, xR, xB, nt, tS, tE, tK, tM, tR, tB, tA, yS, yM, yR, yB, S, M, B, rfl, rfl, h⟩ := h
  exact rb_mk (rb_C_up h)
theorem rb_Lst_T {T L Z e : Nat} {tS tE tM tB : Nat → Int32} {S M B : Nat → Nat} (h : rb_Lst T L Z e tS tE tM tB S M B) : T ≤ L := by
  obtain ⟨h1, h2, h3, _⟩ := h
  have h4 := rb_ch h3 0 T (by omega)
  rw [Nat.zero_add] at h4
  omega
theorem rb_Lst_S {T L Z e : Nat} {tS tE tM tB : Nat → Int32} {S M B : Nat → Nat} (h : rb_Lst T L Z e tS tE tM tB S M B) {i : Nat} (hi : i < T) : S i < L := by
  obtain ⟨h1, h2, h3, _⟩ := h
  have h4 := rb_ch_lt h3 hi (Nat.le_refl T)
  omega
/-- an int against a bound: three cases, each with all that a branch may ask -/
theorem rb_c3 (p : Int32) {Q : Nat} (hQ : Q < 2 ^ 31) : (p < 0 ∧ ¬ 0 ≤ p ∧ ¬ nI Q ≤ p ∧ p < nI Q) ∨ (¬ p < 0 ∧ 0 ≤ p ∧ nI Q ≤ p ∧ ¬ p < nI Q) ∨ ∃ j, j < Q ∧ p = nI j ∧ ¬ p < 0 ∧ 0 ≤ p ∧ ¬ nI Q ≤ p ∧ p < nI Q := by
  rcases pk_ix p hQ with h | h | ⟨j, hj, rfl⟩
  · have h0 : ¬ nI Q ≤ p := fun z => Int32.not_le.mpr h (Int32.le_trans (nI_pos' hQ) z)
    exact Or.inl ⟨h, Int32.not_le.mpr h, h0, Int32.not_le.mp h0⟩
  · have h0 : 0 ≤ p := Int32.le_trans (nI_pos' hQ) h
    exact Or.inr (Or.inl ⟨Int32.not_lt.mpr h0, h0, h, Int32.not_lt.mpr h⟩)
  · exact Or.inr (Or.inr ⟨j, hj, rfl, nI_pos (by omega), nI_pos' (by omega), nI_ge hj hQ, nI_lt hj hQ⟩)
