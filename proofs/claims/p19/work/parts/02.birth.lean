/-! births on the class's side: the look-up by START is the reference's search -/
theorem rb_old_at {c : Nat} {S M : Nat → Nat} {R : Nat → Int32} {B : Nat → Nat} {oM oR oB : Nat → Int32} {p m : Nat} (O : rb_Old c S M R B oM oR oB) (hM : ∀ j, j < c → M j < 4) (hm : m < 4) (hp : p < 64) (h : oM p = nI m) :
    ∃ j, j < c ∧ S j = p ∧ M j = m ∧ oR p = R j ∧ oB p = nI (B j) := by
  by_cases hj : ∃ j, j < c ∧ S j = p
  · obtain ⟨j, hj, e⟩ := hj
    obtain ⟨h1, h2, h3⟩ := O.1 j hj
    have h4 := hM j hj
    rw [e] at h1 h2 h3
    rw [h1] at h
    exact ⟨j, hj, e, (nI_eq (by omega) (by omega)).mp h, h2, h3⟩
  · have h1 := O.2 p hp (fun j h1 h2 => hj ⟨j, h1, h2⟩)
    rw [h1] at h
    exact absurd h.symm (rb_m1 (by omega))
theorem rb_xb1 {c : Nat} {S M : Nat → Nat} {R : Nat → Int32} {B : Nat → Nat} {oM oR oB : Nat → Int32} {pos del n e s m : Nat} (O : rb_Old c S M R B oM oR oB) (hS : ∀ i j, i < c → j < c → S i = S j → i = j) (hM : ∀ j, j < c → M j < 4) (hm : m < 4) (hs : s < 64)
    (h : s < pos) (h1 : oM s = nI m) (h2 : oR s ≤ nI pos) : oB s = nI (rb_bn c S M R B pos del n e s m) := by
  obtain ⟨j, hj, a, b, d, f⟩ := rb_old_at O hM hm hs h1
  rw [d] at h2
  rw [f, rb_bn_s hS hj ⟨b, Or.inl ⟨h, a, h2⟩⟩]
theorem rb_xb1n {c : Nat} {S M : Nat → Nat} {R : Nat → Int32} {B : Nat → Nat} {oM oR oB : Nat → Int32} {pos del n e s m : Nat} (O : rb_Old c S M R B oM oR oB)
    (h : s < pos) (h1 : ¬ (oM s = nI m ∧ oR s ≤ nI pos)) : rb_bn c S M R B pos del n e s m = e + 1 := by
  refine rb_bn_n (fun j hj hF => h1 ?_)
  obtain ⟨a, ⟨_, b, d⟩ | ⟨b, _⟩⟩ := hF
  · obtain ⟨g1, g2, _⟩ := O.1 j hj
    rw [b] at g1 g2
    exact ⟨by rw [g1, a], by rw [g2]; exact d⟩
  · omega
theorem rb_xb2 {c : Nat} {S M : Nat → Nat} {R : Nat → Int32} {B : Nat → Nat} {oM oR oB : Nat → Int32} {pos del n e s m p : Nat} (O : rb_Old c S M R B oM oR oB) (hS : ∀ i j, i < c → j < c → S i = S j → i = j) (hM : ∀ j, j < c → M j < 4) (hm : m < 4) (hp : p < 64)
    (h : pos + n ≤ s) (hps : p + n = s + del) (h1 : oM p = nI m) : oB p = nI (rb_bn c S M R B pos del n e s m) := by
  obtain ⟨j, hj, a, b, d, f⟩ := rb_old_at O hM hm hp h1
  rw [f, rb_bn_s hS hj ⟨b, Or.inr ⟨h, by omega⟩⟩]
theorem rb_xb2n {c : Nat} {S M : Nat → Nat} {R : Nat → Int32} {B : Nat → Nat} {oM oR oB : Nat → Int32} {pos del n e s m p : Nat} (O : rb_Old c S M R B oM oR oB)
    (h : pos + n ≤ s) (hps : p + n = s + del) (h1 : ¬ oM p = nI m) : rb_bn c S M R B pos del n e s m = e + 1 := by
  refine rb_bn_n (fun j hj hF => h1 ?_)
  obtain ⟨a, ⟨b, _, _⟩ | ⟨_, b⟩⟩ := hF
  · omega
  · obtain ⟨g1, _, _⟩ := O.1 j hj
    rw [show S j = p by omega] at g1
    rw [g1, a]
theorem rb_xb3 {c : Nat} {S M : Nat → Nat} {R : Nat → Int32} {B : Nat → Nat} {pos del n e s m : Nat} (h : pos ≤ s) (h2 : s < pos + n) : rb_bn c S M R B pos del n e s m = e + 1 := by
  refine rb_bn_n (fun j hj hF => ?_)
  obtain ⟨a, ⟨b, _, _⟩ | ⟨b, _⟩⟩ := hF <;> omega
/-- the class's remembering, one token more -/
theorem rb_old_s {i : Nat} {S M : Nat → Nat} {R : Nat → Int32} {B : Nat → Nat} {oM oR oB : Nat → Int32} (O : rb_Old i S M R B oM oR oB) (hS : ∀ j, j < i → ¬ S j = S i) :
    rb_Old (i + 1) S M R B (upd oM (S i) (nI (M i))) (upd oR (S i) (R i)) (upd oB (S i) (nI (B i))) := by
  refine ⟨fun j hj => ?_, fun p hp h => ?_⟩
  · by_cases e : j = i
    · rw [e, pk_us, pk_us, pk_us]; exact ⟨rfl, rfl, rfl⟩
    · have h1 := hS j (by omega)
      rw [pk_un h1, pk_un h1, pk_un h1]
      exact O.1 j (by omega)
  · have h1 := h i (by omega)
    rw [pk_un (fun z => h1 z.symm)]
    exact O.2 p hp (fun j hj => h j (by omega))
/-- what the reference's search has found among the first j -/
def rb_Fd (S M : Nat → Nat) (R : Nat → Int32) (pos del n s m j : Nat) (x : Int32) : Prop :=
  (x = -1 ∧ ∀ i, i < j → ¬ rb_F S M R pos del n s m i) ∨ (∃ i, i < j ∧ rb_F S M R pos del n s m i ∧ x = nI i)
theorem rb_Fd_0 {S M : Nat → Nat} {R : Nat → Int32} {pos del n s m : Nat} : rb_Fd S M R pos del n s m 0 (-1) := Or.inl ⟨rfl, lt_0⟩
theorem rb_Fd_t {S M : Nat → Nat} {R : Nat → Int32} {pos del n s m j : Nat} (h : rb_F S M R pos del n s m j) : rb_Fd S M R pos del n s m (j + 1) (nI j) := Or.inr ⟨j, by omega, h, rfl⟩
theorem rb_Fd_f {S M : Nat → Nat} {R : Nat → Int32} {pos del n s m j : Nat} {x : Int32} (I : rb_Fd S M R pos del n s m j x) (h : ¬ rb_F S M R pos del n s m j) : rb_Fd S M R pos del n s m (j + 1) x := by
  rcases I with ⟨a, b⟩ | ⟨i, a, b, d⟩
  · exact Or.inl ⟨a, lt_s b h⟩
  · exact Or.inr ⟨i, by omega, b, d⟩
