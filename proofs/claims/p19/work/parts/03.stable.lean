/-! p19: tokens whose REACH is at most pos stay as they are over an edit at pos -/
theorem rb_sc_ge {ed kd nx tx : Nat → Int32} {A L m : Nat} :
    ∀ (d s q : Nat) (b : Nat × Int32 × Nat), q ≤ (rb_sc ed kd nx tx A L m d s q b).1 := by
  intro d
  induction d with
  | zero => intro s q b; exact Nat.le_refl _
  | succ d ih =>
    intro s q b
    unfold rb_sc
    by_cases h1 : rb_he ed s A = false
    · rw [if_pos h1]; exact Nat.le_refl _
    · rw [if_neg h1]
      by_cases h2 : L ≤ q
      · rw [if_pos h2]; exact Nat.le_succ _
      · rw [if_neg h2]
        by_cases h3 : ed (s * 8 + (tx q).toNatClampNeg) = -1
        · rw [if_pos h3]; exact Nat.le_succ _
        · rw [if_neg h3]
          have h4 := ih (ed (s * 8 + (tx q).toNatClampNeg)).toNatClampNeg (q + 1) (rb_up kd nx m q (ed (s * 8 + (tx q).toNatClampNeg)).toNatClampNeg b)
          omega
theorem rb_sc_same {ed kd nx tx tx' : Nat → Int32} {A L L' m pos : Nat} (h1 : pos ≤ L) (h2 : pos ≤ L') (ht : ∀ i, i < pos → tx i = tx' i) :
    ∀ (d d' s q : Nat) (b : Nat × Int32 × Nat), L + 1 - q ≤ d → L' + 1 - q ≤ d' → q ≤ L → q ≤ L' → (rb_sc ed kd nx tx A L m d s q b).1 ≤ pos →
      rb_sc ed kd nx tx' A L' m d' s q b = rb_sc ed kd nx tx A L m d s q b := by
  intro d
  induction d with
  | zero => intro d' s q b a1 a2 a3 a4 a5; omega
  | succ d ih =>
    intro d' s q b a1 a2 a3 a4 a5
    obtain ⟨d', rfl⟩ : ∃ x, d' = x + 1 := ⟨d' - 1, by omega⟩
    unfold rb_sc at a5 ⊢
    by_cases c1 : rb_he ed s A = false
    · rw [if_pos c1, if_pos c1]
    · rw [if_neg c1] at a5
      rw [if_neg c1, if_neg c1]
      by_cases c2 : L ≤ q
      · rw [if_pos c2] at a5
        have a6 : q + 1 ≤ pos := a5
        omega
      · rw [if_neg c2] at a5
        rw [if_neg c2]
        by_cases c3 : ed (s * 8 + (tx q).toNatClampNeg) = -1
        · rw [if_pos c3] at a5
          have a6 : q + 1 ≤ pos := a5
          rw [if_neg (show ¬ L' ≤ q by omega), ← ht q (by omega), if_pos c3, if_pos c3]
        · rw [if_neg c3] at a5
          have a7 := rb_sc_ge (ed := ed) (kd := kd) (nx := nx) (tx := tx) (A := A) (L := L) (m := m) d (ed (s * 8 + (tx q).toNatClampNeg)).toNatClampNeg (q + 1) (rb_up kd nx m q (ed (s * 8 + (tx q).toNatClampNeg)).toNatClampNeg b)
          rw [if_neg (show ¬ L' ≤ q by omega), ← ht q (by omega), if_neg c3, if_neg c3]
          exact ih d' _ _ _ (by omega) (by omega) (by omega) (by omega) a5
theorem rb_tk_same {ed kd nx so tx tx' : Nat → Int32} {A L L' s m pos : Nat} (h1 : pos ≤ L) (h2 : pos ≤ L') (ht : ∀ i, i < pos → tx i = tx' i) (hs : s < pos) (h : (rb_tk ed kd nx so tx A L s m).1 ≤ pos) :
    rb_tk ed kd nx so tx' A L' s m = rb_tk ed kd nx so tx A L s m :=
  rb_sc_same h1 h2 ht _ _ _ _ _ (Nat.le_refl _) (Nat.le_refl _) (by omega) (by omega) h
theorem rb_sm_same {ed kd nx so tx tx' : Nat → Int32} {A L L' k pos : Nat} (h1 : pos ≤ L) (h2 : pos ≤ L') (ht : ∀ i, i < pos → tx i = tx' i)
    (hr : ∀ j, j < k → (rb_sm ed kd nx so tx A L j).1 < pos ∧ (rb_tk ed kd nx so tx A L (rb_sm ed kd nx so tx A L j).1 (rb_sm ed kd nx so tx A L j).2).1 ≤ pos) :
    ∀ i, i ≤ k → rb_sm ed kd nx so tx' A L' i = rb_sm ed kd nx so tx A L i := by
  intro i
  induction i with
  | zero => intro _; rfl
  | succ i ih =>
    intro hi
    have e1 := ih (by omega)
    have e2 := rb_tk_same (ed := ed) (kd := kd) (nx := nx) (so := so) (A := A) h1 h2 ht (hr i (by omega)).1 (hr i (by omega)).2
    show ((rb_tk ed kd nx so tx' A L' (rb_sm ed kd nx so tx' A L' i).1 (rb_sm ed kd nx so tx' A L' i).2).2.1, (rb_tk ed kd nx so tx' A L' (rb_sm ed kd nx so tx' A L' i).1 (rb_sm ed kd nx so tx' A L' i).2).2.2.2) = _
    rw [e1, e2]
    rfl
