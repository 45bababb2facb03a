/-! the law's loading of tables -/
theorem rb_P_tab {k cap Q A Z L T e : Nat} {ed kd nx so tx tok tok2 ed' kd' nx' so' : Nat → Int32} {S M : Nat → Nat} {K : Nat → Int32} {lk B : Nat → Nat} (hP : rb_P k cap Q A Z L T e ed kd nx so tx tok tok2 S M K lk B)
    (h1 : ∀ i, ed' i = -1 ∨ ∃ j, j < Q ∧ ed' i = nI j) (h2 : ∀ i, ∃ c, c < 16 ∧ kd' i = nI c) (h3 : ∀ i, nx' i = -1 ∨ ∃ j, j < Z ∧ nx' i = nI j) (h4 : ∀ i, ∃ j, j < Q ∧ so' i = nI j)
    (h : L ≠ 0 → ed' = ed ∧ kd' = kd ∧ nx' = nx ∧ so' = so) : rb_P k cap Q A Z L T e ed' kd' nx' so' tx tok tok2 S M K lk B := by
  by_cases hL : L = 0
  · obtain ⟨c, ⟨E1, E2, E3, E4, E5, E6, E7, E8⟩, hkd, ⟨s1, s2, s3, s4, s5, s6⟩, r⟩ := hP
    exact ⟨c, ⟨E1, E2, E3, E4, h1, h3, h4, E8⟩, h2, ⟨s1, s2, s3, s4, s5, fun i hi => absurd hi (by omega)⟩, r⟩
  · obtain ⟨rfl, rfl, rfl, rfl⟩ := h hL
    exact hP
section
variable {N kc ks : Nat} {xs : Nat → Int32} {post : Int32 → Prop} {J93 : Int32 → Int32 → Int32 → Int32 → Int32 → Int32 → Int32 → Int32 → Int32 → (Nat → Int32) → (Nat → Int32) → (Nat → Int32) → (Nat → Int32) → (Nat → Int32) → (Nat → Int32) → (Nat → Int32) → (Nat → Int32) → (Nat → Int32) → (Nat → Int32) → Int32 → Int32 → Int32 → Int32 → Int32 → Int32 → Int32 → Int32 → (Nat → Int32) → (Nat → Int32) → (Nat → Int32) → (Nat → Int32) → (Nat → Int32) → (Nat → Int32) → (Nat → Int32) → (Nat → Int32) → (Nat → Int32) → (Nat → Int32) → Prop} {x7 : Int32}
variable {cap Q A Z L T e k : Nat} {tx tl tok xM xR xB tl2 tok2 xM2 xR2 xB2 : Nat → Int32} {S M : Nat → Nat} {K : Nat → Int32} {lk B : Nat → Nat}
theorem rb_xse2 {me : Int32} {ed kd nx so : Nat → Int32} {v1 v2 v3 : Int32} {P : Int32 → St2 → Prop} (E : rb_Env ed nx so tx A L Q Z) (h : ∀ (r : Int32) (ed' : Nat → Int32), (∀ i, ed' i = -1 ∨ ∃ j, j < Q ∧ ed' i = nI j) → (L ≠ 0 → ed' = ed) →
    (∀ (post : Int32 → St2 → Prop) (me : Int32) (tl tok xM xR xB : Nat → Int32), post r (nI cap, nI Q, nI A, nI Z, nI L, nI T, me, nI e, ed', kd, nx, so, tx, tl, tok, xM, xR, xB) → wpX_setEdges post (nI cap, nI Q, nI A, nI Z, nI L, nI T, me, nI e, ed, kd, nx, so, tx, tl, tok, xM, xR, xB) v1 v2 v3) → P r (nI cap, nI Q, nI A, nI Z, nI L, nI T, me, nI e, ed', kd, nx, so, tx, tl, tok, xM, xR, xB)) : wpX_setEdges P (nI cap, nI Q, nI A, nI Z, nI L, nI T, me, nI e, ed, kd, nx, so, tx, tl, tok, xM, xR, xB) v1 v2 v3 := by
  obtain ⟨r, ed', a, b, H⟩ := rb_xse (cap := cap) (T := T) (e := e) (kd := kd) E v1 v2 v3
  exact H P _ _ _ _ _ _ (h r ed' a b H)
theorem rb_xac2 {me : Int32} {ed kd nx so : Nat → Int32} {v1 v2 v3 : Int32} {P : Int32 → St2 → Prop} (E : rb_Env ed nx so tx A L Q Z) (hk : ∀ i, ∃ c, c < 16 ∧ kd i = nI c) (h : ∀ (r : Int32) (kd' nx' : Nat → Int32), (∀ i, ∃ c, c < 16 ∧ kd' i = nI c) → (∀ i, nx' i = -1 ∨ ∃ j, j < Z ∧ nx' i = nI j) → (L ≠ 0 → kd' = kd ∧ nx' = nx) →
    (∀ (post : Int32 → St2 → Prop) (me : Int32) (tl tok xM xR xB : Nat → Int32), post r (nI cap, nI Q, nI A, nI Z, nI L, nI T, me, nI e, ed, kd', nx', so, tx, tl, tok, xM, xR, xB) → wpX_setAccept post (nI cap, nI Q, nI A, nI Z, nI L, nI T, me, nI e, ed, kd, nx, so, tx, tl, tok, xM, xR, xB) v1 v2 v3) → P r (nI cap, nI Q, nI A, nI Z, nI L, nI T, me, nI e, ed, kd', nx', so, tx, tl, tok, xM, xR, xB)) : wpX_setAccept P (nI cap, nI Q, nI A, nI Z, nI L, nI T, me, nI e, ed, kd, nx, so, tx, tl, tok, xM, xR, xB) v1 v2 v3 := by
  obtain ⟨r, kd', nx', a, b, c, H⟩ := rb_xac (cap := cap) (T := T) (e := e) (kd := kd) E hk v1 v2 v3
  exact H P _ _ _ _ _ _ (h r kd' nx' a b c H)
theorem rb_xso2 {me : Int32} {ed kd nx so : Nat → Int32} {v1 v2 : Int32} {P : Int32 → St2 → Prop} (E : rb_Env ed nx so tx A L Q Z) (h : ∀ (r : Int32) (so' : Nat → Int32), (∀ i, ∃ j, j < Q ∧ so' i = nI j) → (L ≠ 0 → so' = so) →
    (∀ (post : Int32 → St2 → Prop) (me : Int32) (tl tok xM xR xB : Nat → Int32), post r (nI cap, nI Q, nI A, nI Z, nI L, nI T, me, nI e, ed, kd, nx, so', tx, tl, tok, xM, xR, xB) → wpX_setStart post (nI cap, nI Q, nI A, nI Z, nI L, nI T, me, nI e, ed, kd, nx, so, tx, tl, tok, xM, xR, xB) v1 v2) → P r (nI cap, nI Q, nI A, nI Z, nI L, nI T, me, nI e, ed, kd, nx, so', tx, tl, tok, xM, xR, xB)) : wpX_setStart P (nI cap, nI Q, nI A, nI Z, nI L, nI T, me, nI e, ed, kd, nx, so, tx, tl, tok, xM, xR, xB) v1 v2 := by
  obtain ⟨r, so', a, b, H⟩ := rb_xso (cap := cap) (T := T) (e := e) (kd := kd) E v1 v2
  exact H P _ _ _ _ _ _ (h r so' a b H)
theorem rb_l780p {ed kd nx so : Nat → Int32} (hP : rb_P k cap Q A Z L T e ed kd nx so tx tok tok2 S M K lk B)
    (HJ : ∀ (L T e : Nat) (ed kd nx so tx tl tok xM xR xB tl2 tok2 xM2 xR2 xB2 : Nat → Int32) (S M : Nat → Nat) (K : Nat → Int32) (lk B : Nat → Nat), rb_P (k + 1) cap Q A Z L T e ed kd nx so tx tok tok2 S M K lk B → J93 (nI (k + 1)) (nI cap) (nI Q) (nI A) (nI Z) (nI L) (nI T) (nI (M T)) (nI e) ed kd nx so tx tl tok xM xR xB (nI cap) (nI Q) (nI A) (nI Z) (nI L) (nI T) (nI (M T)) (nI e) ed kd nx so tx tl2 tok2 xM2 xR2 xB2) :
    wL_law_780 post N xs J93 (nI Q) (nI A) (nI Z) x7 (nI k) kc ks (nI cap) (nI Q) (nI A) (nI Z) (nI L) (nI T) (nI (M T)) (nI e) ed kd nx so tx tl tok xM xR xB (nI cap) (nI Q) (nI A) (nI Z) (nI L) (nI T) (nI (M T)) (nI e) ed kd nx so tx tl2 tok2 xM2 xR2 xB2 := by
  obtain ⟨⟨c1, c2, c3, c4, c5, c6, c7⟩, E, hkd, hs, hC, hC2, hB, hB2⟩ := hP
  exact rb_l780 E hkd hs hC (HJ _ _ _ _ _ _ _ _ _ _ _ _ _ _ _ _ _ _ S M K lk B ⟨⟨c1, c2, c3, c4, c5, c6, by omega⟩, E, hkd, hs, hC, hC2, hB, hB2⟩)
theorem rb_l377 {ed kd nx : Nat → Int32}
    (HJ : ∀ (L T e : Nat) (ed kd nx so tx tl tok xM xR xB tl2 tok2 xM2 xR2 xB2 : Nat → Int32) (S M : Nat → Nat) (K : Nat → Int32) (lk B : Nat → Nat), rb_P (k + 1) cap Q A Z L T e ed kd nx so tx tok tok2 S M K lk B → J93 (nI (k + 1)) (nI cap) (nI Q) (nI A) (nI Z) (nI L) (nI T) (nI (M T)) (nI e) ed kd nx so tx tl tok xM xR xB (nI cap) (nI Q) (nI A) (nI Z) (nI L) (nI T) (nI (M T)) (nI e) ed kd nx so tx tl2 tok2 xM2 xR2 xB2) :
    ∀ (d i : Nat) (x11 : Int32) (so : Nat → Int32), i ≤ Z → Z - i < d → rb_P k cap Q A Z L T e ed kd nx so tx tok tok2 S M K lk B →
    wL_law_377 post N xs J93 (nI Q) (nI A) (nI Z) x7 (nI k) kc ks d x11 (nI i) (nI cap) (nI Q) (nI A) (nI Z) (nI L) (nI T) (nI (M T)) (nI e) ed kd nx so tx tl tok xM xR xB (nI cap) (nI Q) (nI A) (nI Z) (nI L) (nI T) (nI (M T)) (nI e) ed kd nx so tx tl2 tok2 xM2 xR2 xB2 := by
  intro d
  induction d with
  | zero => intro i x11 so h1 h2 _; omega
  | succ d ih =>
    intro i x11 so h1 h2 hP
    have hP' := hP
    obtain ⟨⟨c1, c2, c3, c4, c5, c6, c7⟩, E, hkd, hs, hC, hC2, hB, hB2⟩ := hP'
    have E' := E
    obtain ⟨E1, E2, E3, E4, E5, E6, E7, E8⟩ := E'
    have hQ0 : ¬ nI Q = 0 := nI_ne0 (by omega) (by omega)
    exact pk_le Z i (fun _ => rb_l780p hP HJ) (fun hi => rb_nxt (fun r => ⟨hQ0, rb_xso2 E (fun r' so' g1 g2 H => ⟨hQ0, H _ _ _ _ _ _ _ (nm_r (nI_1 i) (ih (i + 1) r so' (by omega) (by omega) (rb_P_tab hP E5 hkd E6 g1 (fun z => ⟨rfl, rfl, rfl, g2 z⟩))))⟩)⟩))
theorem rb_l220 {J167 : Int32 → Int32 → Int32 → Int32 → Int32 → Int32 → Int32 → Int32 → Int32 → Int32 → (Nat → Int32) → (Nat → Int32) → (Nat → Int32) → (Nat → Int32) → (Nat → Int32) → (Nat → Int32) → (Nat → Int32) → (Nat → Int32) → (Nat → Int32) → (Nat → Int32) → Int32 → Int32 → Int32 → Int32 → Int32 → Int32 → Int32 → Int32 → (Nat → Int32) → (Nat → Int32) → (Nat → Int32) → (Nat → Int32) → (Nat → Int32) → (Nat → Int32) → (Nat → Int32) → (Nat → Int32) → (Nat → Int32) → (Nat → Int32) → Prop} {i : Nat} {x14 : Int32} (HJ7 : ∀ (x11 : Int32) (ed kd nx so : Nat → Int32), rb_P k cap Q A Z L T e ed kd nx so tx tok tok2 S M K lk B → J167 x11 (nI (i + 1)) (nI cap) (nI Q) (nI A) (nI Z) (nI L) (nI T) (nI (M T)) (nI e) ed kd nx so tx tl tok xM xR xB (nI cap) (nI Q) (nI A) (nI Z) (nI L) (nI T) (nI (M T)) (nI e) ed kd nx so tx tl2 tok2 xM2 xR2 xB2) :
    ∀ (x11 : Int32) (ed kd nx so : Nat → Int32), rb_P k cap Q A Z L T e ed kd nx so tx tok tok2 S M K lk B →
    ∃ f, wL_law_220 post N xs J93 J167 (nI Q) (nI A) (nI Z) x7 (nI k) (nI i) x14 kc ks f x11 0 (nI cap) (nI Q) (nI A) (nI Z) (nI L) (nI T) (nI (M T)) (nI e) ed kd nx so tx tl tok xM xR xB (nI cap) (nI Q) (nI A) (nI Z) (nI L) (nI T) (nI (M T)) (nI e) ed kd nx so tx tl2 tok2 xM2 xR2 xB2 := by
  obtain ⟨w, w1, w2⟩ : ∃ w : Nat, (∀ j, j < w → ¬ x14 ≤ nI j) ∧ x14 ≤ nI w := by
    by_cases h : x14 < 0
    · exact ⟨0, fun j hj => absurd hj (by omega), Int32.le_of_lt h⟩
    · obtain ⟨w, hw, rfl⟩ := nI_of h
      exact ⟨w, fun j hj => nI_ge hj hw, nI_le (Nat.le_refl _) hw⟩
  have G : ∀ (d j : Nat) (x11 : Int32) (ed kd nx so : Nat → Int32), j + d = w → rb_P k cap Q A Z L T e ed kd nx so tx tok tok2 S M K lk B →
      wL_law_220 post N xs J93 J167 (nI Q) (nI A) (nI Z) x7 (nI k) (nI i) x14 kc ks (d + 1) x11 (nI j) (nI cap) (nI Q) (nI A) (nI Z) (nI L) (nI T) (nI (M T)) (nI e) ed kd nx so tx tl tok xM xR xB (nI cap) (nI Q) (nI A) (nI Z) (nI L) (nI T) (nI (M T)) (nI e) ed kd nx so tx tl2 tok2 xM2 xR2 xB2 := by
    intro d
    induction d with
    | zero =>
      intro j x11 ed kd nx so hj hP
      have hP' := hP
      obtain ⟨⟨c1, c2, c3, c4, c5, c6, c7⟩, E, hkd, hs, hC, hC2, hB, hB2⟩ := hP'
      have E' := E
      obtain ⟨E1, E2, E3, E4, E5, E6, E7, E8⟩ := E'
      have ej : j = w := by omega
      have hZ0 : ¬ nI Z + 1 = 0 := by rw [nI_1]; exact nI_ne0 (by omega) (by omega)
      have H3 : ∀ y z : Int32, wL_law_323 post N xs J93 J167 (nI Q) (nI A) (nI Z) x7 (nI k) y (nI i) z kc ks (nI cap) (nI Q) (nI A) (nI Z) (nI L) (nI T) (nI (M T)) (nI e) ed kd nx so tx tl tok xM xR xB (nI cap) (nI Q) (nI A) (nI Z) (nI L) (nI T) (nI (M T)) (nI e) ed kd nx so tx tl2 tok2 xM2 xR2 xB2 := fun y z =>
        rb_nxt (fun r => ⟨hZ0, nm_e (rb_xac2 E hkd (fun r' kd' nx' g1 g2 g3 H => H _ _ _ _ _ _ _ (nm_r (nI_1 i) (HJ7 r ed kd' nx' so (rb_P_tab hP E5 g1 g2 E7 (fun z => ⟨rfl, (g3 z).1, (g3 z).2, rfl⟩))))))⟩)
      exact br_t (by rw [ej]; exact w2) (rb_nxt (fun r => ⟨by decide, nm_e (br_c (fun _ => H3 _ _) (fun _ => H3 _ _))⟩))
    | succ d ih =>
      intro j x11 ed kd nx so hj hP
      have hP' := hP
      obtain ⟨⟨c1, c2, c3, c4, c5, c6, c7⟩, E, hkd, hs, hC, hC2, hB, hB2⟩ := hP'
      have E' := E
      obtain ⟨E1, E2, E3, E4, E5, E6, E7, E8⟩ := E'
      have hQ0 : ¬ nI Q = 0 := nI_ne0 (by omega) (by omega)
      have hA0 : ¬ (((1 : Int32) <<< (nI A &&& 31)) - 1) = 0 := rb_sh A c4 E1
      exact br_f (w1 j (by omega)) (rb_nxt (fun r => ⟨hA0, nm_e (rb_nxt (fun r2 => ⟨hQ0, nm_e (rb_xse2 E (fun r' ed' g1 g2 H => H _ _ _ _ _ _ _ (nm_r (nI_1 j) (ih (j + 1) r2 ed' kd nx so (by omega) (rb_P_tab hP g1 hkd E6 E7 (fun z => ⟨g2 z, rfl, rfl, rfl⟩))))))⟩))⟩))
  intro x11 ed kd nx so hP
  exact ⟨w + 1, G w 0 x11 ed kd nx so (by omega) hP⟩
theorem rb_l167
    (HJ : ∀ (L T e : Nat) (ed kd nx so tx tl tok xM xR xB tl2 tok2 xM2 xR2 xB2 : Nat → Int32) (S M : Nat → Nat) (K : Nat → Int32) (lk B : Nat → Nat), rb_P (k + 1) cap Q A Z L T e ed kd nx so tx tok tok2 S M K lk B → J93 (nI (k + 1)) (nI cap) (nI Q) (nI A) (nI Z) (nI L) (nI T) (nI (M T)) (nI e) ed kd nx so tx tl tok xM xR xB (nI cap) (nI Q) (nI A) (nI Z) (nI L) (nI T) (nI (M T)) (nI e) ed kd nx so tx tl2 tok2 xM2 xR2 xB2) :
    ∀ (d i : Nat) (x11 : Int32) (ed kd nx so : Nat → Int32), i ≤ Q → Q - i < d → rb_P k cap Q A Z L T e ed kd nx so tx tok tok2 S M K lk B →
    wL_law_167 post N xs J93 (nI Q) (nI A) (nI Z) x7 (nI k) kc ks d x11 (nI i) (nI cap) (nI Q) (nI A) (nI Z) (nI L) (nI T) (nI (M T)) (nI e) ed kd nx so tx tl tok xM xR xB (nI cap) (nI Q) (nI A) (nI Z) (nI L) (nI T) (nI (M T)) (nI e) ed kd nx so tx tl2 tok2 xM2 xR2 xB2 := by
  intro d
  induction d with
  | zero => intro i x11 ed kd nx so h1 h2 _; omega
  | succ d ih =>
    intro i x11 ed kd nx so h1 h2 hP
    have hP' := hP
    obtain ⟨⟨c1, c2, c3, c4, c5, c6, c7⟩, E, hkd, hs, hC, hC2, hB, hB2⟩ := hP'
    have E' := E
    obtain ⟨E1, E2, E3, E4, E5, E6, E7, E8⟩ := E'
    refine pk_le Q i (fun _ => ⟨Z + 1, rb_l377 HJ (Z + 1) 0 x11 so (Nat.zero_le _) (by omega) hP⟩) (fun hi => rb_xse2 E (fun r ed' g1 g2 H => H _ _ _ _ _ _ _ (rb_nxt (fun r' => ⟨by decide, nm_e ?_⟩))))
    exact rb_l220 (fun y ed kd nx so hP' => ih (i + 1) y ed kd nx so (by omega) (by omega) hP') r' ed' kd nx so (rb_P_tab hP g1 hkd E6 E7 (fun z => ⟨g2 z, rfl, rfl, rfl⟩))
end
