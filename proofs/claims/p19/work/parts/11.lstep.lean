/-! the law's step: the picture, the stable prefix, the splice step -/
/-- the picture that both objects match -/
def rb_P (k cap Q A Z L T e : Nat) (ed kd nx so tx tok tok2 : Nat → Int32) (S M : Nat → Nat) (K : Nat → Int32) (lk B : Nat → Nat) : Prop :=
  (8 ≤ cap ∧ cap ≤ 64 ∧ 4 ≤ Q ∧ 2 ≤ A ∧ 1 ≤ Z ∧ L ≤ cap ∧ e ≤ k) ∧ rb_Env ed nx so tx A L Q Z ∧ (∀ i, ∃ c, c < 16 ∧ kd i = nI c) ∧ rb_Seq ed kd nx so tx A L Z T S M K lk ∧ rb_Cut S M K lk T tok ∧ rb_Cut S M K lk T tok2 ∧ rb_Bi T e B tok ∧ rb_Bi T e B tok2
theorem rb_rc_ge (s lk : Nat) : lk ≤ rb_rc s lk ∧ s + 1 ≤ rb_rc s lk := by
  unfold rb_rc
  by_cases h : lk ≤ s + 1
  · rw [if_pos h]; omega
  · rw [if_neg h]; omega
theorem rb_pre {ed kd nx so tx tx' : Nat → Int32} {A L L' Z T T' pos k0 : Nat} {S M S' M' : Nat → Nat} {K K' : Nat → Int32} {lk lk' : Nat → Nat} (hs : rb_Seq ed kd nx so tx A L Z T S M K lk) (hs' : rb_Seq ed kd nx so tx' A L' Z T' S' M' K' lk')
    (h1 : pos ≤ L) (h2 : pos ≤ L') (ht : ∀ i, i < pos → tx i = tx' i) (hk : k0 ≤ T) (hr : ∀ i, i < k0 → rb_rc (S i) (lk i) ≤ pos) :
    ∀ i, i ≤ k0 → i ≤ T' ∧ S' i = S i ∧ M' i = M i ∧ (∀ j, j < i → K' j = K j ∧ lk' j = lk j) := by
  obtain ⟨s1, s2, s3, s4, s5, s6⟩ := hs
  obtain ⟨t1, t2, t3, t4, t5, t6⟩ := hs'
  intro i
  induction i with
  | zero => intro _; exact ⟨Nat.zero_le _, t1.trans s1.symm, t2.trans s2.symm, lt_0⟩
  | succ i ih =>
    intro hi
    obtain ⟨a, b, c, d⟩ := ih (by omega)
    have r := hr i (by omega)
    obtain ⟨r1, r2⟩ := rb_rc_ge (S i) (lk i)
    have hiT : i < T' := by
      rcases Nat.lt_or_ge i T' with z | z
      · exact z
      · have ei : i = T' := by omega
        rw [ei] at b r2 r
        omega
    obtain ⟨_, _, _, g4⟩ := s6 i (by omega)
    obtain ⟨_, _, _, g4'⟩ := t6 i hiT
    rw [b, c] at g4'
    have e1 := rb_tk_same (ed := ed) (kd := kd) (nx := nx) (so := so) (A := A) (s := S i) (m := M i) h1 h2 ht (by omega) (by rw [g4]; show lk i ≤ pos; omega)
    rw [g4, g4'] at e1
    obtain ⟨q1, q2⟩ := Prod.mk.inj e1
    obtain ⟨q2, q3⟩ := Prod.mk.inj q2
    obtain ⟨q3, q4⟩ := Prod.mk.inj q3
    exact ⟨hiT, q2, q4, lt_s d ⟨q3, q1⟩⟩
section
variable {N kc ks : Nat} {xs : Nat → Int32} {post : Int32 → Prop} {J93 : Int32 → Int32 → Int32 → Int32 → Int32 → Int32 → Int32 → Int32 → Int32 → (Nat → Int32) → (Nat → Int32) → (Nat → Int32) → (Nat → Int32) → (Nat → Int32) → (Nat → Int32) → (Nat → Int32) → (Nat → Int32) → (Nat → Int32) → (Nat → Int32) → Int32 → Int32 → Int32 → Int32 → Int32 → Int32 → Int32 → Int32 → (Nat → Int32) → (Nat → Int32) → (Nat → Int32) → (Nat → Int32) → (Nat → Int32) → (Nat → Int32) → (Nat → Int32) → (Nat → Int32) → (Nat → Int32) → (Nat → Int32) → Prop} {x7 x8 : Int32}
variable {cap Q A Z L T e : Nat} {ed kd nx so tx tl tok xM xR xB tl2 tok2 xM2 xR2 xB2 : Nat → Int32} {S M : Nat → Nat}
theorem rb_l708 {J691 : Int32 → Prop} {x13 x15 x16 x17 x18 x19 yL yme ye : Int32} {tx1 : Nat → Int32} {i T1 : Nat} (hT1 : T1 ≤ 64) (hT : T ≤ 64) (hi1 : i < T1) (hi : i < T) (h : ∀ f, f < 6 → tok (i * 6 + f) = tok2 (i * 6 + f)) (hb : ¬ tok (i * 6 + 5) = x19 + 1) (hJ : J691 (nI (i + 1))) :
    ∃ f, wL_law_708 post N xs J93 J691 (nI Q) (nI A) (nI Z) x7 x8 x13 x15 x16 x17 x18 x19 (nI i) kc ks (nI cap) (nI Q) (nI A) (nI Z) yL (nI T1) yme ye ed kd nx so tx1 tl tok xM xR xB (nI cap) (nI Q) (nI A) (nI Z) (nI L) (nI T) (nI (M T)) (nI e) ed kd nx so tx tl2 tok2 xM2 xR2 xB2 f 0 := by
  refine pk_loop (fun f j (_ : Unit) => wL_law_708 post N xs J93 J691 (nI Q) (nI A) (nI Z) x7 x8 x13 x15 x16 x17 x18 x19 (nI i) kc ks (nI cap) (nI Q) (nI A) (nI Z) yL (nI T1) yme ye ed kd nx so tx1 tl tok xM xR xB (nI cap) (nI Q) (nI A) (nI Z) (nI L) (nI T) (nI (M T)) (nI e) ed kd nx so tx tl2 tok2 xM2 xR2 xB2 f (nI j)) (fun _ _ => True) 6 0 () (Nat.zero_le _) trivial ?_ ?_
  · intro f _ _
    exact pk_lt 5 6 (fun _ => rb_ztk (f := 5) hT1 hi1 (by omega) (br_f hb (nm_r (nI_1 i) hJ))) (fun z => absurd z (by omega))
  · intro f j _ hj _ hw
    exact pk_lt 5 j (fun z => absurd z (by omega)) (fun _ => rb_ztk hT1 hi1 hj (rb_ztk hT hi hj (br_t (h j hj) (nm_r (nI_1 j) (hw () trivial)))))
theorem rb_l691 {x13 x15 x16 x17 x19 yL yme ye : Int32} {tx1 : Nat → Int32} {k0 T1 : Nat} (hT1 : T1 ≤ 64) (hT : T ≤ 64) (hk1 : k0 ≤ T1) (hk : k0 ≤ T) (h : ∀ i, i < k0 → (∀ f, f < 6 → tok (i * 6 + f) = tok2 (i * 6 + f)) ∧ ¬ tok (i * 6 + 5) = x19 + 1)
    (H : wL_law_766 post N xs J93 (nI Q) (nI A) (nI Z) x7 x8 x13 x15 x16 x17 kc ks (nI cap) (nI Q) (nI A) (nI Z) yL (nI T1) yme ye ed kd nx so tx1 tl tok xM xR xB (nI cap) (nI Q) (nI A) (nI Z) (nI L) (nI T) (nI (M T)) (nI e) ed kd nx so tx tl2 tok2 xM2 xR2 xB2) :
    ∃ f, wL_law_691 post N xs J93 (nI Q) (nI A) (nI Z) x7 x8 x13 x15 x16 x17 (nI k0) x19 kc ks (nI cap) (nI Q) (nI A) (nI Z) yL (nI T1) yme ye ed kd nx so tx1 tl tok xM xR xB (nI cap) (nI Q) (nI A) (nI Z) (nI L) (nI T) (nI (M T)) (nI e) ed kd nx so tx tl2 tok2 xM2 xR2 xB2 f 0 := by
  refine pk_loop (fun f i (_ : Unit) => wL_law_691 post N xs J93 (nI Q) (nI A) (nI Z) x7 x8 x13 x15 x16 x17 (nI k0) x19 kc ks (nI cap) (nI Q) (nI A) (nI Z) yL (nI T1) yme ye ed kd nx so tx1 tl tok xM xR xB (nI cap) (nI Q) (nI A) (nI Z) (nI L) (nI T) (nI (M T)) (nI e) ed kd nx so tx tl2 tok2 xM2 xR2 xB2 f (nI i)) (fun _ _ => True) k0 0 () (Nat.zero_le _) trivial ?_ ?_
  · intro f _ _
    exact pk_le k0 k0 (fun _ => H) (fun z => absurd z (by omega))
  · intro f i _ hi _ hw
    exact pk_le k0 i (fun z => absurd z (by omega)) (fun _ => pk_lt 64 i (fun z => absurd z (by omega)) (fun _ => rb_l708 hT1 hT (by omega) (by omega) (h i hi).1 (h i hi).2 (hw () trivial)))
theorem rb_nxt {P : Int32 → Prop} {p : Int32} (h : ∀ r, P r) : wpL_next P () p := h _
theorem rb_xei {me : Int32} {P : Int32 → Prop} (h : P (nI e)) : wpX_edits P (nI cap, nI Q, nI A, nI Z, nI L, nI T, me, nI e, ed, kd, nx, so, tx, tl, tok, xM, xR, xB) := h
theorem rb_xtc {me : Int32} {P : Int32 → Prop} (h : P (nI T)) : wpX_tokenCount P (nI cap, nI Q, nI A, nI Z, nI L, nI T, me, nI e, ed, kd, nx, so, tx, tl, tok, xM, xR, xB) := h
theorem rb_xle {me : Int32} {P : Int32 → Prop} (h : P (nI L)) : wpX_length P (nI cap, nI Q, nI A, nI Z, nI L, nI T, me, nI e, ed, kd, nx, so, tx, tl, tok, xM, xR, xB) := h
theorem rb_l588 {J556 : Int32 → Int32 → Int32 → Prop} {x10 x11 x13 x15 x16 x17 z0 z1 : Int32} {j : Nat} (hz : ¬ z0 = 0) (h : ∀ y, J556 x11 y (nI (j + 1))) : wL_law_588 post N xs J93 J556 (nI Q) (nI A) (nI Z) x7 x8 x10 x11 x13 x15 x16 x17 (nI j) z0 z1 kc ks (nI cap) (nI Q) (nI A) (nI Z) (nI L) (nI T) (nI (M T)) (nI e) ed kd nx so tx tl tok xM xR xB (nI cap) (nI Q) (nI A) (nI Z) (nI L) (nI T) (nI (M T)) (nI e) ed kd nx so tx tl2 tok2 xM2 xR2 xB2 :=
  ⟨hz, nm_e (br_c (fun _ => br_c (fun _ => ⟨by decide, nm_e (nm_e (nm_r (nI_1 j) (h _)))⟩) (fun _ => nm_e (nm_r (nI_1 j) (h _)))) (fun _ => nm_e (nm_r (nI_1 j) (h _))))⟩
theorem rb_l556 {k : Nat} {K : Nat → Int32} {lk B : Nat → Nat} {x10 x13 x15 x16 : Int32} (hP : rb_P k cap Q A Z L T e ed kd nx so tx tok tok2 S M K lk B) (hk : k < 2 ^ 20)
    (HJ : ∀ (L T e : Nat) (ed kd nx so tx tl tok xM xR xB tl2 tok2 xM2 xR2 xB2 : Nat → Int32) (S M : Nat → Nat) (K : Nat → Int32) (lk B : Nat → Nat), rb_P (k + 1) cap Q A Z L T e ed kd nx so tx tok tok2 S M K lk B → J93 (nI (k + 1)) (nI cap) (nI Q) (nI A) (nI Z) (nI L) (nI T) (nI (M T)) (nI e) ed kd nx so tx tl tok xM xR xB (nI cap) (nI Q) (nI A) (nI Z) (nI L) (nI T) (nI (M T)) (nI e) ed kd nx so tx tl2 tok2 xM2 xR2 xB2) (x11 x17 : Int32) :
    ∃ f, wL_law_556 post N xs J93 (nI Q) (nI A) (nI Z) x7 (nI k) x10 x13 x15 x16 kc ks (nI cap) (nI Q) (nI A) (nI Z) (nI L) (nI T) (nI (M T)) (nI e) ed kd nx so tx tl tok xM xR xB (nI cap) (nI Q) (nI A) (nI Z) (nI L) (nI T) (nI (M T)) (nI e) ed kd nx so tx tl2 tok2 xM2 xR2 xB2 f x11 x17 0 := by
  obtain ⟨⟨c1, c2, c3, c4, c5, c6, c7⟩, E, hkd, hs, hC, hC2, hB, hB2⟩ := hP
  have E' := E
  obtain ⟨E1, E2, E3, E4, E5, E6, E7, E8⟩ := E'
  have hT : T ≤ L := hs.2.2.1
  refine pk_loop (fun f j (w : Int32 × Int32) => wL_law_556 post N xs J93 (nI Q) (nI A) (nI Z) x7 (nI k) x10 x13 x15 x16 kc ks (nI cap) (nI Q) (nI A) (nI Z) (nI L) (nI T) (nI (M T)) (nI e) ed kd nx so tx tl tok xM xR xB (nI cap) (nI Q) (nI A) (nI Z) (nI L) (nI T) (nI (M T)) (nI e) ed kd nx so tx tl2 tok2 xM2 xR2 xB2 f w.1 w.2 (nI j)) (fun _ _ => True) 8 0 (x11, x17) (Nat.zero_le _) trivial ?_ ?_
  · intro f w _
    refine pk_le 8 8 (fun _ => ?_) (fun z => absurd z (by omega))
    obtain ⟨r, hr1, hr2⟩ := rb_xstb (cap := cap) (Q := Q) (A := A) (Z := Z) (e := e) (ed := ed) (kd := kd) (nx := nx) (so := so) (tx := tx) (S := S) (M := M) (K := K) (lk := lk) E4 hT x13
    refine hr2 _ _ _ _ _ _ _ hC ?_
    rcases rb_xsp c6 c2 (show e + 1 < 2 ^ 31 by omega) E hs x13 x15 x16 w.2 with ⟨rr, H⟩ | ⟨pos, del, n, e1, hd, hn, hc, EE, H⟩
    · refine rb_xei (H _ _ _ _ _ _ _ (rb_xei (br_f ?_ ?_)))
      · rw [nI_1]
        intro z
        have := (nI_eq (by omega) (by omega)).mp z
        omega
      · unfold wL_law_766
        exact H _ _ _ _ _ _ _ (rb_l780 E hkd hs hC (HJ _ _ _ _ _ _ _ _ _ _ _ _ _ _ _ _ _ _ S M K lk B ⟨⟨c1, c2, c3, c4, c5, c6, by omega⟩, E, hkd, hs, hC, hC2, hB, hB2⟩))
    · obtain ⟨T', S', M', K', lk', hs'⟩ := rb_Seq_ex (kd := kd) EE (by omega)
      obtain ⟨i0, hi0, er, hrc⟩ := hr1 pos e1 (by omega)
      have hrc' : ∀ i, i < i0 → rb_rc (S i) (lk i) ≤ pos := fun i hi => by
        have q1 := (hs.2.2.2.2.2 i (by omega)).1
        have q2 := (hs.2.2.2.2.2 i (by omega)).2.2.2
        have q3 := rb_tk_lk (ed := ed) (kd := kd) (nx := nx) (so := so) (tx := tx) (A := A) (m := M i) q1
        rw [q2] at q3
        have q4 : lk i ≤ L + 1 := q3
        have q5 : rb_rc (S i) (lk i) ≤ L + 2 := by
          unfold rb_rc
          by_cases z : lk i ≤ S i + 1
          · rw [if_pos z]; omega
          · rw [if_neg z]; omega
        exact (nI_leI (by omega) (by omega)).mp (hrc i hi)
      have pre := rb_pre hs hs' (show pos ≤ L by omega) (show pos ≤ L - del + n by omega) (fun i hi => (rb_nt_1 hi).symm) hi0 hrc'
      have hT' : T' ≤ L - del + n := hs'.2.2.1
      subst er
      refine rb_xei (H T' S' M' K' lk' hs' B _ _ _ _ _ _ _ hC hB (fun r tl' tok' xM' xR' xB' hC' hB' => rb_xei (br_t (nI_1 e).symm (rb_xtc (br_t (nI_le (pre i0 (Nat.le_refl _)).1 (by omega)) (rb_l691 (by omega) (by omega) (pre i0 (Nat.le_refl _)).1 hi0 (fun i hi => ?_) ?_))))))
      · obtain ⟨p1, p2, p3, p4⟩ := pre (i + 1) (by omega)
        obtain ⟨u1, u2, u3, _⟩ := pre i (by omega)
        obtain ⟨p5, p6⟩ := p4 i (by omega)
        obtain ⟨y0, y1, y2, y3, y4⟩ := hC' i (by omega)
        obtain ⟨w0, w1, w2, w3, w4⟩ := hC2 i (by omega)
        obtain ⟨b1, b2⟩ := hB' i (by omega)
        obtain ⟨d1, d2⟩ := hB2 i (by omega)
        obtain ⟨r1, r2⟩ := rb_rc_ge (S i) (lk i)
        have r3 := hrc' i hi
        have hbn : rb_bn T S M (fun i => nI (rb_rc (S i) (lk i))) B pos del n e (S' i) (M' i) = B i :=
          rb_bn_s (rb_ch_in (rb_Seq_ch hs)) (by omega) ⟨u3.symm, Or.inl ⟨by omega, u2.symm, hrc i hi⟩⟩
        have b1' : tok' (i * 6 + 5) = nI (rb_bn T S M (fun i => nI (rb_rc (S i) (lk i))) B pos del n e (S' i) (M' i)) := b1
        rw [hbn] at b1'
        refine ⟨fun f hf => ?_, ?_⟩
        · match f, hf with
          | 0, _ => exact y0.trans ((congrArg nI u2).trans w0.symm)
          | 1, _ => exact y1.trans ((congrArg nI p2).trans w1.symm)
          | 2, _ => exact y2.trans (p5.trans w2.symm)
          | 3, _ => exact y3.trans ((congrArg nI u3).trans w3.symm)
          | 4, _ => exact y4.trans ((congrArg nI (by rw [u2, p6])).trans w4.symm)
          | 5, _ => exact b1'.trans d1.symm
        · rw [b1', nI_1]
          intro z
          have := (nI_eq (by omega) (by omega)).mp z
          omega
      · unfold wL_law_766
        refine H T' S' M' K' lk' hs' B _ _ _ _ _ _ _ hC2 hB2 (fun r tl2' tok2' xM2' xR2' xB2' hC2' hB2' => ?_)
        exact rb_l780 EE hkd hs' hC' (HJ _ _ _ _ _ _ _ _ _ _ _ _ _ _ _ _ _ _ S' M' K' lk' _ ⟨⟨c1, c2, c3, c4, c5, hc, by omega⟩, EE, hkd, hs', hC', hC2', hB', hB2'⟩)
  · intro f j w hj _ hw
    exact pk_le 8 j (fun z => absurd z (by omega)) (fun _ => rb_nxt (fun r => br_c (fun _ => rb_l588 (by decide) (fun y => hw (_, y) trivial)) (fun _ => rb_l588 (nI_ne0 (by omega) (by omega)) (fun y => hw (_, y) trivial))))
end
