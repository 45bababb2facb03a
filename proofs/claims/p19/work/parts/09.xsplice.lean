/-! the object's splice and stableCount -/
/-- the births in the cells -/
def rb_Bi (T e : Nat) (B : Nat → Nat) (tok : Nat → Int32) : Prop := ∀ i, i < T → tok (i * 6 + 5) = nI (B i) ∧ B i ≤ e
theorem rb_Seq_ch {ed kd nx so tx : Nat → Int32} {A L Z T : Nat} {S M : Nat → Nat} {K : Nat → Int32} {lk : Nat → Nat} (h : rb_Seq ed kd nx so tx A L Z T S M K lk) : ∀ i, i < T → S i < S (i + 1) := fun i hi => (h.2.2.2.2.2 i hi).2.2.1
section
variable {cap Q A Z L T e : Nat} {me : Int32} {ed kd nx so tx tl tok xM xR xB : Nat → Int32}
theorem rb_x68 {post : Int32 → St2 → Prop} {pos del n T' : Nat} {pk : Int32} {S M B S' M' : Nat → Nat} {K K' : Nat → Int32} {lk lk' : Nat → Nat} (hL : L ≤ cap) (hcap : cap ≤ 64) (hZ : Z ≤ 4) (he : e + 1 < 2 ^ 31)
    (hs0 : rb_Seq ed kd nx so tx A L Z T S M K lk) (hC0 : rb_Cut S M K lk T tok) (hB0 : rb_Bi T e B tok)
    (E' : rb_Env ed nx so (rb_nt tx (rb_sy pk) L pos del n) A (L - del + n) Q Z) (hs : rb_Seq ed kd nx so (rb_nt tx (rb_sy pk) L pos del n) A (L - del + n) Z T' S' M' K' lk')
    (hd : pos + del ≤ L) (hn : n ≤ 8) (hc : L - del + n ≤ cap)
    (hp : ∀ tl' tok' xM' xR' xB', rb_Cut S' M' K' lk' T' tok' → rb_Bi T' (e + 1) (fun i => rb_bn T S M (fun i => nI (rb_rc (S i) (lk i))) B pos del n e (S' i) (M' i)) tok' →
      post (nI (rb_fr (e + 1) (fun i => rb_bn T S M (fun i => nI (rb_rc (S i) (lk i))) B pos del n e (S' i) (M' i)) T')) (nI cap, nI Q, nI A, nI Z, nI (L - del + n), nI T', nI (M' T'), nI (e + 1), ed, kd, nx, so, rb_nt tx (rb_sy pk) L pos del n, tl', tok', xM', xR', xB')) :
    wX_splice_68 post (nI pos) (nI del) (nI n) pk (nI cap) (nI Q) (nI A) (nI Z) (nI L) (nI T) me (nI e) ed kd nx so tx tl tok xM xR xB := by
  have l3 := rb_Seq_ch hs0
  obtain ⟨t1, t2, t3, t4, t5, t6⟩ := hs0
  have hs' := hs
  obtain ⟨s1, s2, s3, s4, s5, s6⟩ := hs'
  refine pk_le (L - del + n) cap (fun _ => ?_) (fun z => absurd z (by omega)) (by rw [pk_sub (by omega), nI_add]) rfl
  refine rb_xrem (S := S) (M := M) (B := B) (R := fun i => nI (rb_rc (S i) (lk i))) (by omega) (fun i hi => ?_) (rb_ch_in l3) (fun xM' xR' xB' O => rb_xrep hd (by omega) (by omega) (fun tl' => rb_xcut E' hs (fun tok' hC => nm_r (nI_1 e) ?_)))
  · obtain ⟨o1, o2, o3, o4, o5⟩ := hC0 i hi
    obtain ⟨p1, p2⟩ := hB0 i hi
    have p7 := (t6 i hi).1
    exact ⟨o1, o4, o5, p1, by omega⟩
  · refine rb_xset (S' := S') (M' := M') O (rb_ch_in l3) (fun j hj => ?_) (fun j hj => (hB0 j hj).2) he (by omega) (by omega) (fun i hi => ?_) (fun tok'' g1 g2 => hp _ _ _ _ _ (fun j hj => ?_) (fun j hj => ⟨g2 j hj, rb_bn_le (fun j hj => (hB0 j hj).2)⟩))
    · have p5 := (t6 j hj).2.1
      omega
    · obtain ⟨o1, o2, o3, o4, o5⟩ := hC i hi
      obtain ⟨p1, p2, p3, p4⟩ := s6 i hi
      exact ⟨o1, o4, by omega, by omega, by omega⟩
    · have q0 : tok'' (j * 6) = tok' (j * 6) := g1 j hj 0 (by omega)
      rw [q0, g1 j hj 1 (by omega), g1 j hj 2 (by omega), g1 j hj 3 (by omega), g1 j hj 4 (by omega)]
      exact hC j hj
end
section
variable {cap Q A Z L T e : Nat} {ed kd nx so tx : Nat → Int32}
/-- a splice is refused, whatever stands in the object's own arrays, or executed -/
theorem rb_xsp {S M : Nat → Nat} {K : Nat → Int32} {lk : Nat → Nat} (hL : L ≤ cap) (hcap : cap ≤ 64) (he : e + 1 < 2 ^ 31) (E : rb_Env ed nx so tx A L Q Z) (hs0 : rb_Seq ed kd nx so tx A L Z T S M K lk) (v1 v2 v3 v4 : Int32) :
    (∃ r : Int32, ∀ (post : Int32 → St2 → Prop) (me : Int32) (tl tok xM xR xB : Nat → Int32), post r (nI cap, nI Q, nI A, nI Z, nI L, nI T, me, nI e, ed, kd, nx, so, tx, tl, tok, xM, xR, xB) → wpX_splice post (nI cap, nI Q, nI A, nI Z, nI L, nI T, me, nI e, ed, kd, nx, so, tx, tl, tok, xM, xR, xB) v1 v2 v3 v4) ∨
    (∃ pos del n : Nat, v1 = nI pos ∧ pos + del ≤ L ∧ n ≤ 8 ∧ L - del + n ≤ cap ∧ rb_Env ed nx so (rb_nt tx (rb_sy v4) L pos del n) A (L - del + n) Q Z ∧
      ∀ (T' : Nat) (S' M' : Nat → Nat) (K' : Nat → Int32) (lk' : Nat → Nat), rb_Seq ed kd nx so (rb_nt tx (rb_sy v4) L pos del n) A (L - del + n) Z T' S' M' K' lk' →
      ∀ (B : Nat → Nat) (post : Int32 → St2 → Prop) (me : Int32) (tl tok xM xR xB : Nat → Int32), rb_Cut S M K lk T tok → rb_Bi T e B tok →
      (∀ r tl' tok' xM' xR' xB', rb_Cut S' M' K' lk' T' tok' → rb_Bi T' (e + 1) (fun i => rb_bn T S M (fun i => nI (rb_rc (S i) (lk i))) B pos del n e (S' i) (M' i)) tok' →
        post r (nI cap, nI Q, nI A, nI Z, nI (L - del + n), nI T', nI (M' T'), nI (e + 1), ed, kd, nx, so, rb_nt tx (rb_sy v4) L pos del n, tl', tok', xM', xR', xB')) → wpX_splice post (nI cap, nI Q, nI A, nI Z, nI L, nI T, me, nI e, ed, kd, nx, so, tx, tl, tok, xM, xR, xB) v1 v2 v3 v4) := by
  have E' := E
  obtain ⟨E1, E2, E3, E4, E5, E6, E7, E8⟩ := E'
  by_cases a1 : v1 < 0
  · exact Or.inl ⟨-2, fun post me tl tok xM xR xB hp => br_t a1 hp⟩
  by_cases a2 : v1 ≤ nI L
  rotate_left
  · exact Or.inl ⟨-2, fun post me tl tok xM xR xB hp => br_f a1 (br_f a2 hp)⟩
  by_cases a3 : v2 < 0
  · exact Or.inl ⟨-2, fun post me tl tok xM xR xB hp => br_f a1 (br_t a2 (br_t a3 hp))⟩
  by_cases a4 : v2 ≤ nI L - v1
  rotate_left
  · exact Or.inl ⟨-2, fun post me tl tok xM xR xB hp => br_f a1 (br_t a2 (br_f a3 (br_f a4 hp)))⟩
  by_cases a5 : v3 < 0
  · exact Or.inl ⟨-2, fun post me tl tok xM xR xB hp => br_f a1 (br_t a2 (br_f a3 (br_t a4 (br_t a5 hp))))⟩
  by_cases a6 : v3 ≤ 8
  rotate_left
  · exact Or.inl ⟨-2, fun post me tl tok xM xR xB hp => br_f a1 (br_t a2 (br_f a3 (br_t a4 (br_f a5 (br_f a6 hp)))))⟩
  obtain ⟨pos, hpos, rfl⟩ := nI_of a1
  obtain ⟨del, hdel, rfl⟩ := nI_of a3
  obtain ⟨n, hn', rfl⟩ := nI_of a5
  have hp : pos ≤ L := (nI_leI hpos (by omega)).mp a2
  have a4' := a4
  rw [pk_sub hp] at a4'
  have hd' : del ≤ L - pos := (nI_leI hdel (by omega)).mp a4'
  have hd : pos + del ≤ L := by omega
  have hn : n ≤ 8 := (nI_leI (b := 8) hn' (by omega)).mp a6
  have bad : ∀ k, k < n → ¬ rb_sy v4 k < nI A → (∀ k, k < n → ∃ c, c < A ∧ rb_sy v4 k = nI c) → False := by
    intro j hj z hall
    obtain ⟨c, hc, ec⟩ := hall j hj
    exact z (by rw [ec]; exact nI_lt hc (by omega))
  by_cases hsy : ∀ k, k < n → ∃ c, c < A ∧ rb_sy v4 k = nI c
  rotate_left
  · refine Or.inl ⟨-2, fun post me tl tok xM xR xB hp => br_f a1 (br_t a2 (br_f a3 (br_t a4 (br_f a5 (br_t a6 (rb_xas E1 hn (fun z => absurd z hsy) (fun _ => br_t rfl hp)))))))⟩
  by_cases hz : del = 0 ∧ n = 0
  · obtain ⟨rfl, rfl⟩ := hz
    exact Or.inl ⟨0, fun post me tl tok xM xR xB hp => br_f a1 (br_t a2 (br_f a3 (br_t a4 (br_f a5 (br_t a6 (rb_xas E1 hn (fun _ => br_f (by decide) (br_t rfl (br_t rfl hp))) (fun ⟨j, hj, _⟩ => absurd hj (by omega))))))))⟩
  have go : ∀ {P : Prop} {R : Prop}, R → ((nI del = 0 → ((nI n = 0 → P) ∧ (¬ nI n = 0 → R))) ∧ (¬ nI del = 0 → R)) := fun r => pk_eq del 0 (fun z1 => pk_eq n 0 (fun z2 => absurd ⟨z1, z2⟩ hz) (fun _ => r)) (fun _ => r)
  by_cases hc : L - del + n ≤ cap
  · refine Or.inr ⟨pos, del, n, rfl, hd, hn, hc, ⟨E1, E2, E3, by omega, E5, E6, E7, rb_nt_in hd E8 hsy⟩, fun T' S' M' K' lk' hs B post me tl tok xM xR xB hC hB H => ?_⟩
    exact br_f a1 (br_t a2 (br_f a3 (br_t a4 (br_f a5 (br_t a6 (rb_xas E1 hn (fun _ => br_f (by decide) (go (rb_x68 hL hcap E3 he hs0 hC hB ⟨E1, E2, E3, by omega, E5, E6, E7, rb_nt_in hd E8 hsy⟩ hs hd hn hc (fun tl' tok' xM' xR' xB' h1 h2 => H _ _ _ _ _ _ h1 h2)))) (fun ⟨j, hj, z⟩ => absurd hsy (fun hall => bad j hj z hall))))))))
  · have ef : nI L - nI del + nI n = nI (L - del + n) := by rw [pk_sub (by omega), nI_add]
    have hf : ¬ nI L - nI del + nI n ≤ nI cap := by rw [ef]; exact nI_ge (by omega) (by omega)
    exact Or.inl ⟨-4, fun post me tl tok xM xR xB hp => br_f a1 (br_t a2 (br_f a3 (br_t a4 (br_f a5 (br_t a6 (rb_xas E1 hn (fun _ => br_f (by decide) (go (br_f hf hp))) (fun ⟨j, hj, z⟩ => absurd hsy (fun hall => bad j hj z hall))))))))⟩
theorem rb_xsc1 {post : Int32 → Prop} {me : Int32} {tl tok xM xR xB : Nat → Int32} {x : Int32} {i0 : Nat} {R : Nat → Int32} (hT : T ≤ 64) (hi : i0 ≤ T) (h1 : ∀ i, i < T → tok (i * 6 + 4) = R i) (h2 : ∀ i, i < i0 → R i ≤ x) (h3 : i0 < T → ¬ R i0 ≤ x) (hq : post (nI i0)) : ∃ f, wX_stableCount_17 post x (nI cap) (nI Q) (nI A) (nI Z) (nI L) (nI T) me (nI e) ed kd nx so tx tl tok xM xR xB f 0 := by
  refine pk_loop (fun f i (_ : Unit) => wX_stableCount_17 post x (nI cap) (nI Q) (nI A) (nI Z) (nI L) (nI T) me (nI e) ed kd nx so tx tl tok xM xR xB f (nI i)) (fun _ _ => True) i0 0 () (Nat.zero_le _) trivial ?_ ?_
  · intro f _ _
    refine pk_le T i0 (fun z => ?_) (fun z => ⟨pk_in (i0 * 6 + 4) 384 (by omega) (rb_i6 i0 4), ?_⟩)
    · have ei : i0 = T := by omega
      rw [ei] at hq
      exact hq
    · have a := rb_rd (a := tok) (rb_i6 i0 4) (by omega) (h1 i0 z)
      exact br_f (fun g => h3 z (a ▸ g)) hq
  · intro f i _ hi' _ hw
    have a := rb_rd (a := tok) (rb_i6 i 4) (by omega) (h1 i (by omega))
    exact pk_le T i (fun z => absurd z (by omega)) (fun _ => ⟨pk_in (i * 6 + 4) 384 (by omega) (rb_i6 i 4), br_t (a ▸ h2 i hi') (nm_r (nI_1 i) (hw () trivial))⟩)
theorem rb_xstb {S M : Nat → Nat} {K : Nat → Int32} {lk : Nat → Nat} (hL : L ≤ 64) (hT : T ≤ L) (v1 : Int32) : ∃ r : Int32, (∀ pos, v1 = nI pos → pos ≤ L → ∃ i0, i0 ≤ T ∧ r = nI i0 ∧ ∀ i, i < i0 → nI (rb_rc (S i) (lk i)) ≤ nI pos) ∧
    ∀ (post : Int32 → Prop) (me : Int32) (tl tok xM xR xB : Nat → Int32), rb_Cut S M K lk T tok → post r → wpX_stableCount post (nI cap, nI Q, nI A, nI Z, nI L, nI T, me, nI e, ed, kd, nx, so, tx, tl, tok, xM, xR, xB) v1 := by
  by_cases a1 : v1 < 0
  · exact ⟨-2, fun pos e1 hp => absurd a1 (by rw [e1]; exact nI_pos (by omega)), fun post me tl tok xM xR xB _ hp => br_t a1 hp⟩
  by_cases a2 : v1 ≤ nI L
  rotate_left
  · exact ⟨-2, fun pos e1 hp => absurd (by rw [e1]; exact nI_le hp (by omega)) a2, fun post me tl tok xM xR xB _ hp => br_f a1 (br_f a2 hp)⟩
  obtain ⟨i0, h1, h2, h3⟩ := rb_first (fun i => nI (rb_rc (S i) (lk i)) ≤ v1) T
  refine ⟨nI i0, fun pos e1 hp => ⟨i0, h1, rfl, fun i hi => ?_⟩, fun post me tl tok xM xR xB hC hp => br_f a1 (br_t a2 (rb_xsc1 (R := fun i => nI (rb_rc (S i) (lk i))) (by omega) h1 (fun i hi => (hC i hi).2.2.2.2) h2 h3 hp))⟩
  rw [← e1]
  exact h2 i hi
end
