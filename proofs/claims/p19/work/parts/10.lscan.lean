/-! the law's own scan of the text -/
section
variable {N kc ks : Nat} {xs : Nat → Int32} {post : Int32 → Prop} {J93 : Int32 → Int32 → Int32 → Int32 → Int32 → Int32 → Int32 → Int32 → Int32 → (Nat → Int32) → (Nat → Int32) → (Nat → Int32) → (Nat → Int32) → (Nat → Int32) → (Nat → Int32) → (Nat → Int32) → (Nat → Int32) → (Nat → Int32) → (Nat → Int32) → Int32 → Int32 → Int32 → Int32 → Int32 → Int32 → Int32 → Int32 → (Nat → Int32) → (Nat → Int32) → (Nat → Int32) → (Nat → Int32) → (Nat → Int32) → (Nat → Int32) → (Nat → Int32) → (Nat → Int32) → (Nat → Int32) → (Nat → Int32) → Prop} {x7 x8 : Int32}
variable {cap Q A Z L T e : Nat} {ed kd nx so tx tl tok xM xR xB tl2 tok2 xM2 xR2 xB2 : Nat → Int32} {S M : Nat → Nat}
theorem rb_l853 {J796 : Int32 → Int32 → Int32 → Prop} {J835 : Int32 → Int32 → Int32 → Int32 → Int32 → Int32 → Prop} {x14 x15 x16 x19 x20 x21 : Int32} {s q g : Nat} (E : rb_Env ed nx so tx A L Q Z) (hk : ∀ i, ∃ c, c < 16 ∧ kd i = nI c) (hs : s < Q) (hq : q ≤ L)
    (H1 : rb_he ed s A = false → J835 (nI q) (nI s) x19 x20 (nI q) (nI (g + 1)))
    (H2 : rb_he ed s A = true → L ≤ q → J835 (nI q) (nI s) x19 x20 (nI (q + 1)) (nI (g + 1)))
    (H3 : rb_he ed s A = true → ∀ c, q < L → c < A → tx q = nI c → ed (s * 8 + c) = -1 → J835 (nI q) (nI s) x19 x20 (nI (q + 1)) (nI (g + 1)))
    (H4 : rb_he ed s A = true → ∀ c j, q < L → c < A → tx q = nI c → j < Q → ed (s * 8 + c) = nI j → (kd j = 0 → J835 (nI (q + 1)) (nI j) x19 x20 x21 (nI (g + 1))) ∧ (¬ kd j = 0 → J835 (nI (q + 1)) (nI j) (nI (q + 1)) (nI j) x21 (nI (g + 1)))) :
    ∃ f, wL_law_853 post N xs J93 J796 J835 (nI Q) (nI A) (nI Z) x7 x8 (nI L) x14 x15 x16 (nI q) (nI s) x19 x20 x21 (nI g) kc ks (nI cap) (nI Q) (nI A) (nI Z) (nI L) (nI T) (nI (M T)) (nI e) ed kd nx so tx tl tok xM xR xB (nI cap) (nI Q) (nI A) (nI Z) (nI L) (nI T) (nI (M T)) (nI e) ed kd nx so tx tl2 tok2 xM2 xR2 xB2 f 1 0 := by
  obtain ⟨E1, E2, E3, E4, E5, E6, E7, E8⟩ := E
  refine pk_loop (fun f c (x : Int32) => wL_law_853 post N xs J93 J796 J835 (nI Q) (nI A) (nI Z) x7 x8 (nI L) x14 x15 x16 (nI q) (nI s) x19 x20 x21 (nI g) kc ks (nI cap) (nI Q) (nI A) (nI Z) (nI L) (nI T) (nI (M T)) (nI e) ed kd nx so tx tl tok xM xR xB (nI cap) (nI Q) (nI A) (nI Z) (nI L) (nI T) (nI (M T)) (nI e) ed kd nx so tx tl2 tok2 xM2 xR2 xB2 f x (nI c))
    (fun c x => (x = 1 ∧ ∀ c', c' < c → ed (s * 8 + c') = -1) ∨ (x = 0 ∧ rb_he ed s A = true)) A 0 1 (Nat.zero_le _) (Or.inl ⟨rfl, lt_0⟩) ?_ ?_
  · intro f x h
    refine pk_le A A (fun _ => ?_) (fun z => absurd z (by omega))
    rcases h with ⟨rfl, h⟩ | ⟨rfl, he⟩
    · exact br_f (by decide) (br_f (by decide) (nm_r (nI_1 g) (H1 (rb_he_f A h))))
    · refine br_t rfl (pk_lt q L (fun hL => ?_) (fun hL => br_t rfl (br_f (by decide) (nm_r (nI_1 q) (nm_r (nI_1 g) (H2 he hL))))))
      obtain ⟨c, hc, ec⟩ := E8 q hL
      refine rb_xsa E4 hL ?_
      rw [ec]
      refine rb_xed E2 E1 hs hc ?_
      rcases E5 (s * 8 + c) with h | ⟨j, hj, ej⟩
      · rw [h]
        exact br_t rfl (br_f (by decide) (nm_r (nI_1 q) (nm_r (nI_1 g) (H3 he c hL hc ec h))))
      · rw [ej]
        obtain ⟨h0, h1⟩ := H4 he c j hL hc ec hj ej
        refine br_t rfl (br_t (nI_pos' (by omega)) (nm_r (nI_1 q) (rb_xak E2 hj ?_)))
        obtain ⟨w, hw, ew⟩ := hk j
        by_cases hz : kd j = 0
        · exact br_t (by rw [hz]; decide) (nm_r (nI_1 g) (h0 hz))
        · refine br_f ?_ (nm_r (nI_1 g) (h1 hz))
          rw [ew] at hz ⊢
          exact nI_nle (Nat.pos_of_ne_zero (fun z => hz (by rw [z]; rfl))) (by omega)
  · intro f c x hc h hw
    refine pk_le A c (fun z => absurd z (by omega)) (fun _ => rb_xed E2 E1 hs hc ?_)
    rcases E5 (s * 8 + c) with h1 | ⟨j, hj, ej⟩
    · rw [h1]
      refine br_t (by decide) (nm_r (nI_1 c) (hw x ?_))
      rcases h with ⟨rfl, h⟩ | h
      · exact Or.inl ⟨rfl, lt_s h h1⟩
      · exact Or.inr h
    · rw [ej]
      exact br_f (nI_pos (by omega)) (nm_r (nI_1 c) (hw 0 (Or.inr ⟨rfl, rb_he_t (by rw [ej]; exact rb_m1 (by omega)) A hc⟩)))
/-- the law's bestEnd and bestState against (END, KIND, mode after) -/
def rb_Bl (kd nx : Nat → Int32) (Q s m : Nat) (x19 x20 : Int32) (b : Nat × Int32 × Nat) : Prop :=
  (x19 = -1 ∧ b = (s + 1, 0, m)) ∨ (∃ t en, t < Q ∧ en < 2 ^ 31 ∧ x20 = nI t ∧ x19 = nI en ∧ b = (en, kd t, rb_af nx m t))
theorem rb_l835e {J796 : Int32 → Int32 → Int32 → Prop} {x13 x14 x15 x16 x17 x18 x19 x20 x22 : Int32} {lk n : Nat} (hlk : lk < 2 ^ 31) (H : wL_law_969 post N xs J93 J796 (nI Q) (nI A) (nI Z) x7 x8 x13 x14 x15 x16 x19 x20 (nI lk) kc ks (nI cap) (nI Q) (nI A) (nI Z) (nI L) (nI T) (nI (M T)) (nI e) ed kd nx so tx tl tok xM xR xB (nI cap) (nI Q) (nI A) (nI Z) (nI L) (nI T) (nI (M T)) (nI e) ed kd nx so tx tl2 tok2 xM2 xR2 xB2) :
    wL_law_835 post N xs J93 J796 (nI Q) (nI A) (nI Z) x7 x8 x13 x14 x15 x16 kc ks (nI cap) (nI Q) (nI A) (nI Z) (nI L) (nI T) (nI (M T)) (nI e) ed kd nx so tx tl tok xM xR xB (nI cap) (nI Q) (nI A) (nI Z) (nI L) (nI T) (nI (M T)) (nI e) ed kd nx so tx tl2 tok2 xM2 xR2 xB2 (n + 1) x17 x18 x19 x20 (nI lk) x22 :=
  br_c (fun _ => H) (fun _ => br_t (nI_pos' hlk) H)
theorem rb_l835 {J796 : Int32 → Int32 → Int32 → Prop} {x14 x15 x16 : Int32} {s0 m : Nat} (E : rb_Env ed nx so tx A L Q Z) (hk : ∀ i, ∃ c, c < 16 ∧ kd i = nI c) : ∀ (d s q g : Nat) (b : Nat × Int32 × Nat) (x19 x20 : Int32), q ≤ L → L + 1 - q ≤ d → s < Q → g + s0 = q → rb_Bl kd nx Q s0 m x19 x20 b →
    (∀ (x19' x20' : Int32), rb_Bl kd nx Q s0 m x19' x20' (rb_sc ed kd nx tx A L m d s q b).2 → wL_law_969 post N xs J93 J796 (nI Q) (nI A) (nI Z) x7 x8 (nI L) x14 x15 x16 x19' x20' (nI (rb_sc ed kd nx tx A L m d s q b).1) kc ks (nI cap) (nI Q) (nI A) (nI Z) (nI L) (nI T) (nI (M T)) (nI e) ed kd nx so tx tl tok xM xR xB (nI cap) (nI Q) (nI A) (nI Z) (nI L) (nI T) (nI (M T)) (nI e) ed kd nx so tx tl2 tok2 xM2 xR2 xB2) →
    wL_law_835 post N xs J93 J796 (nI Q) (nI A) (nI Z) x7 x8 (nI L) x14 x15 x16 kc ks (nI cap) (nI Q) (nI A) (nI Z) (nI L) (nI T) (nI (M T)) (nI e) ed kd nx so tx tl tok xM xR xB (nI cap) (nI Q) (nI A) (nI Z) (nI L) (nI T) (nI (M T)) (nI e) ed kd nx so tx tl2 tok2 xM2 xR2 xB2 (d + 1) (nI q) (nI s) x19 x20 (-1) (nI g) := by
  have E' := E
  obtain ⟨E1, E2, E3, E4, E5, E6, E7, E8⟩ := E'
  intro d
  induction d with
  | zero => intro s q g b x19 x20 h1 h2 _ _ _ _; omega
  | succ d ih =>
    intro s q g b x19 x20 hq hd hs hg hb H
    refine pk_lt 65 g (fun z => absurd z (by omega)) (fun _ => br_f (by decide) (rb_l853 E hk hs hq (fun he => ?_) (fun he hL => ?_) (fun he c hL hc ec h => ?_) (fun he c j hL hc ec hj ej => ?_)))
    · rw [rb_sc1 he] at H
      exact rb_l835e (by omega) (H x19 x20 hb)
    · rw [rb_sc2 he hL] at H
      exact rb_l835e (by omega) (H x19 x20 hb)
    · have hcl : (tx q).toNatClampNeg = c := by rw [ec, nI_clamp (by omega)]
      rw [rb_sc3 he hL hcl h] at H
      exact rb_l835e (by omega) (H x19 x20 hb)
    · have hcl : (tx q).toNatClampNeg = c := by rw [ec, nI_clamp (by omega)]
      rw [rb_sc4 he hL hcl (by omega) ej] at H
      refine ⟨fun hz => ?_, fun hz => ?_⟩
      · rw [rb_up_0 hz] at H
        exact ih j (q + 1) (g + 1) b x19 x20 (by omega) (by omega) hj (by omega) hb H
      · rw [rb_up_1 hz] at H
        exact ih j (q + 1) (g + 1) (q + 1, kd j, rb_af nx m j) (nI (q + 1)) (nI j) (by omega) (by omega) hj (by omega) (Or.inr ⟨j, q + 1, hj, by omega, rfl, rfl, rfl⟩) H
theorem rb_l1039 {J796 : Int32 → Int32 → Int32 → Prop} {x13 x14 x15 x22 x23 x24 z0 : Int32} {i : Nat} (hT : T ≤ 64) (hi : i < T) (h0 : tok (i * 6) = x14) (h1 : tok (i * 6 + 1) = x23) (h2 : tok (i * 6 + 2) = x24) (h3 : tok (i * 6 + 3) = x15) (h4 : tok (i * 6 + 4) = x22)
    (hz0 : z0 < 0 → J796 x23 x15 (nI (i + 1))) (hz1 : ¬ z0 < 0 → J796 x23 z0 (nI (i + 1))) : wL_law_1039 post N xs J93 J796 (nI Q) (nI A) (nI Z) x7 x8 x13 x14 x15 (nI i) x22 x23 x24 z0 kc ks (nI cap) (nI Q) (nI A) (nI Z) (nI L) (nI T) (nI (M T)) (nI e) ed kd nx so tx tl tok xM xR xB (nI cap) (nI Q) (nI A) (nI Z) (nI L) (nI T) (nI (M T)) (nI e) ed kd nx so tx tl2 tok2 xM2 xR2 xB2 := by
  unfold wL_law_1039
  refine rb_xtk (f := 0) hT hi (by omega) (br_t h0 ?_)
  refine rb_xtk (f := 1) hT hi (by omega) (br_t h1 ?_)
  refine rb_xtk (f := 2) hT hi (by omega) (br_t h2 ?_)
  refine rb_xtk (f := 3) hT hi (by omega) (br_t h3 ?_)
  refine rb_xtk (f := 4) hT hi (by omega) (br_t h4 ?_)
  exact br_c (fun z => nm_r (nI_1 i) (hz0 z)) (fun z => nm_r (nI_1 i) (hz1 z))
theorem rb_l987 {J796 : Int32 → Int32 → Int32 → Prop} {x13 x19 x20 z0 : Int32} {i s m en af : Nat} {k : Int32} (E : rb_Env ed nx so tx A L Q Z) (hT : T ≤ 64) (hi : i < T) (hm : m < Z) (h0 : tok (i * 6) = nI s) (h1 : tok (i * 6 + 1) = nI en) (h2 : tok (i * 6 + 2) = k) (h3 : tok (i * 6 + 3) = nI m) (h4 : tok (i * 6 + 4) = z0)
    (hb : rb_Bl kd nx Q s m x19 x20 (en, k, af)) (hJ : J796 (nI en) (nI af) (nI (i + 1))) : wL_law_987 post N xs J93 J796 (nI Q) (nI A) (nI Z) x7 x8 x13 (nI s) (nI m) (nI i) x19 x20 z0 kc ks (nI cap) (nI Q) (nI A) (nI Z) (nI L) (nI T) (nI (M T)) (nI e) ed kd nx so tx tl tok xM xR xB (nI cap) (nI Q) (nI A) (nI Z) (nI L) (nI T) (nI (M T)) (nI e) ed kd nx so tx tl2 tok2 xM2 xR2 xB2 := by
  obtain ⟨E1, E2, E3, E4, E5, E6, E7, E8⟩ := E
  rcases hb with ⟨rfl, hb⟩ | ⟨t, en', ht, hen, rfl, rfl, hb⟩
  · obtain ⟨rfl, rfl, rfl⟩ : en = s + 1 ∧ k = 0 ∧ af = m := by
      obtain ⟨a, b⟩ := Prod.mk.inj hb
      obtain ⟨b, c⟩ := Prod.mk.inj b
      exact ⟨a, b, c⟩
    refine br_f (by decide) (br_f (by decide) (br_f (by decide) ?_))
    refine rb_l1039 hT hi h0 (h1.trans (nI_1 s).symm) h2 h3 h4 (fun _ => ?_) (fun z => absurd (by decide) z)
    rw [nI_1]
    exact hJ
  · obtain ⟨rfl, rfl, rfl⟩ : en = en' ∧ k = kd t ∧ af = rb_af nx m t := by
      obtain ⟨a, b⟩ := Prod.mk.inj hb
      obtain ⟨b, c⟩ := Prod.mk.inj b
      exact ⟨a, b, c⟩
    have hp : (0 : Int32) ≤ nI en := nI_pos' hen
    refine br_t hp (br_t hp (rb_xak E2 ht (br_t hp (rb_xam E2 ht ?_))))
    refine rb_l1039 hT hi h0 h1 h2 h3 h4 (fun z => ?_) (fun z => ?_)
    · by_cases hn : nx t = -1
      · rw [rb_af_s hn] at hJ
        exact hJ
      · rw [rb_af_nI (m := m) E3 E6 hn] at z
        have := rb_af_lt (s := t) E3 E6 hm
        exact absurd z (nI_pos (by omega))
    · by_cases hn : nx t = -1
      · rw [hn] at z
        exact absurd (by decide) z
      · rw [rb_af_nI (m := m) E3 E6 hn]
        exact hJ
theorem rb_l969 {J796 : Int32 → Int32 → Int32 → Prop} {x13 x19 x20 : Int32} {i s m en af lk : Nat} {k : Int32} (E : rb_Env ed nx so tx A L Q Z) (hT : T ≤ 64) (hi : i < T) (hm : m < Z) (hs : s < 64) (hlk : lk < 2 ^ 31) (h0 : tok (i * 6) = nI s) (h1 : tok (i * 6 + 1) = nI en) (h2 : tok (i * 6 + 2) = k) (h3 : tok (i * 6 + 3) = nI m) (h4 : tok (i * 6 + 4) = nI (rb_rc s lk))
    (hb : rb_Bl kd nx Q s m x19 x20 (en, k, af)) (hJ : J796 (nI en) (nI af) (nI (i + 1))) : wL_law_969 post N xs J93 J796 (nI Q) (nI A) (nI Z) x7 x8 x13 (nI s) (nI m) (nI i) x19 x20 (nI lk) kc ks (nI cap) (nI Q) (nI A) (nI Z) (nI L) (nI T) (nI (M T)) (nI e) ed kd nx so tx tl tok xM xR xB (nI cap) (nI Q) (nI A) (nI Z) (nI L) (nI T) (nI (M T)) (nI e) ed kd nx so tx tl2 tok2 xM2 xR2 xB2 := by
  refine pk_le lk (s + 1) (fun h => ?_) (fun h => ?_) rfl (nI_1 s)
  · have hr : rb_rc s lk = s + 1 := if_pos h
    rw [hr] at h4
    rw [nI_1]
    exact rb_l987 E hT hi hm h0 h1 h2 h3 h4 hb hJ
  · have hr : rb_rc s lk = lk := if_neg (by omega)
    rw [hr] at h4
    exact rb_l987 E hT hi hm h0 h1 h2 h3 h4 hb hJ
theorem rb_l780 {k : Nat} {K : Nat → Int32} {lk : Nat → Nat} (E : rb_Env ed nx so tx A L Q Z) (hk : ∀ i, ∃ c, c < 16 ∧ kd i = nI c) (hs : rb_Seq ed kd nx so tx A L Z T S M K lk) (hC : rb_Cut S M K lk T tok)
    (hJ : J93 (nI (k + 1)) (nI cap) (nI Q) (nI A) (nI Z) (nI L) (nI T) (nI (M T)) (nI e) ed kd nx so tx tl tok xM xR xB (nI cap) (nI Q) (nI A) (nI Z) (nI L) (nI T) (nI (M T)) (nI e) ed kd nx so tx tl2 tok2 xM2 xR2 xB2) : wL_law_780 post N xs J93 (nI Q) (nI A) (nI Z) x7 (nI k) kc ks (nI cap) (nI Q) (nI A) (nI Z) (nI L) (nI T) (nI (M T)) (nI e) ed kd nx so tx tl tok xM xR xB (nI cap) (nI Q) (nI A) (nI Z) (nI L) (nI T) (nI (M T)) (nI e) ed kd nx so tx tl2 tok2 xM2 xR2 xB2 := by
  have E' := E
  obtain ⟨E1, E2, E3, E4, E5, E6, E7, E8⟩ := E'
  obtain ⟨s1, s2, s3, s4, s5, s6⟩ := hs
  have H1 : wL_law_1131 post N xs J93 (nI Q) (nI A) (nI Z) x7 (nI k) (nI L) (nI (S T)) (nI (M T)) (nI T) kc ks (nI cap) (nI Q) (nI A) (nI Z) (nI L) (nI T) (nI (M T)) (nI e) ed kd nx so tx tl tok xM xR xB (nI cap) (nI Q) (nI A) (nI Z) (nI L) (nI T) (nI (M T)) (nI e) ed kd nx so tx tl2 tok2 xM2 xR2 xB2 := by
    rw [s4]
    exact br_t rfl (br_t rfl (br_t rfl (nm_r (nI_1 k) hJ)))
  have G := pk_loop (fun f i (_ : Unit) => wL_law_796 post N xs J93 (nI Q) (nI A) (nI Z) x7 (nI k) (nI L) kc ks (nI cap) (nI Q) (nI A) (nI Z) (nI L) (nI T) (nI (M T)) (nI e) ed kd nx so tx tl tok xM xR xB (nI cap) (nI Q) (nI A) (nI Z) (nI L) (nI T) (nI (M T)) (nI e) ed kd nx so tx tl2 tok2 xM2 xR2 xB2 f (nI (S i)) (nI (M i)) (nI i)) (fun _ _ => True) T 0 () (Nat.zero_le _) trivial ?_ ?_
  · rw [s1, s2] at G
    exact G
  · intro f _ _
    exact pk_lt 64 T (fun z => absurd z (by omega)) (fun _ => pk_le L (S T) (fun _ => H1) (fun z => absurd z (by omega)))
  · intro f i _ hi _ hw
    obtain ⟨g1, g2, g3, g4⟩ := s6 i hi
    obtain ⟨o0, o1, o2, o3, o4⟩ := hC i hi
    have w := hw () trivial
    obtain ⟨j, hj, ej⟩ := E7 (M i)
    have hlk := rb_tk_lk (ed := ed) (kd := kd) (nx := nx) (so := so) (tx := tx) (A := A) (m := M i) g1
    rw [g4] at hlk
    have hlk' : lk i ≤ L + 1 := hlk
    unfold rb_tk at g4
    rw [ej, nI_clamp (show j < 2 ^ 31 by omega)] at g4
    refine pk_lt 64 i (fun z => absurd z (by omega)) (fun _ => pk_le L (S i) (fun z => absurd z (by omega)) (fun _ => rb_xsr E3 g2 ?_))
    rw [ej]
    refine ⟨L + 1 - S i + 1, rb_l835 E hk (L + 1 - S i) j (S i) 0 (S i + 1, 0, M i) (-1) 0 (by omega) (by omega) hj (by omega) (Or.inl ⟨rfl, rfl⟩) ?_⟩
    rw [g4]
    intro x19 x20 hb
    exact rb_l969 E (by omega) hi g2 (by omega) (by omega) o0 o1 o2 o3 o4 hb w
end
