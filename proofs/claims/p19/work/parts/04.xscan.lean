/-! the class's scan of one token -/
theorem rb_i6 (i f : Nat) : nI i * 6 + nI f = nI (i * 6 + f) := (congrArg (fun z => z + nI f) (pk_mul i 6)).trans (nI_add (i * 6) f)
theorem rb_i8 (i f : Nat) : nI i * 8 + nI f = nI (i * 8 + f) := (congrArg (fun z => z + nI f) (pk_mul i 8)).trans (nI_add (i * 8) f)
theorem rb_rcl {a : Nat → Int32} {x : Int32} {n : Nat} (hx : x = nI n) (hn : n < 2 ^ 31) : a x.toNatClampNeg = a n := congrArg a (pk_cl n hx hn)
theorem rb_rd {a : Nat → Int32} {x w : Int32} {n : Nat} (hx : x = nI n) (hn : n < 2 ^ 31) (h : a n = w) : a x.toNatClampNeg = w := (rb_rcl hx hn).trans h
theorem rb_ucl {a : Nat → Int32} {x v w : Int32} {n : Nat} (hx : x = nI n) (hn : n < 2 ^ 31) (hv : v = w) : upd a x.toNatClampNeg v = upd a n w := by
  subst hx hv
  rw [nI_clamp hn]
/-- REACH of a token at s that looked up to lk -/
def rb_rc (s lk : Nat) : Nat := if lk ≤ s + 1 then s + 1 else lk
/-- the five cells that a scan writes -/
def rb_t5 (tok : Nat → Int32) (i : Nat) (v0 v1 v2 v3 v4 : Int32) : Nat → Int32 :=
  upd (upd (upd (upd (upd tok (i * 6) v0) (i * 6 + 1) v1) (i * 6 + 2) v2) (i * 6 + 3) v3) (i * 6 + 4) v4
theorem rb_up_0 {kd nx : Nat → Int32} {m q s : Nat} {b : Nat × Int32 × Nat} (h : kd s = 0) : rb_up kd nx m q s b = b := if_pos h
theorem rb_up_1 {kd nx : Nat → Int32} {m q s : Nat} {b : Nat × Int32 × Nat} (h : ¬ kd s = 0) : rb_up kd nx m q s b = (q + 1, kd s, rb_af nx m s) := if_neg h
section
variable {cap Q A Z L T e : Nat} {me : Int32} {ed kd nx so tx tl tok xM xR xB : Nat → Int32}
theorem rb_xwe {post : Int32 → Prop} {s : Nat} (hA : A ≤ 8) (hs : s < 16) (h1 : rb_he ed s A = true → post 0) (h2 : rb_he ed s A = false → post 1) : wpX_isWithoutEdges post (nI cap, nI Q, nI A, nI Z, nI L, nI T, me, nI e, ed, kd, nx, so, tx, tl, tok, xM, xR, xB) (nI s) :=
  pk_loop (σ := Unit) (fun n i _ => wX_isWithoutEdges_2 post (nI s) (nI cap) (nI Q) (nI A) (nI Z) (nI L) (nI T) me (nI e) ed kd nx so tx tl tok xM xR xB n (nI i)) (fun i _ => ∀ c, c < i → ed (s * 8 + c) = -1) A 0 () (Nat.zero_le _) lt_0
    (fun n _ h => pk_le A A (fun _ => h2 (rb_he_f A h)) (fun z => absurd z (by omega)))
    (fun n i _ hi h hw => pk_le A i (fun z => absurd z (by omega)) (fun _ => ⟨pk_in (s * 8 + i) 128 (by omega) (rb_i8 s i),
      br_c (fun z => nm_r (nI_1 i) (hw () (lt_s h ((rb_rcl (rb_i8 s i) (by omega)).symm.trans z)))) (fun z => h1 (rb_he_t (fun g => z ((rb_rcl (rb_i8 s i) (by omega)).trans g)) A hi))⟩))
theorem rb_xta {post : Int32 → Prop} {s q : Nat} (E : rb_Env ed nx so tx A L Q Z) (hs : s < Q) (h1 : L ≤ q → post (-1)) (h2 : ∀ c, q < L → c < A → tx q = nI c → post (ed (s * 8 + c))) (hq : q ≤ L) : wpX_targetAt post (nI cap, nI Q, nI A, nI Z, nI L, nI T, me, nI e, ed, kd, nx, so, tx, tl, tok, xM, xR, xB) (nI s) (nI q) := by
  obtain ⟨E1, E2, E3, E4, E5, E6, E7, E8⟩ := E
  refine pk_lt q L (fun h => ?_) h1
  obtain ⟨c, hc, ec⟩ := E8 q h
  have e1 : tx (nI q).toNatClampNeg = nI c := rb_rd rfl (by omega) ec
  have e2 : nI s * 8 + tx (nI q).toNatClampNeg = nI (s * 8 + c) := by rw [e1]; exact rb_i8 s c
  refine ⟨pk_in q 64 (by omega), pk_in (s * 8 + c) 128 (by omega) e2, ?_⟩
  rw [e2, nI_clamp (by omega)]
  exact h2 c h hc ec
theorem rb_x130 {post : Int32 → St2 → Prop} {i s m lk : Nat} {x6 x7 x8 : Int32} (hi : i < 64) (hs : s < 64) (hlk : lk < 2 ^ 31)
    (hp : post x8 (nI cap, nI Q, nI A, nI Z, nI L, nI T, me, nI e, ed, kd, nx, so, tx, tl, rb_t5 tok i (nI s) x6 x7 (nI m) (nI (rb_rc s lk)), xM, xR, xB)) : wX_scanToken_130 post (nI i) (nI s) (nI m) (nI lk) x6 x7 x8 (nI cap) (nI Q) (nI A) (nI Z) (nI L) (nI T) me (nI e) ed kd nx so tx tl tok xM xR xB := by
  refine nm_r (pk_mul i 6) ⟨pk_in (i * 6) 384 (by omega) (nI_add (i * 6) 0), nm_r (rb_ucl (nI_add (i * 6) 0) (by omega) rfl)
    ⟨pk_in (i * 6 + 1) 384 (by omega) (nI_add (i * 6) 1), nm_r (rb_ucl (nI_add (i * 6) 1) (by omega) rfl)
    ⟨pk_in (i * 6 + 2) 384 (by omega) (nI_add (i * 6) 2), nm_r (rb_ucl (nI_add (i * 6) 2) (by omega) rfl)
    ⟨pk_in (i * 6 + 3) 384 (by omega) (nI_add (i * 6) 3), nm_r (rb_ucl (nI_add (i * 6) 3) (by omega) rfl) ?_⟩⟩⟩⟩
  refine pk_le lk (s + 1) (fun h => ⟨pk_in (i * 6 + 4) 384 (by omega) (nI_add (i * 6) 4), nm_r (rb_ucl (nI_add (i * 6) 4) (by omega) (nI_1 s)) ?_⟩)
    (fun h => ⟨pk_in (i * 6 + 4) 384 (by omega) (nI_add (i * 6) 4), nm_r (rb_ucl (nI_add (i * 6) 4) (by omega) rfl) ?_⟩) rfl (nI_1 s)
  · have hr : rb_rc s lk = s + 1 := if_pos h
    rw [hr] at hp
    exact hp
  · have hr : rb_rc s lk = lk := if_neg (by omega)
    rw [hr] at hp
    exact hp
theorem rb_xsc {post : Int32 → St2 → Prop} {i s0 m : Nat} (E : rb_Env ed nx so tx A L Q Z) (hm : m < Z) : ∀ (d s q : Nat) (b : Nat × Int32 × Nat), q ≤ L → L + 1 - q ≤ d → s < Q →
    wX_scanToken_130 post (nI i) (nI s0) (nI m) (nI (rb_sc ed kd nx tx A L m d s q b).1) (nI (rb_sc ed kd nx tx A L m d s q b).2.1) (rb_sc ed kd nx tx A L m d s q b).2.2.1 (nI (rb_sc ed kd nx tx A L m d s q b).2.2.2) (nI cap) (nI Q) (nI A) (nI Z) (nI L) (nI T) me (nI e) ed kd nx so tx tl tok xM xR xB →
    wX_scanToken_25 post (nI i) (nI s0) (nI m) (nI cap) (nI Q) (nI A) (nI Z) (nI L) (nI T) me (nI e) ed kd nx so tx tl tok xM xR xB d (nI s) (nI q) (nI b.1) b.2.1 (nI b.2.2) (nI q) := by
  have E' := E
  obtain ⟨E1, E2, E3, E4, E5, E6, E7, E8⟩ := E'
  intro d
  induction d with
  | zero => intro s q b h1 h2 _ _; omega
  | succ d ih =>
    intro s q b hq hd hs H
    refine pk_lt L q (fun z => absurd z (by omega)) (fun _ => rb_xwe E1 (by omega) (fun he => ?_) (fun he => ?_))
    · refine br_t rfl (nm_r (nI_1 q) (rb_xta E hs (fun hL => ?_) (fun c hL hc ec => ?_) hq))
      · rw [rb_sc2 he hL] at H
        exact br_t rfl H
      · have hcl : (tx q).toNatClampNeg = c := by rw [ec, nI_clamp (by omega)]
        rcases E5 (s * 8 + c) with h | ⟨j, hj, ej⟩
        · rw [rb_sc3 he hL hcl h] at H
          exact br_t h H
        · have hj' : j < 2 ^ 31 := by omega
          rw [rb_sc4 he hL hcl hj' ej] at H
          rw [ej]
          refine br_f (rb_m1 hj') ⟨pk_in j 16 (by omega), ?_⟩
          by_cases hz : kd j = 0
          · rw [rb_up_0 hz] at H
            exact br_t (rb_rd rfl hj' hz) (nm_r (nI_1 q) (ih j (q + 1) b (by omega) (by omega) hj H))
          · rw [rb_up_1 hz] at H
            refine br_f (fun g => hz ((rb_rcl rfl hj').symm.trans g)) (nm_r (nI_1 q) ⟨pk_in j 16 (by omega), nm_r (rb_rcl rfl hj') ⟨pk_in j 16 (by omega), ?_⟩⟩)
            by_cases hn : nx j = -1
            · rw [rb_af_s hn] at H
              exact br_t (rb_rd rfl hj' hn) (nm_r (nI_1 q) (ih j (q + 1) (q + 1, kd j, m) (by omega) (by omega) hj H))
            · exact br_f (fun g => hn ((rb_rcl rfl hj').symm.trans g)) ⟨pk_in j 16 (by omega), nm_r (rb_rd rfl hj' (rb_af_nI E3 E6 hn)) (nm_r (nI_1 q) (ih j (q + 1) (q + 1, kd j, rb_af nx m j) (by omega) (by omega) hj H))⟩
    · rw [rb_sc1 he] at H
      exact br_f (by decide) H
theorem rb_xsk {post : Int32 → St2 → Prop} {i s m lk en af : Nat} {k : Int32} (E : rb_Env ed nx so tx A L Q Z) (hi : i < 64) (hs : s < L) (hm : m < Z) (htk : rb_tk ed kd nx so tx A L s m = (lk, en, k, af))
    (hp : post (nI af) (nI cap, nI Q, nI A, nI Z, nI L, nI T, me, nI e, ed, kd, nx, so, tx, tl, rb_t5 tok i (nI s) (nI en) k (nI m) (nI (rb_rc s lk)), xM, xR, xB)) : wpX_scanToken post (nI cap, nI Q, nI A, nI Z, nI L, nI T, me, nI e, ed, kd, nx, so, tx, tl, tok, xM, xR, xB) (nI i) (nI s) (nI m) := by
  have E' := E
  obtain ⟨E1, E2, E3, E4, E5, E6, E7, E8⟩ := E'
  obtain ⟨j, hj, ej⟩ := E7 m
  have hlk := rb_tk_lk (ed := ed) (kd := kd) (nx := nx) (so := so) (tx := tx) (A := A) (m := m) hs
  rw [htk] at hlk
  have hlk' : lk ≤ L + 1 := hlk
  unfold rb_tk at htk
  rw [ej, nI_clamp (show j < 2 ^ 31 by omega)] at htk
  refine ⟨pk_in m 4 (by omega), nm_r (rb_rd rfl (by omega) ej) (nm_r (nI_1 s) ⟨L + 1 - s, ?_⟩)⟩
  refine rb_xsc E hm (L + 1 - s) j s (s + 1, 0, m) (by omega) (by omega) hj ?_
  rw [htk]
  exact rb_x130 hi (by omega) (by omega) hp
end
