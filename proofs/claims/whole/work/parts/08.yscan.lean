/-! the reference's cut -/
section
variable {cap Q A Z L T e : Nat} {oc : Int32} {ed kd nx so tx nt tS tE tK tM tR tB tA yS yM yR yB : Nat → Int32}
theorem rb_yhe {post : Int32 → Prop} {s : Nat} (hA : A ≤ 8) (hs : s < 16) (h1 : rb_he ed s A = true → post 1) (h2 : rb_he ed s A = false → post 0) : wpY_hasEdges post (nI cap, nI Q, nI A, nI Z, nI L, nI e, nI T, oc, ed, kd, nx, so, tx, nt, tS, tE, tK, tM, tR, tB, tA, yS, yM, yR, yB) (nI s) :=
  pk_loop (σ := Unit) (fun n i _ => wY_hasEdges_2 post (nI s) (nI cap) (nI Q) (nI A) (nI Z) (nI L) (nI e) (nI T) oc ed kd nx so tx nt tS tE tK tM tR tB tA yS yM yR yB n (nI i)) (fun i _ => ∀ c, c < i → ed (s * 8 + c) = -1) A 0 () (Nat.zero_le _) lt_0
    (fun n _ h => pk_le A A (fun _ => h2 (rb_he_f A h)) (fun z => absurd z (by omega)))
    (fun n i _ hi h hw => pk_le A i (fun z => absurd z (by omega)) (fun _ => ⟨pk_in (s * 8 + i) 128 (by omega) (rb_i8 s i),
      br_c (fun z => nm_r (nI_1 i) (hw () (lt_s h ((rb_rcl (rb_i8 s i) (by omega)).symm.trans z)))) (fun z => h1 (rb_he_t (fun g => z ((rb_rcl (rb_i8 s i) (by omega)).trans g)) A hi))⟩))
/-- the reference's bestEnd and bestState against (END, KIND, mode after) -/
def rb_Be (kd nx : Nat → Int32) (Q s m : Nat) (x6 x7 : Int32) (b : Nat × Int32 × Nat) : Prop :=
  (x7 = -1 ∧ b = (s + 1, 0, m)) ∨ (∃ t en, t < Q ∧ x7 = nI t ∧ x6 = nI en ∧ b = (en, kd t, rb_af nx m t))
theorem rb_y182 {post : SY → Prop} {i s m : Nat} {x6 x7 z0 : Int32} {b : Nat × Int32 × Nat} (E : rb_Env ed nx so tx A L Q Z) (hi : i < 64) (hb : rb_Be kd nx Q s m x6 x7 b)
    (hp : post (nI cap, nI Q, nI A, nI Z, nI L, nI e, nI T, oc, ed, kd, nx, so, tx, nt, tS, upd tE i (nI b.1), upd tK i b.2.1, tM, upd tR i z0, tB, upd tA i (nI b.2.2), yS, yM, yR, yB)) : wY_cutOne_182 post (nI i) (nI s) (nI m) x6 x7 z0 (nI i) (nI cap) (nI Q) (nI A) (nI Z) (nI L) (nI e) (nI T) oc ed kd nx so tx nt tS tE tK tM tR tB tA yS yM yR yB := by
  obtain ⟨E1, E2, E3, E4, E5, E6, E7, E8⟩ := E
  have hi' : i < 2 ^ 31 := by omega
  refine ⟨pk_in i 64 hi, nm_r (rb_ucl rfl hi' rfl) ⟨pk_in i 64 hi, nm_r (rb_ucl rfl hi' (nI_1 s)) ⟨pk_in i 64 hi, nm_r (rb_ucl rfl hi' rfl) ⟨pk_in i 64 hi, nm_r (rb_ucl rfl hi' rfl) ?_⟩⟩⟩⟩
  rcases hb with ⟨rfl, rfl⟩ | ⟨t, en, ht, rfl, rfl, rfl⟩
  · exact br_t (by decide) hp
  · have ht' : t < 2 ^ 31 := by omega
    refine br_f (nI_pos ht') ⟨pk_in i 64 hi, nm_r (rb_ucl rfl hi' rfl) ⟨pk_in t 16 (by omega), pk_in i 64 hi, nm_r (rb_ucl rfl hi' (rb_rcl rfl ht')) ⟨pk_in t 16 (by omega), ?_⟩⟩⟩
    by_cases hn : nx t = -1
    · refine br_t (rb_rd rfl ht' hn) ?_
      rw [rb_uu, rb_uu]
      rw [rb_af_s hn] at hp
      exact hp
    · refine br_f (fun g => hn ((rb_rcl rfl ht').symm.trans g)) ⟨pk_in t 16 (by omega), pk_in i 64 hi, nm_r (rb_ucl rfl hi' (rb_rd rfl ht' (rb_af_nI (m := m) E3 E6 hn))) ?_⟩
      rw [rb_uu, rb_uu, rb_uu]
      exact hp
theorem rb_y147 {post : SY → Prop} {i s m lk : Nat} {x6 x7 : Int32} {b : Nat × Int32 × Nat} (E : rb_Env ed nx so tx A L Q Z) (hi : i < 64) (hs : s < 64) (hlk : lk < 2 ^ 31) (hb : rb_Be kd nx Q s m x6 x7 b)
    (hp : post (nI cap, nI Q, nI A, nI Z, nI L, nI e, nI T, oc, ed, kd, nx, so, tx, nt, upd tS i (nI s), upd tE i (nI b.1), upd tK i b.2.1, upd tM i (nI m), upd tR i (nI (rb_rc s lk)), tB, upd tA i (nI b.2.2), yS, yM, yR, yB)) : wY_cutOne_147 post (nI i) (nI s) (nI m) x6 x7 (nI lk) (nI cap) (nI Q) (nI A) (nI Z) (nI L) (nI e) (nI T) oc ed kd nx so tx nt tS tE tK tM tR tB tA yS yM yR yB := by
  have hi' : i < 2 ^ 31 := by omega
  refine ⟨pk_in i 64 hi, nm_r (rb_ucl rfl hi' rfl) ⟨pk_in i 64 hi, nm_r (rb_ucl rfl hi' rfl) (pk_le lk (s + 1) (fun h => ?_) (fun h => ?_) rfl (nI_1 s))⟩⟩
  · have hr : rb_rc s lk = s + 1 := if_pos h
    rw [hr] at hp
    rw [nI_1]
    exact rb_y182 E hi hb hp
  · have hr : rb_rc s lk = lk := if_neg (by omega)
    rw [hr] at hp
    exact rb_y182 E hi hb hp
theorem rb_y26 {post : SY → Prop} {x1 x2 x3 x4 x5 x6 x7 x8 x10 : Int32} {n : Nat} (H : wY_cutOne_147 post x1 x2 x3 x6 x7 x8 (nI cap) (nI Q) (nI A) (nI Z) (nI L) (nI e) (nI T) oc ed kd nx so tx nt tS tE tK tM tR tB tA yS yM yR yB) : wY_cutOne_26 post x1 x2 x3 (nI cap) (nI Q) (nI A) (nI Z) (nI L) (nI e) (nI T) oc ed kd nx so tx nt tS tE tK tM tR tB tA yS yM yR yB (n + 1) x4 x5 x6 x7 x8 0 x10 :=
  br_c (fun _ => H) (fun _ => br_t rfl H)
theorem rb_ysc {post : SY → Prop} {i s0 m : Nat} (E : rb_Env ed nx so tx A L Q Z) (hm : m < Z) : ∀ (d s q st : Nat) (b : Nat × Int32 × Nat) (x6 x7 x8 : Int32), q ≤ L → L + 1 - q ≤ d → s < Q → st + s0 = q → rb_Be kd nx Q s0 m x6 x7 b →
    (∀ (x6' x7' : Int32), rb_Be kd nx Q s0 m x6' x7' (rb_sc ed kd nx tx A L m d s q b).2 → wY_cutOne_147 post (nI i) (nI s0) (nI m) x6' x7' (nI (rb_sc ed kd nx tx A L m d s q b).1) (nI cap) (nI Q) (nI A) (nI Z) (nI L) (nI e) (nI T) oc ed kd nx so tx nt tS tE tK tM tR tB tA yS yM yR yB) →
    wY_cutOne_26 post (nI i) (nI s0) (nI m) (nI cap) (nI Q) (nI A) (nI Z) (nI L) (nI e) (nI T) oc ed kd nx so tx nt tS tE tK tM tR tB tA yS yM yR yB (d + 1) (nI q) (nI s) x6 x7 x8 1 (nI st) := by
  have E' := E
  obtain ⟨E1, E2, E3, E4, E5, E6, E7, E8⟩ := E'
  intro d
  induction d with
  | zero => intro s q st b x6 x7 x8 h1 h2 _ _ _ _; omega
  | succ d ih =>
    intro s q st b x6 x7 x8 hq hd hs hst hb H
    refine pk_lt 64 st (fun z => absurd z (by omega)) (fun _ => br_f (by decide) (rb_yhe E1 (by omega) (fun he => ?_) (fun he => ?_)))
    · refine br_f (by decide) (pk_le L q (fun hL => ?_) (fun hL => ?_))
      · rw [rb_sc2 he hL] at H
        exact nm_r (nI_1 q) (nm_e (rb_y26 (H x6 x7 hb)))
      · obtain ⟨c, hc, ec⟩ := E8 q hL
        have hcl : (tx q).toNatClampNeg = c := by rw [ec, nI_clamp (by omega)]
        have e1 : tx (nI q).toNatClampNeg = nI c := rb_rd rfl (by omega) ec
        have e2 : nI s * 8 + tx (nI q).toNatClampNeg = nI (s * 8 + c) := by rw [e1]; exact rb_i8 s c
        have hsc : s * 8 + c < 2 ^ 31 := by omega
        refine ⟨pk_in q 64 (by omega), pk_in (s * 8 + c) 128 (by omega) e2, ?_⟩
        rcases E5 (s * 8 + c) with h | ⟨j, hj, ej⟩
        · rw [rb_sc3 he hL hcl h] at H
          exact br_t (rb_rd e2 hsc h) (nm_r (nI_1 q) (nm_e (rb_y26 (H x6 x7 hb))))
        · have hj' : j < 2 ^ 31 := by omega
          have es : nI st + 1 = nI (st + 1) := nI_1 st
          rw [rb_sc4 he hL hcl hj' ej] at H
          refine br_f (fun g => rb_m1 hj' (ej.symm.trans ((rb_rcl e2 hsc).symm.trans g))) ⟨pk_in q 64 (by omega), pk_in (s * 8 + c) 128 (by omega) e2, nm_r (rb_rd e2 hsc ej) (nm_r (nI_1 q) ⟨pk_in j 16 (by omega), ?_⟩)⟩
          by_cases hz : kd j = 0
          · rw [rb_up_0 hz] at H
            exact br_t (rb_rd rfl hj' hz) (nm_r es (ih j (q + 1) (st + 1) b x6 x7 x8 (by omega) (by omega) hj (by omega) hb H))
          · rw [rb_up_1 hz] at H
            exact br_f (fun g => hz ((rb_rcl rfl hj').symm.trans g)) (nm_r es (ih j (q + 1) (st + 1) (q + 1, kd j, rb_af nx m j) (nI (q + 1)) (nI j) x8 (by omega) (by omega) hj (by omega) (Or.inr ⟨j, q + 1, hj, rfl, rfl, rfl⟩) H))
    · rw [rb_sc1 he] at H
      exact br_t rfl (nm_e (rb_y26 (H x6 x7 hb)))
theorem rb_ysk {post : SY → Prop} {i s m lk en af : Nat} {k : Int32} (E : rb_Env ed nx so tx A L Q Z) (hi : i < 64) (hs : s < L) (hm : m < Z) (htk : rb_tk ed kd nx so tx A L s m = (lk, en, k, af))
    (hp : post (nI cap, nI Q, nI A, nI Z, nI L, nI e, nI T, oc, ed, kd, nx, so, tx, nt, upd tS i (nI s), upd tE i (nI en), upd tK i k, upd tM i (nI m), upd tR i (nI (rb_rc s lk)), tB, upd tA i (nI af), yS, yM, yR, yB)) : wpY_cutOne post (nI cap, nI Q, nI A, nI Z, nI L, nI e, nI T, oc, ed, kd, nx, so, tx, nt, tS, tE, tK, tM, tR, tB, tA, yS, yM, yR, yB) (nI i) (nI s) (nI m) := by
  have E' := E
  obtain ⟨E1, E2, E3, E4, E5, E6, E7, E8⟩ := E'
  obtain ⟨j, hj, ej⟩ := E7 m
  have hlk := rb_tk_lk (ed := ed) (kd := kd) (nx := nx) (so := so) (tx := tx) (A := A) (m := m) hs
  rw [htk] at hlk
  have hlk' : lk ≤ L + 1 := hlk
  unfold rb_tk at htk
  rw [ej, nI_clamp (show j < 2 ^ 31 by omega)] at htk
  refine ⟨pk_in m 4 (by omega), nm_r (rb_rd rfl (by omega) ej) ⟨L + 1 - s + 1, ?_⟩⟩
  refine rb_ysc E hm (L + 1 - s) j s 0 (s + 1, 0, m) (-1) (-1) (nI s) (by omega) (by omega) hj (by omega) (Or.inl ⟨rfl, rfl⟩) ?_
  rw [htk]
  intro x6 x7 hb
  exact rb_y147 E hi (by omega) (by omega) hb hp
/-- the reference's arrays hold the first i tokens of the cut -/
def rb_CutY (S M : Nat → Nat) (K : Nat → Int32) (lk : Nat → Nat) (i : Nat) (tS tE tK tM tR tA : Nat → Int32) : Prop :=
  ∀ j, j < i → tS j = nI (S j) ∧ tE j = nI (S (j + 1)) ∧ tK j = K j ∧ tM j = nI (M j) ∧ tR j = nI (rb_rc (S j) (lk j)) ∧ tA j = nI (M (j + 1))
theorem rb_ycut {post : SY → Prop} {T' : Nat} {S M : Nat → Nat} {K : Nat → Int32} {lk : Nat → Nat} (E : rb_Env ed nx so tx A L Q Z) (hs : rb_Seq ed kd nx so tx A L Z T' S M K lk)
    (hp : ∀ tS' tE' tK' tM' tR' tA', rb_CutY S M K lk T' tS' tE' tK' tM' tR' tA' → post (nI cap, nI Q, nI A, nI Z, nI L, nI e, nI T', oc, ed, kd, nx, so, tx, nt, tS', tE', tK', tM', tR', tB, tA', yS, yM, yR, yB)) : wpY_cutAll post (nI cap, nI Q, nI A, nI Z, nI L, nI e, nI T, oc, ed, kd, nx, so, tx, nt, tS, tE, tK, tM, tR, tB, tA, yS, yM, yR, yB) := by
  obtain ⟨s1, s2, s3, s4, s5, s6⟩ := hs
  have hL : L ≤ 64 := E.2.2.2.1
  have G := pk_loop (fun n i (w : (Nat → Int32) × (Nat → Int32) × (Nat → Int32) × (Nat → Int32) × (Nat → Int32) × (Nat → Int32)) => wY_cutAll_11 post n (nI (S i)) (nI (M i)) (nI i) (nI cap) (nI Q) (nI A) (nI Z) (nI L) (nI e) (nI i) oc ed kd nx so tx nt w.1 w.2.1 w.2.2.1 w.2.2.2.1 w.2.2.2.2.1 tB w.2.2.2.2.2 yS yM yR yB)
    (fun i w => rb_CutY S M K lk i w.1 w.2.1 w.2.2.1 w.2.2.2.1 w.2.2.2.2.1 w.2.2.2.2.2) T' 0 (tS, tE, tK, tM, tR, tA) (Nat.zero_le _) (fun j hj => absurd hj (by omega)) ?_ ?_
  · rw [s1, s2] at G
    exact G
  · intro n w h
    exact pk_le 64 T' (fun _ => hp _ _ _ _ _ _ h) (fun _ => pk_le L (S T') (fun _ => hp _ _ _ _ _ _ h) (fun z => absurd z (by omega)))
  · intro n i w hi h hw
    obtain ⟨g1, g2, g3, g4⟩ := s6 i hi
    have hi' : i < 2 ^ 31 := by omega
    refine pk_le 64 i (fun z => absurd z (by omega)) (fun _ => pk_le L (S i) (fun z => absurd z (by omega)) (fun _ => rb_ysk E (by omega) g1 g2 g4 ?_))
    refine nm_r (nI_1 i) ⟨pk_in i 64 (by omega), nm_r (rb_rd rfl hi' pk_us) ⟨pk_in i 64 (by omega), nm_r (rb_rd rfl hi' pk_us) (nm_r (nI_1 i) ?_)⟩⟩
    refine hw (upd w.1 i (nI (S i)), upd w.2.1 i (nI (S (i + 1))), upd w.2.2.1 i (K i), upd w.2.2.2.1 i (nI (M i)), upd w.2.2.2.2.1 i (nI (rb_rc (S i) (lk i))), upd w.2.2.2.2.2 i (nI (M (i + 1)))) ?_
    intro j hj
    dsimp only
    by_cases ej : j = i
    · rw [ej, pk_us, pk_us, pk_us, pk_us, pk_us, pk_us]
      exact ⟨rfl, rfl, rfl, rfl, rfl, rfl⟩
    · rw [pk_un ej, pk_un ej, pk_un ej, pk_un ej, pk_un ej, pk_un ej]
      exact h j (by omega)
end
