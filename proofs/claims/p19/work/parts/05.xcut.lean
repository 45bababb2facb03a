/-! the class's cut, its memory of the old list, its text, its births -/
theorem rb_t5_0 {tok : Nat → Int32} {i : Nat} {v0 v1 v2 v3 v4 : Int32} : rb_t5 tok i v0 v1 v2 v3 v4 (i * 6) = v0 := by
  unfold rb_t5
  rw [pk_un (by omega), pk_un (by omega), pk_un (by omega), pk_un (by omega), pk_us]
theorem rb_t5_1 {tok : Nat → Int32} {i : Nat} {v0 v1 v2 v3 v4 : Int32} : rb_t5 tok i v0 v1 v2 v3 v4 (i * 6 + 1) = v1 := by
  unfold rb_t5
  rw [pk_un (by omega), pk_un (by omega), pk_un (by omega), pk_us]
theorem rb_t5_2 {tok : Nat → Int32} {i : Nat} {v0 v1 v2 v3 v4 : Int32} : rb_t5 tok i v0 v1 v2 v3 v4 (i * 6 + 2) = v2 := by
  unfold rb_t5
  rw [pk_un (by omega), pk_un (by omega), pk_us]
theorem rb_t5_3 {tok : Nat → Int32} {i : Nat} {v0 v1 v2 v3 v4 : Int32} : rb_t5 tok i v0 v1 v2 v3 v4 (i * 6 + 3) = v3 := by
  unfold rb_t5
  rw [pk_un (by omega), pk_us]
theorem rb_t5_4 {tok : Nat → Int32} {i : Nat} {v0 v1 v2 v3 v4 : Int32} : rb_t5 tok i v0 v1 v2 v3 v4 (i * 6 + 4) = v4 := by
  unfold rb_t5
  rw [pk_us]
theorem rb_t5_n {tok : Nat → Int32} {i p : Nat} {v0 v1 v2 v3 v4 : Int32} (h : p < i * 6) : rb_t5 tok i v0 v1 v2 v3 v4 p = tok p := by
  unfold rb_t5
  rw [pk_un (by omega), pk_un (by omega), pk_un (by omega), pk_un (by omega), pk_un (by omega)]
/-- the whole cut of a text -/
def rb_Seq (ed kd nx so tx : Nat → Int32) (A L Z T : Nat) (S M : Nat → Nat) (K : Nat → Int32) (lk : Nat → Nat) : Prop :=
  S 0 = 0 ∧ M 0 = 0 ∧ T ≤ L ∧ S T = L ∧ M T < Z ∧ ∀ i, i < T → S i < L ∧ M i < Z ∧ S i < S (i + 1) ∧ rb_tk ed kd nx so tx A L (S i) (M i) = (lk i, S (i + 1), K i, M (i + 1))
theorem rb_Seq_ex {ed kd nx so tx : Nat → Int32} {A L Q Z : Nat} (E : rb_Env ed nx so tx A L Q Z) (hZ : 0 < Z) : ∃ (T : Nat) (S M : Nat → Nat) (K : Nat → Int32) (lk : Nat → Nat), rb_Seq ed kd nx so tx A L Z T S M K lk := by
  obtain ⟨T, h1, h2, h3, h4⟩ := rb_T (kd := kd) E hZ
  exact ⟨T, fun i => (rb_sm ed kd nx so tx A L i).1, fun i => (rb_sm ed kd nx so tx A L i).2,
    fun i => (rb_tk ed kd nx so tx A L (rb_sm ed kd nx so tx A L i).1 (rb_sm ed kd nx so tx A L i).2).2.2.1,
    fun i => (rb_tk ed kd nx so tx A L (rb_sm ed kd nx so tx A L i).1 (rb_sm ed kd nx so tx A L i).2).1, rfl, rfl, h1, h3, h4,
    fun i hi => ⟨(h2 i hi).1, (h2 i hi).2.1, (h2 i hi).2.2, rfl⟩⟩
/-- the class's cells hold the first i tokens of the cut -/
def rb_Cut (S M : Nat → Nat) (K : Nat → Int32) (lk : Nat → Nat) (i : Nat) (tok : Nat → Int32) : Prop :=
  ∀ j, j < i → tok (j * 6) = nI (S j) ∧ tok (j * 6 + 1) = nI (S (j + 1)) ∧ tok (j * 6 + 2) = K j ∧ tok (j * 6 + 3) = nI (M j) ∧ tok (j * 6 + 4) = nI (rb_rc (S j) (lk j))
theorem rb_Cut_s {S M : Nat → Nat} {K : Nat → Int32} {lk : Nat → Nat} {i : Nat} {tok : Nat → Int32} (h : rb_Cut S M K lk i tok) :
    rb_Cut S M K lk (i + 1) (rb_t5 tok i (nI (S i)) (nI (S (i + 1))) (K i) (nI (M i)) (nI (rb_rc (S i) (lk i)))) := by
  intro j hj
  by_cases ej : j = i
  · rw [ej, rb_t5_0, rb_t5_1, rb_t5_2, rb_t5_3, rb_t5_4]
    exact ⟨rfl, rfl, rfl, rfl, rfl⟩
  · rw [rb_t5_n (by omega), rb_t5_n (by omega), rb_t5_n (by omega), rb_t5_n (by omega), rb_t5_n (by omega)]
    exact h j (by omega)
section
variable {cap Q A Z L T e : Nat} {me : Int32} {ed kd nx so tx tl tok xM xR xB : Nat → Int32}
theorem rb_xcut {post : St2 → Prop} {T' : Nat} {S M : Nat → Nat} {K : Nat → Int32} {lk : Nat → Nat} (E : rb_Env ed nx so tx A L Q Z) (hs : rb_Seq ed kd nx so tx A L Z T' S M K lk)
    (hp : ∀ tok', rb_Cut S M K lk T' tok' → post (nI cap, nI Q, nI A, nI Z, nI L, nI T', nI (M T'), nI e, ed, kd, nx, so, tx, tl, tok', xM, xR, xB)) : wpX_cutIntoTokens post (nI cap, nI Q, nI A, nI Z, nI L, nI T, me, nI e, ed, kd, nx, so, tx, tl, tok, xM, xR, xB) := by
  obtain ⟨s1, s2, s3, s4, s5, s6⟩ := hs
  have hL : L ≤ 64 := E.2.2.2.1
  have G := pk_loop (fun n i tok => wX_cutIntoTokens_6 post n (nI (S i)) (nI (M i)) (nI i) (nI cap) (nI Q) (nI A) (nI Z) (nI L) (nI T) me (nI e) ed kd nx so tx tl tok xM xR xB) (fun i tok => rb_Cut S M K lk i tok) T' 0 tok (Nat.zero_le _) (fun j hj => absurd hj (by omega))
    (fun n tok h => pk_le 64 T' (fun _ => hp tok h) (fun _ => pk_le L (S T') (fun _ => hp tok h) (fun z => absurd z (by omega))))
    (fun n i tok hi h hw => pk_le 64 i (fun z => absurd z (by omega)) (fun _ => pk_le L (S i) (fun z => absurd z (by have := (s6 i hi).1; omega)) (fun _ =>
      rb_xsk E (by omega) (s6 i hi).1 (s6 i hi).2.1 (s6 i hi).2.2.2 ⟨pk_in (i * 6 + 1) 384 (by omega) (rb_i6 i 1), nm_r (rb_rd (rb_i6 i 1) (by omega) rb_t5_1) (nm_r (nI_1 i) (hw _ (rb_Cut_s h)))⟩)
      rfl rfl (by omega) (by have := (s6 i hi).1; omega)))
  rw [s1, s2] at G
  exact G
theorem rb_xrem {post : St2 → Prop} {S M B : Nat → Nat} {R : Nat → Int32} (hT : T ≤ 64) (hc : ∀ i, i < T → tok (i * 6) = nI (S i) ∧ tok (i * 6 + 3) = nI (M i) ∧ tok (i * 6 + 4) = R i ∧ tok (i * 6 + 5) = nI (B i) ∧ S i < 64)
    (hS : ∀ i j, i < T → j < T → S i = S j → i = j)
    (hp : ∀ xM' xR' xB', rb_Old T S M R B xM' xR' xB' → post (nI cap, nI Q, nI A, nI Z, nI L, nI T, me, nI e, ed, kd, nx, so, tx, tl, tok, xM', xR', xB')) : wpX_rememberTokens post (nI cap, nI Q, nI A, nI Z, nI L, nI T, me, nI e, ed, kd, nx, so, tx, tl, tok, xM, xR, xB) := by
  refine pk_loop (fun n i s => wX_rememberTokens_2 post (nI cap) (nI Q) (nI A) (nI Z) (nI L) (nI T) me (nI e) n (nI i) ed kd nx so tx tl tok s xR xB) (fun i s => ∀ p, p < i → s p = -1) 64 0 xM (Nat.zero_le _) lt_0 ?_ ?_
  · intro n s h
    refine pk_le 64 64 (fun _ => ?_) (fun z => absurd z (by omega))
    refine pk_loop (fun n i (w : (Nat → Int32) × (Nat → Int32) × (Nat → Int32)) => wX_rememberTokens_23 post (nI cap) (nI Q) (nI A) (nI Z) (nI L) (nI T) me (nI e) n (nI i) ed kd nx so tx tl tok w.1 w.2.1 w.2.2) (fun i w => rb_Old i S M R B w.1 w.2.1 w.2.2) T 0 (s, xR, xB) (Nat.zero_le _) ⟨fun j hj => absurd hj (by omega), fun p hp _ => h p hp⟩ ?_ ?_
    · intro n w hw
      exact pk_le T T (fun _ => hp _ _ _ hw) (fun z => absurd z (by omega))
    · intro n i w hi h hw
      obtain ⟨c0, c3, c4, c5, c6⟩ := hc i hi
      exact pk_le T i (fun z => absurd z (by omega)) (fun _ => nm_r (pk_mul i 6) ⟨pk_in (i * 6) 384 (by omega) (nI_add (i * 6) 0), nm_r (rb_rd (nI_add (i * 6) 0) (by omega) c0)
        ⟨pk_in (i * 6 + 3) 384 (by omega) (nI_add (i * 6) 3), pk_in (S i) 64 c6, nm_r (rb_ucl rfl (by omega) (rb_rd (nI_add (i * 6) 3) (by omega) c3))
        ⟨pk_in (i * 6 + 4) 384 (by omega) (nI_add (i * 6) 4), pk_in (S i) 64 c6, nm_r (rb_ucl rfl (by omega) (rb_rd (nI_add (i * 6) 4) (by omega) c4))
        ⟨pk_in (i * 6 + 5) 384 (by omega) (nI_add (i * 6) 5), pk_in (S i) 64 c6, nm_r (rb_ucl rfl (by omega) (rb_rd (nI_add (i * 6) 5) (by omega) c5)) (nm_r (nI_1 i)
          (hw (upd w.1 (S i) (nI (M i)), upd w.2.1 (S i) (R i), upd w.2.2 (S i) (nI (B i))) (rb_old_s h (fun j hj z => absurd (hS j i (by omega) hi z) (by omega)))))⟩⟩⟩⟩)
  · intro n i s hi h hw
    exact pk_le 64 i (fun z => absurd z (by omega)) (fun _ => ⟨pk_in i 64 hi, nm_r (rb_ucl rfl (by omega) rfl) (nm_r (nI_1 i) (hw _ (fun p hp => by
      by_cases ep : p = i
      · rw [ep, pk_us]
      · rw [pk_un ep]; exact h p (by omega))))⟩)
/-- the symbol number k of a packed word -/
def rb_sy (pk : Int32) (k : Nat) : Int32 := ((pk.toUInt32 >>> ((4 * nI k).toUInt32 &&& Int32.toUInt32 31)).toInt32) &&& 15
theorem rb_sy_in (pk : Int32) (k : Nat) : ∃ j, j < 16 ∧ rb_sy pk k = nI j := pk_andE _ 4 (by decide)
theorem rb_xrep {post : St2 → Prop} {pos del n : Nat} {pk : Int32} (hd : pos + del ≤ L) (hL : L ≤ 64) (hn : L - del + n ≤ 64)
    (hp : ∀ tl', post (nI cap, nI Q, nI A, nI Z, nI (L - del + n), nI T, me, nI e, ed, kd, nx, so, rb_nt tx (rb_sy pk) L pos del n, tl', tok, xM, xR, xB)) : wpX_replaceText post (nI cap, nI Q, nI A, nI Z, nI L, nI T, me, nI e, ed, kd, nx, so, tx, tl, tok, xM, xR, xB) (nI pos) (nI del) (nI n) pk := by
  refine nm_r (show nI L - nI pos - nI del = nI (L - pos - del) by rw [pk_sub (by omega), pk_sub (by omega)]) ?_
  refine pk_loop (fun f i s => wX_replaceText_13 post (nI pos) (nI del) (nI n) pk (nI (L - pos - del)) (nI cap) (nI Q) (nI A) (nI Z) (nI L) (nI T) me (nI e) f (nI i) ed kd nx so tx s tok xM xR xB) (fun i s => ∀ j, j < i → s j = tx (pos + del + j)) (L - pos - del) 0 tl (Nat.zero_le _) lt_0 ?_ ?_
  · intro f s h
    refine pk_le (L - pos - del) (L - pos - del) (fun _ => ?_) (fun z => absurd z (by omega))
    have G := pk_loop (fun f i (_ : Unit) => wX_replaceText_47 post (nI pos) (nI n) pk (nI (L - pos - del)) (nI cap) (nI Q) (nI A) (nI Z) (nI L) (nI T) me (nI e) f (nI i) ed kd nx so (rb_w2 tx (rb_sy pk) pos i) s tok xM xR xB) (fun _ _ => True) n 0 () (Nat.zero_le _) trivial ?_ ?_
    · rw [rb_w2_0] at G
      exact G
    · intro f _ _
      refine pk_le n n (fun _ => ?_) (fun z => absurd z (by omega))
      have G := pk_loop (fun f i (_ : Unit) => wX_replaceText_78 post (nI pos) (nI n) (nI (L - pos - del)) (nI cap) (nI Q) (nI A) (nI Z) (nI L) (nI T) me (nI e) f (nI i) ed kd nx so (rb_w3 tx (rb_sy pk) pos del n i) s tok xM xR xB) (fun _ _ => True) (L - pos - del) 0 () (Nat.zero_le _) trivial ?_ ?_
      · rw [rb_w3_0] at G
        exact G
      · intro f _ _
        refine pk_le (L - pos - del) (L - pos - del) (fun _ => nm_r (show nI pos + nI n + nI (L - pos - del) = nI (L - del + n) by rw [nI_add, nI_add]; exact congrArg nI (by omega)) ?_) (fun z => absurd z (by omega))
        rw [rb_w3_e hd]
        exact hp s
      · intro f i _ hi _ hw
        have hw' := hw () trivial
        rw [← rb_w3_s] at hw'
        exact pk_le (L - pos - del) i (fun z => absurd z (by omega)) (fun _ => ⟨pk_in i 64 (by omega), pk_in (pos + n + i) 64 (by omega) (by rw [nI_add, nI_add]),
          nm_r (rb_ucl (by rw [nI_add, nI_add]) (by omega) (rb_rd rfl (by omega) (h i hi))) (nm_r (nI_1 i) hw')⟩)
    · intro f i _ hi _ hw
      have hw' := hw () trivial
      rw [← rb_w2_s] at hw'
      exact pk_le n i (fun z => absurd z (by omega)) (fun _ => ⟨pk_in (pos + i) 64 (by omega) (nI_add pos i), nm_r (rb_ucl (nI_add pos i) (by omega) rfl) (nm_r (nI_1 i) hw')⟩)
  · intro f i s hi h hw
    exact pk_le (L - pos - del) i (fun z => absurd z (by omega)) (fun _ => ⟨pk_in (pos + del + i) 64 (by omega) (by rw [nI_add, nI_add]), pk_in i 64 (by omega),
      nm_r (rb_ucl rfl (by omega) (rb_rcl (by rw [nI_add, nI_add]) (by omega))) (nm_r (nI_1 i) (hw _ (fun p hp => by
        by_cases ep : p = i
        · rw [ep, pk_us]
        · rw [pk_un ep]; exact h p (by omega))))⟩)
end
