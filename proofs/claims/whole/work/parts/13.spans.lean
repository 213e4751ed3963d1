/-! ===== the k-th HAS, spans, begins, ends ===== -/
def ph_fs (q : Nat → Int32) (k : Int32) : Nat → Nat → Int32 → Option Nat
  | 0, _, _ => none
  | r + 1, i, x => if q i = 23 then (if x = k then some i else ph_fs q k r (i + 1) (x + 1)) else ph_fs q k r (i + 1) x
section
variable {wd ln q np tr eb rw sk pl : Nat → Int32} {n d : Nat} {k : Int32}
theorem ph_fs_q : ∀ r i x j, ph_fs q k r i x = some j → i ≤ j ∧ j < i + r ∧ q j = 23 := by
  intro r
  induction r with
  | zero => intro i x j h; exact nomatch h
  | succ r ih =>
    intro i x j h
    have h' : (if q i = 23 then (if x = k then some i else ph_fs q k r (i + 1) (x + 1)) else ph_fs q k r (i + 1) x) = some j := h
    by_cases a : q i = 23
    · rw [if_pos a] at h'
      by_cases b : x = k
      · rw [if_pos b] at h'
        cases h'
        exact ⟨Nat.le_refl _, by omega, a⟩
      · rw [if_neg b] at h'
        have := ih _ _ _ h'
        exact ⟨by omega, by omega, this.2.2⟩
    · rw [if_neg a] at h'
      have := ih _ _ _ h'
      exact ⟨by omega, by omega, this.2.2⟩
theorem ph_x21 {post : Int32 → SX → Prop} {dd sd cd : Int32} (hn : n ≤ 12) : ∀ r i x, i + r = n →
    (ph_fs q k r i x = none → post (-1) (nI n, sd, cd, wd, ln, q, np, tr, eb)) →
    (∀ j, ph_fs q k r i x = some j → wpX_evaluate (fun u => post (nI (j + 1)) u) (nI n, sd, cd, wd, ln, q, np, tr, eb) dd) →
    wX_evaluatedExpression_21 post k dd (nI n) sd cd wd ln q np tr eb (r + 1) x (nI i) := by
  intro r
  induction r with
  | zero =>
    intro i x hi h0 h1
    rw [wX_evaluatedExpression_21]
    exact pk_le n i (fun _ => h0 rfl) (fun z => absurd z (by omega))
  | succ r ih =>
    intro i x hi h0 h1
    rw [wX_evaluatedExpression_21]
    dsimp only
    rw [nI_clamp (n := i) (by omega)]
    refine pk_le n i (fun z => absurd z (by omega)) (fun _ => ⟨vp_in_nI (by omega) (by decide), br_c (fun a => br_c (fun b => ?_) (fun b => ?_)) (fun a => ?_)⟩)
    · have e : ph_fs q k (r + 1) i x = some i := (if_pos a).trans (if_pos b)
      rw [nI_1]
      exact h1 i e
    · have e : ph_fs q k (r + 1) i x = ph_fs q k r (i + 1) (x + 1) := (if_pos a).trans (if_neg b)
      rw [e] at h0 h1
      exact nm_e (nm_r (nI_1 i) (ih (i + 1) (x + 1) (by omega) h0 h1))
    · have e : ph_fs q k (r + 1) i x = ph_fs q k r (i + 1) x := if_neg a
      rw [e] at h0 h1
      exact nm_r (nI_1 i) (ih (i + 1) x (by omega) h0 h1)
theorem ph_y27 {post : Int32 → SY → Prop} (hn : n ≤ 12) : ∀ r i x, i + r = n →
    (ph_fs q k r i x = none → post (-1) (nI n, ln, wd, q, rw, sk, pl)) →
    (∀ j, ph_fs q k r i x = some j → post (nI (j + 1)) (nI n, ln, wd, q, rw, sk, pl)) →
    wY_find_27 post k (nI n) ln wd q rw sk pl (r + 1) x (nI i) := by
  intro r
  induction r with
  | zero =>
    intro i x hi h0 h1
    rw [wY_find_27]
    exact pk_le n i (fun _ => h0 rfl) (fun z => absurd z (by omega))
  | succ r ih =>
    intro i x hi h0 h1
    rw [wY_find_27]
    dsimp only
    rw [nI_clamp (n := i) (by omega)]
    refine pk_le n i (fun z => absurd z (by omega)) (fun _ => ⟨vp_in_nI (by omega) (by decide), br_c (fun a => br_c (fun b => ?_) (fun b => ?_)) (fun a => ?_)⟩)
    · have e : ph_fs q k (r + 1) i x = some i := (if_pos a).trans (if_pos b)
      rw [nI_1]
      exact h1 i e
    · have e : ph_fs q k (r + 1) i x = ph_fs q k r (i + 1) (x + 1) := (if_pos a).trans (if_neg b)
      rw [e] at h0 h1
      exact nm_e (nm_r (nI_1 i) (ih (i + 1) (x + 1) (by omega) h0 h1))
    · have e : ph_fs q k (r + 1) i x = ph_fs q k r (i + 1) x := if_neg a
      rw [e] at h0 h1
      exact nm_r (nI_1 i) (ih (i + 1) x (by omega) h0 h1)
/-- what is found: the token behind the k-th HAS of a complete query -/
def ph_fd (q : Nat → Int32) (n : Nat) (k : Int32) : Option Nat := if (ph_c q n).1 + (ph_c q n).2 = 0 then ph_fs q k n 0 0 else none
theorem ph_fd_s (R : ph_R n wd ln q) {j : Nat} (h : ph_fd q n k = some j) : (ph_c q n).1 + (ph_c q n).2 = 0 ∧ j + 1 < n ∧ ph_t q (j + 1) ≤ 18 := by
  unfold ph_fd at h
  by_cases C : (ph_c q n).1 + (ph_c q n).2 = 0
  · rw [if_pos C] at h
    obtain ⟨_, hj, e⟩ := ph_fs_q _ _ _ _ h
    have t23 : ph_t q j = 23 := ph_t_of (t := 23) e (by decide)
    have K := ph_kinds (R.2.1 j (by omega))
    have c1 : (ph_c q (j + 1)).1 = 1 := by omega
    have jn : j + 1 < n := by
      by_cases z : j + 1 = n
      · rw [z] at c1; omega
      · omega
    have := (R.2.1 (j + 1) jn).2
    exact ⟨C, jn, by omega⟩
  · rw [if_neg C] at h; exact nomatch h
theorem ph_eeX {post : Int32 → SX → Prop} (R : ph_R n wd ln q) (hd : d < 6)
    (h0 : ph_fd q n k = none → post (-1) (nI n, nI (ph_c q n).1, nI (ph_c q n).2, wd, ln, q, np, tr, eb))
    (h1 : ∀ j, ph_fd q n k = some j → ∀ np tr eb, (∀ b, b < 24 → eb (24 * (j + 1) + b) = ph_V wd (24 * d) (ph_l ln d) q n 0 (j + 1) b) → post (nI (j + 1)) (nI n, nI (ph_c q n).1, nI (ph_c q n).2, wd, ln, q, np, tr, eb)) :
    wpX_evaluatedExpression post (nI n, nI (ph_c q n).1, nI (ph_c q n).2, wd, ln, q, np, tr, eb) k (nI d) := by
  have B := ph_c_le q n
  have hn := R.1
  unfold wpX_evaluatedExpression
  dsimp only
  refine ph_xd1 hd (br_f (by decide) (ph_xc (by omega) ?_))
  by_cases C : (ph_c q n).1 + (ph_c q n).2 = 0
  · have e : ph_fd q n k = ph_fs q k n 0 0 := if_pos C
    refine br_f (by rw [show ph_cp (ph_c q n) = 1 from if_pos C]; decide) ⟨n + 1, ph_x21 hn n 0 0 (by omega) (fun z => h0 (e.trans z)) (fun j hj => ?_)⟩
    obtain ⟨_, j1, j2⟩ := ph_fd_s R (e.trans hj)
    exact ph_eX R hd C (fun np tr eb X => h1 j (e.trans hj) np tr eb (X.2.1 (j + 1) (Nat.zero_le _) j1 j2))
  · exact br_t (if_neg C) (h0 (if_neg C))
theorem ph_fdY {post : Int32 → SY → Prop} (R : ph_R n wd ln q) (hd : d < 6)
    (h0 : ph_fd q n k = none → ∀ rw sk pl, post (-1) (nI n, ln, wd, q, rw, sk, pl))
    (h1 : ∀ j, ph_fd q n k = some j → ∀ rw sk pl, (∀ b, b < 24 → rw (24 * (j + 1) + b) = ph_V wd (24 * d) (ph_l ln d) q n 0 (j + 1) b) → post (nI (j + 1)) (nI n, ln, wd, q, rw, sk, pl)) :
    wpY_find post (nI n, ln, wd, q, rw, sk, pl) k (nI d) := by
  have hn := R.1
  unfold wpY_find
  dsimp only
  refine ph_yd1 hd (br_f (by decide) (ph_yc R.1 R.2.1 (fun pl' => ?_)))
  dsimp only
  by_cases C : (ph_c q n).1 + (ph_c q n).2 = 0
  · have e : ph_fd q n k = ph_fs q k n 0 0 := if_pos C
    refine br_f (by rw [show ph_cp (ph_c q n) = 1 from if_pos C]; decide) (ph_wY R hd C (fun rw sk Y => ?_))
    dsimp only
    refine ⟨n + 1, ph_y27 hn n 0 0 (by omega) (fun z => h0 (e.trans z) rw sk pl') (fun j hj => ?_)⟩
    obtain ⟨_, j1, j2⟩ := ph_fd_s R (e.trans hj)
    exact h1 j (e.trans hj) rw sk pl' (Y.2.1 (j + 1) (Nat.zero_le _) j1 j2)
  · exact br_t (if_neg C) (h0 (if_neg C) rw sk pl')
theorem ph_eeX0 {post : Int32 → SX → Prop} {st : SX} {dd : Int32} (h : dd < 0 ∨ nI 6 ≤ dd) (h0 : post (-1) st) : wpX_evaluatedExpression post st k dd := by
  obtain ⟨a1, a2, a3, a4, a5, a6, a7, a8, a9⟩ := st
  unfold wpX_evaluatedExpression
  dsimp only
  exact ph_xd0 h (br_t rfl h0)
theorem ph_fdY0 {post : Int32 → SY → Prop} {st : SY} {dd : Int32} (h : dd < 0 ∨ nI 6 ≤ dd) (h0 : post (-1) st) : wpY_find post st k dd := by
  obtain ⟨a1, a2, a3, a4, a5, a6, a7⟩ := st
  unfold wpY_find
  dsimp only
  exact ph_yd0 h (br_t rfl h0)
end
/-! spans -/
def ph_bc (x : Int32) : Nat → Int32
  | 0 => 0
  | m + 1 => ph_bc x m + ((x >>> (nI m &&& 31)) &&& 1)
def ph_sc (v : Nat → Int32) : Nat → Int32
  | 0 => 0
  | b + 1 => ph_sc v b + ph_bc (v b) 24
section
variable {f sd cd : Int32} {wd ln q np tr eb rw sk pl v : Nat → Int32} {s : Nat}
theorem ph_bcX {p : Int32 → Prop} {x : Int32} (H : p (ph_bc x 24)) : wpX_bitCount p x := by
  have L : ∀ r m, m + r = 24 → wX_bitCount_4 p x (r + 1) (ph_bc x m) (nI m) := by
    intro r
    induction r with
    | zero =>
      intro m hm
      have e : m = 24 := by omega
      subst e
      rw [wX_bitCount_4]
      exact br_t (nI_le (a := 24) (b := 24) (by omega) (by decide)) H
    | succ r ih =>
      intro m hm
      have j := ih (m + 1) (by omega)
      rw [wX_bitCount_4]
      exact br_f (nI_ge (b := 24) (by omega) (by decide)) (nm_e (nm_r (nI_1 m) j))
  unfold wpX_bitCount
  exact ⟨25, L 24 0 (by omega)⟩
theorem ph_scX {post : Int32 → SX → Prop} (hs : s ≤ 12) (ev : ∀ b, b < 24 → eb (24 * s + b) = v b) (H : post (ph_sc v 24) (f, sd, cd, wd, ln, q, np, tr, eb)) :
    ∀ r b, b + r = 24 → wX_spans_20 post (nI s) f sd cd wd ln q np tr eb (r + 1) (ph_sc v b) (nI b) := by
  intro r
  induction r with
  | zero =>
    intro b hb
    have e : b = 24 := by omega
    subst e
    rw [wX_spans_20]
    exact br_t (nI_le (a := 24) (b := 24) (by omega) (by decide)) H
  | succ r ih =>
    intro b hb
    have j := ih (b + 1) (by omega)
    rw [wX_spans_20]
    dsimp only
    rw [ph_ix s b, nI_clamp (n := 24 * s + b) (by omega), ev b (by omega)]
    exact br_f (nI_ge (b := 24) (by omega) (by decide)) ⟨vp_in_nI (by omega) (by decide), ph_bcX (nm_e (nm_r (nI_1 b) j))⟩
theorem ph_scY {post : Int32 → SY → Prop} (hs : s < 12) (ev : ∀ b, b < 24 → rw (24 * s + b) = v b) (H : post (ph_sc v 24) (f, ln, wd, q, rw, sk, pl)) :
    ∀ r b e, e < 24 → 24 * b + e + r = 576 → wY_spans_21 post (nI s) f ln wd q rw sk pl (r + 1) (ph_sc v b + ph_bc (v b) e) (nI (24 * b + e)) := by
  intro r
  induction r with
  | zero =>
    intro b e he hb
    have e1 : b = 24 := by omega
    have e2 : e = 0 := by omega
    subst e1 e2
    rw [wY_spans_21, show ph_bc (v 24) 0 = 0 from rfl, Int32.add_zero]
    exact br_t (nI_le (a := 576) (b := 576) (by omega) (by decide)) H
  | succ r ih =>
    intro b e he hc
    have hb : b < 24 := by omega
    have i : wY_spans_21 post (nI s) f ln wd q rw sk pl (r + 1) (ph_sc v b + ph_bc (v b) (e + 1)) (nI (24 * b + e + 1)) := by
      by_cases z : e + 1 < 24
      · exact ih b (e + 1) z (by omega)
      · have e1 : e = 23 := by omega
        have j := ih (b + 1) 0 (by omega) (by omega)
        rw [show ph_bc (v (b + 1)) 0 = 0 from rfl, Int32.add_zero] at j
        subst e1
        exact j
    rw [show ph_bc (v b) (e + 1) = ph_bc (v b) e + ((v b >>> (nI e &&& 31)) &&& 1) from rfl, ← Int32.add_assoc] at i
    rw [wY_spans_21]
    dsimp only
    rw [show (24 : Int32) = nI 24 from rfl, pk_rem (a := 24 * b + e) (by omega) (by omega) (by omega), pk_div (a := 24 * b + e) (by omega) (by omega) (by omega), show (24 * b + e) / 24 = b by omega, show (24 * b + e) % 24 = e by omega, pk_mul, nI_add, nI_clamp (n := 24 * s + b) (by omega), ev b hb]
    exact br_f (nI_ge (b := 576) (by omega) (by decide)) (br_f (nI_pos (by omega)) ⟨by decide, vp_in_nI (by omega) (by decide), by decide, nm_e (nm_r (nI_1 _) i)⟩)
end
theorem ph_spX {n k : Nat} {k1 : Int32} {wd ln q np tr eb rw sk pl : Nat → Int32} {d : Nat} (R : ph_R n wd ln q) (hd : d < 6) :
    wpX_spans (fun r u' => wpY_spans (fun r' v' => r' = r ∧ i_Rel (k + 4) u' v') (nI n, ln, wd, q, rw, sk, pl) k1 (nI d)) (nI n, nI (ph_c q n).1, nI (ph_c q n).2, wd, ln, q, np, tr, eb) k1 (nI d) := by
  have hn := R.1
  unfold wpX_spans
  dsimp only
  refine ph_eeX R hd (fun h => ?_) (fun j h np tr eb ev => ?_)
  · dsimp only
    refine br_t rfl ?_
    unfold wpY_spans
    dsimp only
    refine ph_fdY R hd (fun _ rw sk pl => ?_) (fun j' h' => absurd (h.symm.trans h') (by simp))
    dsimp only
    refine br_f (by decide) ⟨1, ?_⟩
    rw [wY_spans_21]
    exact br_f (by decide) (br_t (by decide) ⟨rfl, ph_mk R⟩)
  · obtain ⟨_, jn, _⟩ := ph_fd_s R h
    dsimp only
    refine br_f ?_ ⟨25, ph_scX (by omega) ev ?_ 24 0 (by omega)⟩
    · intro z
      have y : ¬ nI (j + 1) < 0 := nI_pos (by omega)
      rw [z] at y
      exact y (by decide)
    · unfold wpY_spans
      dsimp only
      refine ph_fdY R hd (fun h' => absurd (h.symm.trans h') (by simp)) (fun j' h' rw sk pl ev' => ?_)
      have e : j' = j := by
        have := h.symm.trans h'
        cases this
        rfl
      subst e
      dsimp only
      have L := ph_scY (f := nI n) (wd := wd) (ln := ln) (q := q) (sk := sk) (pl := pl) (post := fun r' v' => r' = ph_sc (ph_V wd (24 * d) (ph_l ln d) q n 0 (j' + 1)) 24 ∧ i_Rel (k + 4) (nI n, nI (ph_c q n).1, nI (ph_c q n).2, wd, ln, q, np, tr, eb) v') (s := j' + 1) (by omega) ev' ⟨rfl, ph_mk R⟩ 576 0 0 (by omega) (by omega)
      rw [show ph_sc (ph_V wd (24 * d) (ph_l ln d) q n 0 (j' + 1)) 0 + ph_bc (ph_V wd (24 * d) (ph_l ln d) q n 0 (j' + 1) 0) 0 = 0 from rfl] at L
      exact br_t (nI_pos' (by omega)) ⟨577, L⟩
theorem i_vc_spans {k : Nat} {u : SX} {v : SY} (I : i_Rel k u v) (hk : k + 4 ≤ 2048) (v1 : Int32) (v2 : Int32) : wpX_spans (fun r u' => wpY_spans (fun r' v' => r' = r ∧ i_Rel (k + 4) u' v') v v1 v2) u v1 v2 := by
  obtain ⟨n, wd, ln, q, np, tr, eb, rw, sk, pl, rfl, rfl, R⟩ := I
  have A : ∀ {v2 : Int32}, (v2 < 0 ∨ nI 6 ≤ v2) → wpX_spans (fun r u' => wpY_spans (fun r' v' => r' = r ∧ i_Rel (k + 4) u' v') (nI n, ln, wd, q, rw, sk, pl) v1 v2) (nI n, nI (ph_c q n).1, nI (ph_c q n).2, wd, ln, q, np, tr, eb) v1 v2 := fun {v2} h => by
    unfold wpX_spans
    dsimp only
    refine ph_eeX0 h ?_
    dsimp only
    refine br_t rfl ?_
    unfold wpY_spans
    dsimp only
    refine ph_fdY0 h ?_
    dsimp only
    refine br_f (by decide) ⟨1, ?_⟩
    rw [wY_spans_21]
    exact br_f (by decide) (br_t (by decide) ⟨rfl, ph_mk R⟩)
  rcases pk_ix v2 (n := 6) (by omega) with h | h | ⟨d, hd, rfl⟩
  · exact A (Or.inl h)
  · exact A (Or.inr h)
  · exact ph_spX R hd
