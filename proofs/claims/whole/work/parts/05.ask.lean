/-! ===== due, ask, unask, complete ===== -/
theorem ph_py {post : Int32 → Prop} {u : SY} {t : Nat} (ht : t < 100) (p : post (nI (ph_par t))) : wpY_parts post u (nI t) := by
  obtain ⟨a, b, c, d, e, f, g⟩ := u
  unfold wpY_parts
  dsimp only
  refine pk_lt 11 t (fun h => pk_lt t 22 (fun h2 => ?_) (fun h2 => ?_)) (fun h => ?_)
  · rw [ph_par_2 (by omega) (by omega)] at p; exact p
  · rw [ph_par_1 h2] at p; exact p
  · rw [ph_par_0 h] at p; exact p
theorem ph_par_le (t : Nat) : ph_par t ≤ 2 := by
  unfold ph_par
  split
  · omega
  · split <;> omega
def ph_pf (c : Int32) : Nat → Nat → (Nat → Int32) → (Nat → Int32)
  | 0, _, pl => pl
  | r + 1, x, pl => ph_pf c r (x + 1) (upd pl x c)
theorem ph_pf_at (c : Int32) (j : Nat) : ∀ r x (pl : Nat → Int32), ph_pf c r x pl j = if x ≤ j ∧ j < x + r then c else pl j := by
  intro r
  induction r with
  | zero => intro x pl; rw [if_neg (by omega)]; rfl
  | succ r ih =>
    intro x pl
    show ph_pf c r (x + 1) (upd pl x c) j = _
    rw [ih]
    by_cases h : j = x
    · subst h; rw [if_neg (by omega), if_pos (by omega), pk_us]
    · rw [pk_un h]
      by_cases h2 : x + 1 ≤ j ∧ j < x + 1 + r
      · rw [if_pos h2, if_pos (by omega)]
      · rw [if_neg h2, if_neg (by omega)]
def ph_val (t : Nat) : Int32 := if t < 20 ∨ 22 < t then 2 else 1
theorem ph_d40 {post : Int32 → SY → Prop} {J : Int32 → Int32 → (Nat → Int32) → (Nat → Int32) → (Nat → Int32) → (Nat → Int32) → (Nat → Int32) → (Nat → Int32) → Prop} {k p t : Nat} {f : Int32} {sz wd q rw sk : Nat → Int32} (hq : q k = nI t) (hk : k < 12) (ht : t < 100) (hp : p < 100) :
    ∀ r i x (pl : Nat → Int32), i + r = p → x + r ≤ 24 → J (nI (x + r)) (nI (k + 1)) sz wd q rw sk (ph_pf (ph_val t) r x pl) → wY_due_40 post J (nI k) (nI p) f (r + 1) (nI x) (nI i) sz wd q rw sk pl := by
  intro r
  induction r with
  | zero =>
    intro i x pl hi hx h
    rw [wY_due_40]
    exact pk_le p i (fun _ => nm_r (nI_1 k) h) (fun z => absurd z (by omega))
  | succ r ih =>
    intro i x pl hi hx h
    rw [wY_due_40]
    dsimp only
    rw [nI_clamp (n := k) (by omega), nI_clamp (n := x) (by omega), hq]
    have hn := ih (i + 1) (x + 1) (upd pl x (ph_val t)) (by omega) (by omega) (by rw [show x + 1 + r = x + (r + 1) by omega]; exact h)
    refine pk_le p i (fun z => absurd z (by omega)) (fun _ => ⟨vp_in_nI hk (by decide), pk_lt t 20 (fun h => ?_) (fun h => ⟨vp_in_nI hk (by decide), pk_lt 22 t (fun h2 => ?_) (fun h2 => ?_)⟩)⟩)
    · refine ⟨vp_in_nI (by omega) (by decide), nm_e (nm_r (nI_1 x) (nm_r (nI_1 i) ?_))⟩
      rw [show ph_val t = 2 from if_pos (Or.inl h)] at hn
      exact hn
    · refine ⟨vp_in_nI (by omega) (by decide), nm_e (nm_r (nI_1 x) (nm_r (nI_1 i) ?_))⟩
      rw [show ph_val t = 2 from if_pos (Or.inr h2)] at hn
      exact hn
    · refine ⟨vp_in_nI (by omega) (by decide), nm_e (nm_r (nI_1 x) (nm_r (nI_1 i) ?_))⟩
      rw [show ph_val t = 1 from if_neg (by omega)] at hn
      exact hn
/-- the places hold first the conditions due, then the spans due -/
def ph_PL (p : Nat × Nat) (pl : Nat → Int32) : Prop := (∀ j, j < p.2 → pl j = 1) ∧ (∀ j, p.2 ≤ j → j < p.1 + p.2 → pl j = 2)
def ph_kd (p : Nat × Nat) : Int32 := if p.1 + p.2 = 0 then 0 else if 0 < p.1 then 2 else 1
theorem ph_PL_s {q : Nat → Int32} {k m : Nat} {pl : Nat → Int32} (ok : ph_ok q k) (hm : (ph_c q k).1 + (ph_c q k).2 = m + 1) (h : ph_PL (ph_c q k) pl) :
    (ph_c q (k + 1)).1 + (ph_c q (k + 1)).2 = m + ph_par (ph_t q k) ∧ ph_PL (ph_c q (k + 1)) (ph_pf (ph_val (ph_t q k)) (ph_par (ph_t q k)) m pl) := by
  obtain ⟨h1, h2⟩ := h
  have K := ph_kinds ok
  generalize ph_c q (k + 1) = p' at K ⊢
  generalize ph_c q k = p at K hm h1 h2 ⊢
  generalize ph_t q k = t at K ⊢
  have V : (ph_val t = 2 ∧ (t < 20 ∨ 22 < t)) ∨ (ph_val t = 1 ∧ ¬ (t < 20 ∨ 22 < t)) := by
    by_cases z : t < 20 ∨ 22 < t
    · exact Or.inl ⟨if_pos z, z⟩
    · exact Or.inr ⟨if_neg z, z⟩
  refine ⟨by omega, fun j hj => ?_, fun j hj hj2 => ?_⟩
  · rw [ph_pf_at]
    split
    · rcases V with ⟨v, z⟩ | ⟨v, z⟩
      · omega
      · exact v
    · exact h1 j (by omega)
  · rw [ph_pf_at]
    split
    · rcases V with ⟨v, z⟩ | ⟨v, z⟩
      · exact v
      · omega
    · exact h2 j (by omega) (by omega)
theorem ph_d11 {post : Int32 → SY → Prop} {n : Nat} {sz wd q rw sk : Nat → Int32} (hn : n ≤ 12) (ok : ∀ i, i < n → ph_ok q i)
    (H : ∀ pl', post (ph_kd (ph_c q n)) (nI n, sz, wd, q, rw, sk, pl')) :
    ∀ r k (pl : Nat → Int32), k + r = n → ph_PL (ph_c q k) pl → wY_due_11 post (nI n) (r + 1) (nI ((ph_c q k).1 + (ph_c q k).2)) (nI k) sz wd q rw sk pl := by
  intro r
  induction r with
  | zero =>
    intro k pl hk h
    have e : k = n := by omega
    subst e
    have B := ph_c_le q k
    rw [wY_due_11]
    refine pk_le k k (fun _ => ?_) (fun z => absurd z (by omega))
    unfold wY_due_94
    have H' := H pl
    obtain ⟨h1, h2⟩ := h
    generalize ph_c q k = p at *
    refine pk_eq (p.1 + p.2) 0 (fun z => ?_) (fun z => ?_)
    · rw [show ph_kd p = 0 from if_pos z] at H'; exact H'
    · obtain ⟨m, hm⟩ : ∃ m, p.1 + p.2 = m + 1 := ⟨p.1 + p.2 - 1, by omega⟩
      rw [hm, nI_pred, nI_clamp (n := m) (by omega)]
      refine ⟨vp_in_nI (by omega) (by decide), ?_⟩
      have e : ph_kd p = pl m := by
        unfold ph_kd
        rw [if_neg z]
        split
        · exact (h2 m (by omega) (by omega)).symm
        · exact (h1 m (by omega)).symm
      rw [← e]; exact H'
  | succ r ih =>
    intro k pl hk h
    have B := ph_c_le q k
    have o := ok k (by omega)
    have P := ph_ok_pos o
    have L := ph_ok_le o
    obtain ⟨m, hm⟩ : ∃ m, (ph_c q k).1 + (ph_c q k).2 = m + 1 := ⟨(ph_c q k).1 + (ph_c q k).2 - 1, by omega⟩
    obtain ⟨e, h'⟩ := ph_PL_s o hm h
    rw [wY_due_11]
    dsimp only
    rw [hm, nI_clamp (n := k) (by omega), o.1]
    refine pk_le n k (fun z => absurd z (by omega)) (fun _ => pk_le (m + 1) 0 (fun z => absurd z (by omega)) (fun _ => nm_r (pk_m1 m) ⟨vp_in_nI (by omega) (by decide), ?_⟩))
    have i := ih (k + 1) _ (by omega) h'
    rw [e] at i
    have Q := ph_par_le (ph_t q k)
    exact ph_py (by omega) ⟨_, ph_d40 o.1 (by omega) (by omega) (by omega) (ph_par (ph_t q k)) 0 m pl (by omega) (by omega) i⟩
theorem ph_due {post : Int32 → SY → Prop} {n : Nat} {sz wd q rw sk pl : Nat → Int32} (hn : n ≤ 12) (ok : ∀ i, i < n → ph_ok q i)
    (H : ∀ pl', post (ph_kd (ph_c q n)) (nI n, sz, wd, q, rw, sk, pl')) : wpY_due post (nI n, sz, wd, q, rw, sk, pl) := by
  unfold wpY_due
  dsimp only
  refine nm_e ⟨n + 1, ?_⟩
  exact ph_d11 hn ok H n 0 _ (by omega) ⟨fun j hj => by
    have e : j = 0 := by have : (ph_c q 0).2 = 1 := rfl
                         omega
    subst e; exact pk_us, fun j hj hj2 => by
    have : (ph_c q 0).2 = 1 := rfl
    have : (ph_c q 0).1 = 0 := rfl
    omega⟩
/-- complete: 1 or 0 -/
def ph_cp (p : Nat × Nat) : Int32 := if p.1 + p.2 = 0 then 1 else 0
theorem ph_xc {post : Int32 → Prop} {p : Nat × Nat} {a : Int32} {wd ln q np tr eb : Nat → Int32} (h1 : p.1 + p.2 < 100) (h : post (ph_cp p)) : wpX_complete post (a, nI p.1, nI p.2, wd, ln, q, np, tr, eb) := by
  unfold wpX_complete
  dsimp only
  unfold ph_cp at h
  refine pk_eq p.1 0 (fun z => pk_eq p.2 0 (fun y => ?_) (fun y => ?_)) (fun z => ?_)
  · rw [if_pos (by omega)] at h; exact h
  · rw [if_neg (by omega)] at h; exact h
  · rw [if_neg (by omega)] at h; exact h
theorem ph_yc {post : Int32 → SY → Prop} {n : Nat} {sz wd q rw sk pl : Nat → Int32} (hn : n ≤ 12) (ok : ∀ i, i < n → ph_ok q i)
    (H : ∀ pl', post (ph_cp (ph_c q n)) (nI n, sz, wd, q, rw, sk, pl')) : wpY_complete post (nI n, sz, wd, q, rw, sk, pl) := by
  unfold wpY_complete
  dsimp only
  refine ph_due hn ok (fun pl' => ?_)
  have h := H pl'
  dsimp only
  unfold ph_cp at h
  unfold ph_kd
  by_cases z : (ph_c q n).1 + (ph_c q n).2 = 0
  · rw [if_pos z] at h
    rw [if_pos z]
    exact br_t rfl h
  · rw [if_neg z] at h
    rw [if_neg z]
    split
    · exact br_f (by decide) h
    · exact br_f (by decide) h
theorem i_vc_complete {k : Nat} {u : SX} {v : SY} (I : i_Rel k u v) (hk : k + 4 ≤ 2048) : wpX_complete (fun r => wpY_complete (fun r' v' => r' = r ∧ i_Rel (k + 4) u v') v) u := by
  obtain ⟨n, wd, ln, q, np, tr, eb, rw, sk, pl, rfl, rfl, R⟩ := I
  have B := ph_c_le q n
  have hn := R.1
  exact ph_xc (by omega) (ph_yc R.1 R.2.1 (fun pl' => ⟨rfl, ph_mk R⟩))
theorem ph_subm (x : Int32) : x - (-1) = x + 1 := by rw [Int32.sub_eq_add_neg]; rfl
/-- a token comes: the counts go on -/
theorem ph_cd1 {post : SX → Prop} {p : Nat × Nat} {t : Nat} {a : Int32} {wd ln q np tr eb : Nat → Int32} (hp : p.1 + p.2 < 100) (ht : (0 < p.1 ∧ t ≤ 18) ∨ (p.1 = 0 ∧ 0 < p.2 ∧ 20 ≤ t ∧ t ≤ 23))
    (h : post (a, nI (ph_cs t p).1, nI (ph_cs t p).2, wd, ln, q, np, tr, eb)) : wpX_countDue post (a, nI p.1, nI p.2, wd, ln, q, np, tr, eb) (nI t) 1 := by
  unfold wpX_countDue
  dsimp only
  unfold ph_cs at h
  by_cases h1 : t ≤ 11
  · rw [if_pos h1] at h
    obtain ⟨m, hm⟩ : ∃ m, p.1 = m + 1 := ⟨p.1 - 1, by omega⟩
    refine ph_xw1 (by omega) (br_f (by decide) ?_)
    dsimp only at h
    rw [hm, Nat.add_sub_cancel] at h
    rw [hm]
    exact nm_r (nI_pred m) h
  · refine ph_xw0 (Or.inr (nI_le (by omega) (by omega))) (br_t rfl ?_)
    rw [if_neg h1] at h
    by_cases h2 : t ≤ 18
    · rw [if_pos h2] at h
      exact ph_xs1 (by omega) (br_f (by decide) (nm_r (nI_1 _) h))
    · rw [if_neg h2] at h
      refine ph_xs0 (Or.inr (nI_le (by omega) (by omega))) (br_t rfl ?_)
      refine pk_eq t 23 (fun h3 => ?_) (fun h3 => pk_eq t 22 (fun h4 => ?_) (fun h4 => ?_))
      · rw [if_pos h3] at h
        obtain ⟨m, hm⟩ : ∃ m, p.2 = m + 1 := ⟨p.2 - 1, by omega⟩
        dsimp only at h
        rw [hm, Nat.add_sub_cancel] at h
        rw [hm]
        exact nm_r (nI_pred m) (nm_r (nI_1 _) h)
      · rw [if_neg h3, if_pos h4] at h
        exact h
      · rw [if_neg h3, if_neg h4] at h
        exact nm_r (nI_1 _) h
/-- a token goes: the counts go back -/
theorem ph_cdm {post : SX → Prop} {p : Nat × Nat} {t : Nat} {a : Int32} {wd ln q np tr eb : Nat → Int32} (hp : p.1 + p.2 < 100) (ht : (0 < p.1 ∧ t ≤ 18) ∨ (p.1 = 0 ∧ 0 < p.2 ∧ 20 ≤ t ∧ t ≤ 23))
    (h : post (a, nI p.1, nI p.2, wd, ln, q, np, tr, eb)) : wpX_countDue post (a, nI (ph_cs t p).1, nI (ph_cs t p).2, wd, ln, q, np, tr, eb) (nI t) (-1) := by
  unfold wpX_countDue
  dsimp only
  unfold ph_cs
  by_cases h1 : t ≤ 11
  · rw [if_pos h1]
    obtain ⟨m, hm⟩ : ∃ m, p.1 = m + 1 := ⟨p.1 - 1, by omega⟩
    refine ph_xw1 (by omega) (br_f (by decide) ?_)
    dsimp only
    rw [hm] at h
    rw [hm, Nat.add_sub_cancel, ph_subm]
    exact nm_r (nI_1 m) h
  · refine ph_xw0 (Or.inr (nI_le (by omega) (by omega))) (br_t rfl ?_)
    rw [if_neg h1]
    by_cases h2 : t ≤ 18
    · rw [if_pos h2]
      exact ph_xs1 (by omega) (br_f (by decide) (nm_r (pk_m1 _) h))
    · rw [if_neg h2]
      refine ph_xs0 (Or.inr (nI_le (by omega) (by omega))) (br_t rfl ?_)
      refine pk_eq t 23 (fun h3 => ?_) (fun h3 => pk_eq t 22 (fun h4 => ?_) (fun h4 => ?_))
      · rw [if_pos h3]
        obtain ⟨m, hm⟩ : ∃ m, p.2 = m + 1 := ⟨p.2 - 1, by omega⟩
        dsimp only
        rw [hm] at h
        rw [hm, Nat.add_sub_cancel, ph_subm]
        exact nm_r (nI_1 m) (nm_r (pk_m1 _) h)
      · rw [if_neg h3, if_pos h4]
        exact h
      · rw [if_neg h3, if_neg h4]
        exact nm_r (pk_m1 _) h
theorem i_vc_unask {k : Nat} {u : SX} {v : SY} (I : i_Rel k u v) (hk : k + 4 ≤ 2048) : wpX_unask (fun r u' => wpY_unask (fun r' v' => r' = r ∧ i_Rel (k + 4) u' v') v) u := by
  obtain ⟨n, wd, ln, q, np, tr, eb, rw, sk, pl, rfl, rfl, R⟩ := I
  have hn := R.1
  unfold wpX_unask
  dsimp only
  refine pk_lt 0 n (fun h => ?_) (fun h => ?_)
  · obtain ⟨m, rfl⟩ : ∃ m, n = m + 1 := ⟨n - 1, by omega⟩
    have o := R.2.1 m (by omega)
    have B := ph_c_le q m
    refine nm_r (nI_pred m) ⟨vp_in_nI (by omega) (by decide), ?_⟩
    rw [nI_clamp (n := m) (by omega), o.1]
    refine nm_e ?_
    rw [ph_c_s]
    refine ph_cdm (by omega) o.2 ?_
    dsimp only
    unfold wpY_unask
    dsimp only
    refine br_f (nI_ne0 (by omega) (by omega)) (nm_r (nI_pred m) ⟨vp_in_nI (by omega) (by decide), ?_⟩)
    rw [nI_clamp (n := m) (by omega), o.1]
    exact ⟨rfl, ph_mk ⟨by omega, fun i hi => R.2.1 i (by omega), R.2.2⟩⟩
  · have e : n = 0 := by omega
    subst e
    unfold wpY_unask
    dsimp only
    exact br_t rfl ⟨rfl, ph_mk R⟩
theorem ph_ya0 {post : Int32 → SY → Prop} {x r f : Int32} {sz wd q rw sk pl : Nat → Int32} (hx : x < 0 ∨ nI 24 ≤ x ∨ x = nI 19) (h : post (-1) (f, sz, wd, q, rw, sk, pl)) :
    ((x < 0 → (wY_ask_35 post x r f sz wd q rw sk pl)) ∧ (¬ x < 0 → (((18 < x → (wY_ask_35 post x r f sz wd q rw sk pl)) ∧ (¬ 18 < x → (wY_ask_36 post x r 1 f sz wd q rw sk pl)))))) := by
  have E : wY_ask_54 post x r 0 0 f sz wd q rw sk pl := br_c (fun _ => br_t rfl h) (fun _ => br_t rfl h)
  refine br_c (fun z => ?_) (fun z => ?_)
  · unfold wY_ask_35 wY_ask_36 wY_ask_53
    exact br_c (fun _ => E) (fun _ => br_c (fun _ => E) (fun y => absurd (Int32.lt_trans z (by decide : (0 : Int32) < 20)) (by assumption)))
  · obtain ⟨j, hj, rfl⟩ := nI_of z
    have hj2 : 24 ≤ j ∨ j = 19 := by
      rcases hx with h | h | h
      · exact absurd h z
      · exact Or.inl ((nI_leI (by omega) hj).mp h)
      · exact Or.inr ((nI_eq hj (by omega)).mp h)
    refine pk_lt 18 j (fun _ => ?_) (fun _ => absurd hj2 (by omega))
    unfold wY_ask_35 wY_ask_36 wY_ask_53
    exact pk_lt j 20 (fun _ => E) (fun _ => pk_lt 23 j (fun _ => E) (fun _ => absurd hj2 (by omega)))
theorem ph_ya1 {post : Int32 → SY → Prop} {t : Nat} {r f : Int32} {sz wd q rw sk pl : Nat → Int32} (ht : t ≤ 18) (h : wY_ask_54 post (nI t) r 1 0 f sz wd q rw sk pl) :
    ((nI t < 0 → (wY_ask_35 post (nI t) r f sz wd q rw sk pl)) ∧ (¬ nI t < 0 → (((18 < nI t → (wY_ask_35 post (nI t) r f sz wd q rw sk pl)) ∧ (¬ 18 < nI t → (wY_ask_36 post (nI t) r 1 f sz wd q rw sk pl)))))) := by
  refine br_f (nI_pos (by omega)) (pk_lt 18 t (fun z => absurd z (by omega)) (fun _ => ?_))
  unfold wY_ask_36 wY_ask_53
  exact pk_lt t 20 (fun _ => h) (fun z => absurd z (by omega))
theorem ph_ya2 {post : Int32 → SY → Prop} {t : Nat} {r f : Int32} {sz wd q rw sk pl : Nat → Int32} (ht : 20 ≤ t) (ht2 : t ≤ 23) (h : wY_ask_54 post (nI t) r 0 1 f sz wd q rw sk pl) :
    ((nI t < 0 → (wY_ask_35 post (nI t) r f sz wd q rw sk pl)) ∧ (¬ nI t < 0 → (((18 < nI t → (wY_ask_35 post (nI t) r f sz wd q rw sk pl)) ∧ (¬ 18 < nI t → (wY_ask_36 post (nI t) r 1 f sz wd q rw sk pl)))))) := by
  refine br_f (nI_pos (by omega)) (pk_lt 18 t (fun _ => ?_) (fun z => absurd z (by omega)))
  unfold wY_ask_35 wY_ask_36 wY_ask_53
  exact pk_lt t 20 (fun z => absurd z (by omega)) (fun _ => pk_lt 23 t (fun z => absurd z (by omega)) (fun _ => h))
theorem ph_R_a {n t : Nat} {wd ln q : Nat → Int32} (R : ph_R n wd ln q) (hn : n < 12) (ht : (0 < (ph_c q n).1 ∧ t ≤ 18) ∨ ((ph_c q n).1 = 0 ∧ 0 < (ph_c q n).2 ∧ 20 ≤ t ∧ t ≤ 23)) :
    ph_c (upd q n (nI t)) (n + 1) = ph_cs t (ph_c q n) ∧ ph_R (n + 1) wd ln (upd q n (nI t)) := by
  have e : ∀ j, j < n → q j = upd q n (nI t) j := fun j hj => (pk_un (by omega)).symm
  have c := ph_c_ext n e
  have et : ph_t (upd q n (nI t)) n = t := ph_t_of pk_us (by omega)
  refine ⟨by rw [ph_c_s, et, ← c], by omega, fun i hi => ?_, R.2.2⟩
  by_cases z : i = n
  · subst z
    unfold ph_ok
    rw [et, ← c]
    exact ⟨pk_us, ht⟩
  · exact ph_ok_ext (fun j hj => e j (by omega)) (R.2.1 i (by omega))
theorem ph_y75 {k n t : Nat} {wd ln q np tr eb rw sk pl : Nat → Int32} (R : ph_R n wd ln q) (hn : n < 12) (ht : (0 < (ph_c q n).1 ∧ t ≤ 18) ∨ ((ph_c q n).1 = 0 ∧ 0 < (ph_c q n).2 ∧ 20 ≤ t ∧ t ≤ 23)) :
    wY_ask_75 (fun r' v' => r' = nI (n + 1) ∧ i_Rel (k + 4) (nI (n + 1), nI (ph_cs t (ph_c q n)).1, nI (ph_cs t (ph_c q n)).2, wd, ln, upd q n (nI t), np, tr, eb) v') (nI t) (nI n) ln wd q rw sk pl := by
  obtain ⟨e, R'⟩ := ph_R_a R hn ht
  unfold wY_ask_75
  rw [nI_clamp (n := n) (by omega), ← e]
  exact ⟨vp_in_nI hn (by decide), nm_e (nm_r (nI_1 n) ⟨rfl, ph_mk R'⟩)⟩
theorem ph_xm {post : Int32 → Prop} {p : Nat × Nat} {x a : Int32} {wd ln q np tr eb : Nat → Int32} (hp : p.1 + p.2 < 100)
    (h0 : (x < 0 ∨ nI 24 ≤ x ∨ ∃ t, t < 24 ∧ x = nI t ∧ ¬ ((0 < p.1 ∧ t ≤ 18) ∨ (p.1 = 0 ∧ 20 ≤ t ∧ t ≤ 23))) → post 0)
    (h1 : ∀ t, x = nI t → ((0 < p.1 ∧ t ≤ 18) ∨ (p.1 = 0 ∧ 20 ≤ t ∧ t ≤ 23)) → post 1) : wpX_mayComeNext post (a, nI p.1, nI p.2, wd, ln, q, np, tr, eb) x := by
  unfold wpX_mayComeNext
  dsimp only
  rcases pk_ix x (n := 24) (by omega) with h | h | ⟨t, ht, rfl⟩
  · refine pk_le p.1 0 (fun z => ?_) (fun z => ?_)
    · unfold wpX_isConditionToken
      exact br_t (Int32.lt_trans h (by decide)) ⟨by decide, h0 (Or.inl h)⟩
    · exact ph_xs0 (Or.inl h) ⟨by decide, h0 (Or.inl h)⟩
  · refine pk_le p.1 0 (fun z => ?_) (fun z => ?_)
    · unfold wpX_isConditionToken
      refine br_c (fun _ => ⟨by decide, h0 (Or.inr (Or.inl h))⟩) (fun y => br_t ?_ ⟨by decide, h0 (Or.inr (Or.inl h))⟩)
      exact Int32.lt_of_lt_of_le (by decide) h
    · exact ph_xs0 (Or.inr (Int32.le_trans (by decide) h)) ⟨by decide, h0 (Or.inr (Or.inl h))⟩
  · refine pk_le p.1 0 (fun z => ?_) (fun z => ?_)
    · unfold wpX_isConditionToken
      refine pk_lt t 20 (fun y => ⟨by decide, h0 (Or.inr (Or.inr ⟨t, ht, rfl, by omega⟩))⟩) (fun y => pk_lt 23 t (fun z => absurd z (by omega)) (fun _ => ⟨by decide, h1 t rfl (by omega)⟩))
    · by_cases y : t ≤ 18
      · exact ph_xs1 (by omega) ⟨by decide, h1 t rfl (by omega)⟩
      · exact ph_xs0 (Or.inr (nI_le (by omega) (by omega))) ⟨by decide, h0 (Or.inr (Or.inr ⟨t, ht, rfl, by omega⟩))⟩
theorem i_vc_ask {k : Nat} {u : SX} {v : SY} (I : i_Rel k u v) (hk : k + 4 ≤ 2048) (v1 : Int32) : wpX_ask (fun r u' => wpY_ask (fun r' v' => r' = r ∧ i_Rel (k + 4) u' v') v v1) u v1 := by
  obtain ⟨n, wd, ln, q, np, tr, eb, rw, sk, pl, rfl, rfl, R⟩ := I
  have hn := R.1
  have B := ph_c_le q n
  unfold wpX_ask
  dsimp only
  refine pk_le 12 n (fun h => ?_) (fun h => ?_)
  · unfold wpY_ask
    dsimp only
    refine ph_due R.1 R.2.1 (fun pl' => ?_)
    dsimp only
    exact pk_le 12 n (fun _ => ⟨rfl, ph_mk R⟩) (fun z => absurd z (by omega))
  · refine ph_xc (by omega) ?_
    by_cases z : (ph_c q n).1 + (ph_c q n).2 = 0
    · refine br_f (by rw [show ph_cp (ph_c q n) = 1 from if_pos z]; decide) ?_
      unfold wpY_ask
      dsimp only
      refine ph_due R.1 R.2.1 (fun pl' => ?_)
      dsimp only
      exact pk_le 12 n (fun z => absurd z (by omega)) (fun _ => br_t (if_pos z) ⟨rfl, ph_mk R⟩)
    · refine br_t (if_neg z) ?_
      refine ph_xm (by omega) (fun h0 => ?_) (fun t et h1 => ?_)
      · refine br_t rfl ?_
        unfold wpY_ask
        dsimp only
        refine ph_due R.1 R.2.1 (fun pl' => ?_)
        dsimp only
        refine pk_le 12 n (fun z => absurd z (by omega)) (fun _ => br_f ?_ ?_)
        · unfold ph_kd; rw [if_neg z]; split <;> decide
        · rcases h0 with h0 | h0 | ⟨t, ht, rfl, h0⟩
          · exact ph_ya0 (Or.inl h0) ⟨rfl, ph_mk R⟩
          · exact ph_ya0 (Or.inr (Or.inl h0)) ⟨rfl, ph_mk R⟩
          · by_cases a : t ≤ 18
            · refine ph_ya1 a ?_
              have e : ph_kd (ph_c q n) = 1 := by unfold ph_kd; rw [if_neg z, if_neg (by omega)]
              exact br_t e (br_t rfl ⟨rfl, ph_mk R⟩)
            · by_cases b : t = 19
              · exact ph_ya0 (Or.inr (Or.inr (congrArg nI b))) ⟨rfl, ph_mk R⟩
              · refine ph_ya2 (by omega) (by omega) ?_
                have e : ph_kd (ph_c q n) = 2 := by unfold ph_kd; rw [if_neg z, if_pos (by omega)]
                exact br_f (by rw [e]; decide) (br_t rfl ⟨rfl, ph_mk R⟩)
      · subst et
        have h1' : (0 < (ph_c q n).1 ∧ t ≤ 18) ∨ ((ph_c q n).1 = 0 ∧ 0 < (ph_c q n).2 ∧ 20 ≤ t ∧ t ≤ 23) := by omega
        refine br_f (by decide) ⟨vp_in_nI (by omega) (by decide), ?_⟩
        rw [nI_clamp (n := n) (by omega)]
        refine nm_e (nm_r (nI_1 n) (ph_cd1 (by omega) h1' ?_))
        dsimp only
        unfold wpY_ask
        dsimp only
        refine ph_due R.1 R.2.1 (fun pl' => ?_)
        dsimp only
        refine pk_le 12 n (fun z => absurd z (by omega)) (fun _ => br_f ?_ ?_)
        · unfold ph_kd; rw [if_neg z]; split <;> decide
        · rcases h1 with ⟨a, b⟩ | ⟨a, b, c⟩
          · refine ph_ya1 b ?_
            have e : ph_kd (ph_c q n) = 2 := by unfold ph_kd; rw [if_neg z, if_pos (by omega)]
            exact br_f (by rw [e]; decide) (br_f (by decide) (ph_y75 R (by omega) h1'))
          · refine ph_ya2 b c ?_
            have e : ph_kd (ph_c q n) = 1 := by unfold ph_kd; rw [if_neg z, if_neg (by omega)]
            exact br_t e (br_f (by decide) (ph_y75 R (by omega) h1'))
