/-! ===== X: the invariant of evaluate, its steps, findCombined, decide, evaluate ===== -/
def ph_XI (wd : Nat → Int32) (o L : Nat) (q : Nat → Int32) (n i : Nat) (np tr eb : Nat → Int32) : Prop :=
  (∀ j, j < (ph_c q i).1 + (ph_c q i).2 → np (ph_S wd o L q n i j) = nI (ph_S wd o L q n i (j + 1))) ∧
  (∀ j, i ≤ j → j < n → ph_t q j ≤ 18 → ∀ b, b < 24 → eb (24 * j + b) = ph_V wd o L q n i j b) ∧
  (∀ j, i ≤ j → j < n → 20 ≤ ph_t q j → tr j = ph_V wd o L q n i j 0)
section
variable {wd q np tr eb : Nat → Int32} {o L n i : Nat}
theorem ph_XI_np (h : i < n) (ok : ph_ok q i) (H : ph_SI wd o L q n (i + 1))
    (c : ∀ j, j < (ph_c q (i + 1)).1 + (ph_c q (i + 1)).2 → np (ph_S wd o L q n (i + 1) j) = nI (ph_S wd o L q n (i + 1) (j + 1))) :
    ∀ j, j < (ph_c q i).1 + (ph_c q i).2 → upd np i (nI (ph_S wd o L q n (i + 1) (ph_par (ph_t q i)))) (ph_S wd o L q n i j) = nI (ph_S wd o L q n i (j + 1)) := by
  intro j hj
  have K := ph_kinds ok
  obtain ⟨h1, h2, _, _⟩ := H
  rw [ph_S_s h]
  generalize ph_S wd o L q n (i + 1) = st at *
  generalize ph_par (ph_t q i) = p at *
  generalize ph_c q (i + 1) = c' at *
  generalize ph_c q i = c'' at *
  cases j with
  | zero =>
    rw [ph_push_s, Nat.zero_add]
    exact pk_us
  | succ j =>
    rw [ph_push_s, ph_push_s, pk_un (by have := h2 (j + p); omega), c (j + p) (by omega), show j + 1 + p = j + p + 1 by omega]
theorem ph_XI_sp (h : i < n) (ok : ph_ok q i) (H : ph_SI wd o L q n (i + 1)) (X : ph_XI wd o L q n (i + 1) np tr eb) (ht : ph_t q i ≤ 18) :
    ph_XI wd o L q n i (upd np i (nI (ph_S wd o L q n (i + 1) (ph_par (ph_t q i))))) tr (ph_wr eb i (ph_V wd o L q n i i) 24) := by
  obtain ⟨x1, x2, x3⟩ := X
  refine ⟨ph_XI_np h ok H x1, fun j hj hj2 hj3 b hb => ?_, fun j hj hj2 hj3 => ?_⟩
  · by_cases z : j = i
    · subst z; exact ph_wr_i hb
    · rw [ph_wr_o (by omega) z hb, ph_V_j h z]; exact x2 j (by omega) hj2 hj3 b hb
  · by_cases z : j = i
    · subst z; omega
    · rw [ph_V_j h z]; exact x3 j (by omega) hj2 hj3
theorem ph_XI_co (h : i < n) (ok : ph_ok q i) (H : ph_SI wd o L q n (i + 1)) (X : ph_XI wd o L q n (i + 1) np tr eb) (ht : 20 ≤ ph_t q i) :
    ph_XI wd o L q n i (upd np i (nI (ph_S wd o L q n (i + 1) (ph_par (ph_t q i))))) (upd tr i (ph_V wd o L q n i i 0)) eb := by
  obtain ⟨x1, x2, x3⟩ := X
  refine ⟨ph_XI_np h ok H x1, fun j hj hj2 hj3 b hb => ?_, fun j hj hj2 hj3 => ?_⟩
  · by_cases z : j = i
    · subst z; omega
    · rw [ph_V_j h z]; exact x2 j (by omega) hj2 hj3 b hb
  · by_cases z : j = i
    · subst z; exact pk_us
    · rw [pk_un z, ph_V_j h z]; exact x3 j (by omega) hj2 hj3
end
section
variable {post : SX → Prop} {f sd cd : Int32} {wd ln q np tr eb : Nat → Int32} {n i : Nat} {o L : Nat}
theorem ph_fc65 {t a : Nat} (hi : i < 12) (ht : t ≤ 12) (e : np t = nI a) (H : post (f, sd, cd, wd, ln, q, upd np i (nI a), tr, eb)) : wX_findCombined_65 post (nI i) (nI t) f sd cd wd ln q np tr eb := by
  unfold wX_findCombined_65
  rw [nI_clamp (n := i) (by omega), nI_clamp (n := t) (by omega), e]
  exact ⟨vp_in_nI (by omega) (by decide), vp_in_nI (by omega) (by decide), nm_e H⟩
theorem ph_fc (hn : n ≤ 12) (h : i < n) (ok : ph_ok q i) (S : ph_SI wd o L q n (i + 1)) (X : ph_XI wd o L q n (i + 1) np tr eb) (h12 : 12 ≤ ph_t q i) (h18 : ph_t q i ≤ 18)
    (H : post (f, sd, cd, wd, ln, q, upd np i (nI (ph_S wd o L q n (i + 1) (ph_par (ph_t q i)))), tr, ph_wr eb i (ph_V wd o L q n i i) 24)) :
    wpX_findCombined post (f, sd, cd, wd, ln, q, np, tr, eb) (nI i) := by
  have K := ph_kinds ok
  have c2 : 2 ≤ (ph_c q (i + 1)).1 := by omega
  rw [show ph_par (ph_t q i) = 2 by omega] at H
  obtain ⟨h1, h2, h3, h4⟩ := S
  obtain ⟨x1, x2, x3⟩ := X
  have n0 : np (ph_S wd o L q n (i + 1) 0) = nI (ph_S wd o L q n (i + 1) 1) := x1 0 (by omega)
  have n1 : np (ph_S wd o L q n (i + 1) 1) = nI (ph_S wd o L q n (i + 1) 2) := x1 1 (by omega)
  obtain ⟨s1, s2⟩ := h3 0 (by omega)
  obtain ⟨t1, t2⟩ := h3 1 (by omega)
  have sv := x2 _ (h2 0).1 s1 s2
  have tv := x2 _ (h2 1).1 t1 t2
  have gi := fun b => ph_V_i (wd := wd) (o := o) (L := L) (q := q) h b
  have t0 := (h2 1).1
  rw [h1] at n0 sv gi s1
  generalize ph_S wd o L q n (i + 1) 1 = t at *
  generalize ph_S wd o L q n (i + 1) 2 = a at *
  generalize ph_V wd o L q n (i + 1) = V at *
  have hh := ok.1
  unfold wpX_findCombined
  dsimp only
  rw [nI_clamp (n := i) (by omega), hh]
  refine ⟨vp_in_nI (by omega) (by decide), nm_e (nm_r (nI_1 i) ⟨vp_in_nI (by omega) (by decide), ?_⟩)⟩
  rw [nI_clamp (n := i + 1) (by omega), n0]
  refine nm_e (pk_eq (ph_t q i) 12 (fun z => ?_) (fun z => pk_eq (ph_t q i) 18 (fun y => ?_) (fun y => ?_)))
  · refine ph_fe (by omega) (by omega) (by omega) (by omega) (by omega) (g := ph_V wd o L q n i i) (fun b hb => ?_) (ph_fc65 (by omega) (by omega) n1 H)
    rw [gi b, ph_row_o z, sv b hb, tv b hb]
  · refine ph_fi (by omega) (by omega) (by omega) (by omega) (by omega) (g := ph_V wd o L q n i i) tv (fun b hb => ?_) (ph_fc65 (by omega) (by omega) n1 H)
    rw [gi b, ph_row_i y, sv b hb]
  · rw [show nI (ph_t q i) - 13 = nI (ph_t q i - 13) from pk_sub (b := 13) (by omega)]
    refine ph_ft (by omega) (by omega) (by omega) (by omega) (by omega) (by omega) (g := ph_V wd o L q n i i) tv (fun b hb => ?_) (ph_fc65 (by omega) (by omega) n1 H)
    rw [gi b, ph_row_t (by omega) (by omega), sv b hb]
theorem ph_nb0 : vp_nar .boolean 0 = 0 := rfl
theorem ph_nb1 : vp_nar .boolean 1 = 1 := rfl
theorem ph_d72 {a : Nat} {z : Int32} (hi : i < 12) (hz : z = 0 ∨ z = 1) (H : post (f, sd, cd, wd, ln, q, upd np i (nI a), upd tr i z, eb)) : wX_decide_72 post (nI i) (nI a) z (nI i) f sd cd wd ln q np tr eb := by
  unfold wX_decide_72
  have e : vp_nar .boolean z = z := by rcases hz with h | h <;> rw [h] <;> rfl
  rw [nI_clamp (n := i) (by omega), e]
  exact ⟨vp_in_nI (by omega) (by decide), nm_e ⟨vp_in_nI (by omega) (by decide), nm_e H⟩⟩
theorem ph_d119 {t a : Nat} {z : Int32} (hi : i < 12) (ht : t ≤ 12) (e : np t = nI a) (hz : z = 0 ∨ z = 1) (H : post (f, sd, cd, wd, ln, q, upd np i (nI a), upd tr i z, eb)) : wX_decide_119 post (nI i) (nI t) z (nI i) f sd cd wd ln q np tr eb := by
  unfold wX_decide_119
  have e2 : vp_nar .boolean z = z := by rcases hz with h | h <;> rw [h] <;> rfl
  rw [nI_clamp (n := i) (by omega), nI_clamp (n := t) (by omega), e, e2]
  exact ⟨vp_in_nI (by omega) (by decide), nm_e ⟨vp_in_nI (by omega) (by decide), vp_in_nI (by omega) (by decide), nm_e H⟩⟩
theorem ph_d165 {t a : Nat} {z : Int32} (hi : i < 12) (ht : t ≤ 12) (e : np t = nI a) (hz : z = 0 ∨ z = 1) (H : post (f, sd, cd, wd, ln, q, upd np i (nI a), upd tr i z, eb)) : wX_decide_165 post (nI i) (nI t) z (nI i) f sd cd wd ln q np tr eb := by
  unfold wX_decide_165
  have e2 : vp_nar .boolean z = z := by rcases hz with h | h <;> rw [h] <;> rfl
  rw [nI_clamp (n := i) (by omega), nI_clamp (n := t) (by omega), e, e2]
  exact ⟨vp_in_nI (by omega) (by decide), nm_e ⟨vp_in_nI (by omega) (by decide), vp_in_nI (by omega) (by decide), nm_e H⟩⟩
theorem ph_dc (hn : n ≤ 12) (h : i < n) (ok : ph_ok q i) (S : ph_SI wd o L q n (i + 1)) (W : ph_VI wd o L q n (i + 1)) (X : ph_XI wd o L q n (i + 1) np tr eb) (h20 : 20 ≤ ph_t q i)
    (H : post (f, sd, cd, wd, ln, q, upd np i (nI (ph_S wd o L q n (i + 1) (ph_par (ph_t q i)))), upd tr i (ph_V wd o L q n i i 0), eb)) :
    wpX_decide post (f, sd, cd, wd, ln, q, np, tr, eb) (nI i) := by
  have K := ph_kinds ok
  have T := ph_ok_le ok
  obtain ⟨h1, h2, h3, h4⟩ := S
  obtain ⟨x1, x2, x3⟩ := X
  have n0 : np (ph_S wd o L q n (i + 1) 0) = nI (ph_S wd o L q n (i + 1) 1) := x1 0 (by omega)
  rw [ph_V_i h 0] at H
  have hh := ok.1
  unfold wpX_decide
  dsimp only
  rw [nI_clamp (n := i) (by omega), hh]
  refine ⟨vp_in_nI (by omega) (by decide), nm_e (nm_r (nI_1 i) ⟨vp_in_nI (by omega) (by decide), ?_⟩)⟩
  have n0' := n0
  rw [h1] at n0'
  rw [nI_clamp (n := i + 1) (by omega), n0']
  have b1 := h2 1
  refine nm_e (pk_eq (ph_t q i) 23 (fun z => ?_) (fun z => pk_eq (ph_t q i) 22 (fun y => ?_) (fun y => ?_)))
  · obtain ⟨s1, s2⟩ := h3 0 (by omega)
    have sv := x2 _ (h2 0).1 s1 s2
    rw [h1] at sv s1
    rw [show ph_par (ph_t q i) = 1 by omega, ph_row_23 z, h1] at H
    refine ph_hs (by omega) sv ?_
    have e : vp_nar .boolean (if ph_all (ph_V wd o L q n (i + 1) (i + 1)) 24 = 0 then 0 else 1) = (if ph_all (ph_V wd o L q n (i + 1) (i + 1)) 24 = 0 then 0 else 1) := by split <;> rfl
    rw [e]
    exact ⟨vp_in_nI (by omega) (by decide), nm_e ⟨vp_in_nI (by omega) (by decide), nm_e H⟩⟩
  · obtain ⟨s1, s2⟩ := h4 0 (by omega) (by omega)
    have sv := x3 _ (h2 0).1 s1 s2
    have s01 := (W _ (h2 0).1 s1).2 s2
    rw [h1] at sv s1 s01
    rw [show ph_par (ph_t q i) = 1 by omega, ph_row_22 y, h1] at H
    rw [sv]
    refine ⟨vp_in_nI (by omega) (by decide), ?_⟩
    generalize ph_V wd o L q n (i + 1) (i + 1) 0 = x at *
    refine br_c (fun x0 => ?_) (fun x0 => ?_)
    · rw [if_neg (by rw [x0]; decide)] at H
      exact ph_d72 (by omega) (Or.inr rfl) H
    · rw [if_pos (s01.resolve_left x0)] at H
      exact ph_d72 (by omega) (Or.inl rfl) H
  · obtain ⟨s1, s2⟩ := h4 0 (by omega) (by omega)
    obtain ⟨t1, t2⟩ := h4 1 (by omega) (by omega)
    have n1 : np (ph_S wd o L q n (i + 1) 1) = nI (ph_S wd o L q n (i + 1) 2) := x1 1 (by omega)
    have sv := x3 _ (h2 0).1 s1 s2
    have tv := x3 _ (h2 1).1 t1 t2
    have s01 := (W _ (h2 0).1 s1).2 s2
    have t01 := (W _ (h2 1).1 t1).2 t2
    rw [h1] at sv s1 s01
    rw [show ph_par (ph_t q i) = 2 by omega] at H
    rw [sv, nI_clamp (n := ph_S wd o L q n (i + 1) 1) (by omega), tv]
    refine pk_eq (ph_t q i) 21 (fun w => ?_) (fun w => ?_)
    · rw [ph_row_21 w, h1] at H
      refine ⟨vp_in_nI (by omega) (by decide), ?_⟩
      generalize ph_V wd o L q n (i + 1) (i + 1) 0 = x at *
      generalize ph_V wd o L q n (i + 1) (ph_S wd o L q n (i + 1) 1) 0 = x' at *
      refine br_c (fun x0 => ⟨vp_in_nI (by omega) (by decide), br_c (fun y0 => ?_) (fun y0 => ?_)⟩) (fun x0 => ?_)
      · rw [if_neg (by rw [x0, y0]; decide)] at H
        exact ph_d119 (by omega) (by omega) n1 (Or.inl rfl) H
      · rw [if_pos (Or.inr (t01.resolve_left y0))] at H
        exact ph_d119 (by omega) (by omega) n1 (Or.inr rfl) H
      · rw [if_pos (Or.inl (s01.resolve_left x0))] at H
        exact ph_d119 (by omega) (by omega) n1 (Or.inr rfl) H
    · rw [ph_row_20 (by omega), h1] at H
      refine ⟨vp_in_nI (by omega) (by decide), ?_⟩
      generalize ph_V wd o L q n (i + 1) (i + 1) 0 = x at *
      generalize ph_V wd o L q n (i + 1) (ph_S wd o L q n (i + 1) 1) 0 = x' at *
      refine br_c (fun x0 => ?_) (fun x0 => ⟨vp_in_nI (by omega) (by decide), br_c (fun y0 => ?_) (fun y0 => ?_)⟩)
      · rw [if_neg (by rw [x0]; intro c; exact absurd c.1 (by decide))] at H
        exact ph_d165 (by omega) (by omega) n1 (Or.inl rfl) H
      · rw [if_neg (by rw [y0]; intro c; exact absurd c.2 (by decide))] at H
        exact ph_d165 (by omega) (by omega) n1 (Or.inl rfl) H
      · rw [if_pos ⟨s01.resolve_left x0, t01.resolve_left y0⟩] at H
        exact ph_d165 (by omega) (by omega) n1 (Or.inr rfl) H
end
/-- evaluate ends with the table -/
theorem ph_ev7 {post : SX → Prop} {sd cd : Int32} {wd ln q : Nat → Int32} {n d : Nat} (R : ph_R n wd ln q) (hd : d < 6) (C : (ph_c q n).1 + (ph_c q n).2 = 0)
    (H : ∀ np tr eb, ph_XI wd (24 * d) (ph_l ln d) q n 0 np tr eb → post (nI n, sd, cd, wd, ln, q, np, tr, eb)) :
    ∀ i, i ≤ n → ∀ np tr eb, ph_XI wd (24 * d) (ph_l ln d) q n i np tr eb → wX_evaluate_7 post (nI d) (i + 1) (nI i + (-1)) (nI n) sd cd wd ln q np tr eb := by
  have hn := R.1
  intro i
  induction i with
  | zero =>
    intro _ np tr eb X
    rw [wX_evaluate_7]
    exact br_t (by decide) (H np tr eb X)
  | succ i ih =>
    intro hi np tr eb X
    have ok := R.2.1 i (by omega)
    have S := ph_SI_all (wd := wd) (o := 24 * d) (L := ph_l ln d) C R.2.1 (n - (i + 1)) (i + 1) (by omega)
    have W := ph_VI_all (wd := wd) (o := 24 * d) (L := ph_l ln d) C R.2.1 (n - (i + 1)) (i + 1) (by omega)
    have T := ph_ok_le ok
    have hh := ok.1
    rw [wX_evaluate_7, pk_m1]
    dsimp only
    rw [nI_clamp (n := i) (by omega), hh]
    refine br_f (nI_pos (by omega)) ⟨vp_in_nI (by omega) (by decide), nm_e ?_⟩
    by_cases w : ph_t q i ≤ 11
    · refine ph_xw1 (by omega) (br_f (by decide) ?_)
      refine ph_fw R hd (by omega) (g := ph_V wd (24 * d) (ph_l ln d) q n i i) (fun b hb => by rw [ph_V_i (by omega), ph_row_w w]) ?_
      have Y := ph_XI_sp (by omega) ok S X (by omega)
      rw [ph_par_0 w, S.1] at Y
      exact nm_e (ih (by omega) _ _ _ Y)
    · refine ph_xw0 (Or.inr (nI_le (by omega) (by omega))) (br_t rfl ?_)
      by_cases v : ph_t q i ≤ 18
      · refine ph_xs1 (by omega) (br_f (by decide) (ph_fc hn (by omega) ok S X (by omega) v ?_))
        exact nm_e (ih (by omega) _ _ _ (ph_XI_sp (by omega) ok S X v))
      · have v2 : 20 ≤ ph_t q i := by have := ok.2; omega
        refine ph_xs0 (Or.inr (nI_le (by omega) (by omega))) (br_t rfl (ph_dc hn (by omega) ok S W X v2 ?_))
        exact nm_e (ih (by omega) _ _ _ (ph_XI_co (by omega) ok S X v2))
theorem ph_eX {post : SX → Prop} {sd cd : Int32} {wd ln q np tr eb : Nat → Int32} {n d : Nat} (R : ph_R n wd ln q) (hd : d < 6) (C : (ph_c q n).1 + (ph_c q n).2 = 0)
    (H : ∀ np tr eb, ph_XI wd (24 * d) (ph_l ln d) q n 0 np tr eb → post (nI n, sd, cd, wd, ln, q, np, tr, eb)) :
    wpX_evaluate post (nI n, sd, cd, wd, ln, q, np, tr, eb) (nI d) := by
  unfold wpX_evaluate
  dsimp only
  refine nm_r (e' := nI n + (-1)) (by rw [Int32.sub_eq_add_neg]) ⟨n + 1, ph_ev7 R hd C H n (Nat.le_refl n) np tr eb ?_⟩
  exact ⟨fun j hj => by omega, fun j hj hj2 => by omega, fun j hj hj2 => by omega⟩
