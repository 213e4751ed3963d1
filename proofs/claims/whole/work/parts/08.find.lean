/-! ===== X: findWord, findEither, findWithin, findThen, hasSpan ===== -/
section
variable {post : SX → Prop} {f sd cd : Int32} {wd ln q np tr eb : Nat → Int32} {n d i s t k : Nat} {g sv tv : Nat → Int32}
theorem ph_fw43 {J : Int32 → (Nat → Int32) → (Nat → Int32) → (Nat → Int32) → (Nat → Int32) → (Nat → Int32) → (Nat → Int32) → Prop} {b : Nat} (hi : i < 12) (hb : b < 24) (h : J (nI (b + 1)) wd ln q np tr (upd eb (24 * i + b) 0)) :
    wX_findWord_43 post J (nI i) (nI d) (nI b) 0 f sd cd wd ln q np tr eb := by
  unfold wX_findWord_43
  rw [ph_ix i b, nI_clamp (n := 24 * i + b) (by omega)]
  exact br_t rfl ⟨vp_in_nI (by omega) (by decide), nm_e (nm_r (nI_1 b) h)⟩
theorem ph_fw431 {J : Int32 → (Nat → Int32) → (Nat → Int32) → (Nat → Int32) → (Nat → Int32) → (Nat → Int32) → (Nat → Int32) → Prop} {b : Nat} (hi : i < 12) (hb : b < 24) (h : J (nI (b + 1)) wd ln q np tr (upd eb (24 * i + b) ((1 : Int32) <<< (nI b &&& 31)))) :
    wX_findWord_43 post J (nI i) (nI d) (nI b) 1 f sd cd wd ln q np tr eb := by
  unfold wX_findWord_43
  rw [ph_ix i b, nI_clamp (n := 24 * i + b) (by omega)]
  exact br_f (by decide) ⟨vp_in_nI (by omega) (by decide), nm_e (nm_r (nI_1 b) h)⟩
theorem ph_fw2 (R : ph_R n wd ln q) (hd : d < 6) (hi : i < 12) (hg : ∀ b, b < 24 → g b = ph_wrow wd (24 * d) (ph_l ln d) (q i) b) (H : post (f, sd, cd, wd, ln, q, upd np i (nI (i + 1)), tr, ph_wr eb i g 24)) :
    ∀ r b, b + r = 24 → wX_findWord_2 post (nI i) (nI d) f sd cd (r + 1) (nI b) wd ln q np tr (ph_wr eb i g b) := by
  obtain ⟨hl, el, _⟩ := ph_R_l R hd
  intro r
  induction r with
  | zero =>
    intro b hb
    have e : b = 24 := by omega
    subst e
    rw [wX_findWord_2]
    dsimp only
    rw [nI_clamp (n := i) (by omega), nI_1]
    exact br_t (nI_le (a := 24) (b := 24) (by omega) (by decide)) ⟨vp_in_nI (by omega) (by decide), nm_e H⟩
  | succ r ih =>
    intro b hb
    have j := ih (b + 1) (by omega)
    rw [← ph_wr_s, hg b (by omega)] at j
    rw [wX_findWord_2]
    dsimp only
    rw [nI_clamp (n := d) (by omega), nI_clamp (n := i) (by omega), el, ph_ix d b, nI_clamp (n := 24 * d + b) (by omega)]
    refine br_f (nI_ge (b := 24) (by omega) (by decide)) ⟨vp_in_nI hd (by decide), pk_le (ph_l ln d) b (fun z => ?_) (fun z => ⟨vp_in_nI (by omega) (by decide), vp_in_nI hi (by decide), br_c (fun y => ?_) (fun y => ?_)⟩)⟩
    · rw [show ph_wrow wd (24 * d) (ph_l ln d) (q i) b = 0 from if_neg (fun y => by omega)] at j
      exact ph_fw43 hi (by omega) j
    · rw [show ph_wrow wd (24 * d) (ph_l ln d) (q i) b = (1 : Int32) <<< (nI b &&& 31) from if_pos ⟨z, y⟩] at j
      exact ph_fw431 hi (by omega) j
    · rw [show ph_wrow wd (24 * d) (ph_l ln d) (q i) b = 0 from if_neg (fun x => y x.2)] at j
      exact ph_fw43 hi (by omega) j
theorem ph_fw (R : ph_R n wd ln q) (hd : d < 6) (hi : i < 12) (hg : ∀ b, b < 24 → g b = ph_wrow wd (24 * d) (ph_l ln d) (q i) b) (H : post (f, sd, cd, wd, ln, q, upd np i (nI (i + 1)), tr, ph_wr eb i g 24)) :
    wpX_findWord post (f, sd, cd, wd, ln, q, np, tr, eb) (nI i) (nI d) := by
  unfold wpX_findWord
  dsimp only
  have h := ph_fw2 R hd hi hg H 24 0 (by omega)
  rw [ph_wr_0] at h
  exact ⟨25, h⟩
theorem ph_fe3 (hi : i < 12) (hs : s ≤ 12) (ht : t ≤ 12) (si : s ≠ i) (ti : t ≠ i) (hg : ∀ b, b < 24 → g b = eb (24 * s + b) ||| eb (24 * t + b)) (H : post (f, sd, cd, wd, ln, q, np, tr, ph_wr eb i g 24)) :
    ∀ r b, b + r = 24 → wX_findEither_3 post (nI i) (nI s) (nI t) f sd cd (r + 1) (nI b) wd ln q np tr (ph_wr eb i g b) := by
  intro r
  induction r with
  | zero =>
    intro b hb
    have e : b = 24 := by omega
    subst e
    rw [wX_findEither_3]
    exact br_t (nI_le (a := 24) (b := 24) (by omega) (by decide)) H
  | succ r ih =>
    intro b hb
    have j := ih (b + 1) (by omega)
    rw [← ph_wr_s, hg b (by omega)] at j
    rw [wX_findEither_3]
    dsimp only
    rw [ph_ix i b, ph_ix s b, ph_ix t b, nI_clamp (n := 24 * i + b) (by omega), nI_clamp (n := 24 * s + b) (by omega), nI_clamp (n := 24 * t + b) (by omega), ph_wr_o (s := s) (by omega) si (by omega), ph_wr_o (s := t) (by omega) ti (by omega)]
    exact br_f (nI_ge (b := 24) (by omega) (by decide)) ⟨vp_in_nI (by omega) (by decide), vp_in_nI (by omega) (by decide), vp_in_nI (by omega) (by decide), nm_e (nm_r (nI_1 b) j)⟩
theorem ph_fe (hi : i < 12) (hs : s ≤ 12) (ht : t ≤ 12) (si : s ≠ i) (ti : t ≠ i) (hg : ∀ b, b < 24 → g b = eb (24 * s + b) ||| eb (24 * t + b)) (H : post (f, sd, cd, wd, ln, q, np, tr, ph_wr eb i g 24)) :
    wpX_findEither post (f, sd, cd, wd, ln, q, np, tr, eb) (nI i) (nI s) (nI t) := by
  unfold wpX_findEither
  dsimp only
  have h := ph_fe3 hi hs ht si ti hg H 24 0 (by omega)
  rw [ph_wr_0] at h
  exact ⟨25, h⟩
theorem ph_up4 {p : Int32 → Prop} {x : Int32} (H : p (ph_fill x 24)) : ∀ r m, m + r = 24 → wX_upToHighestBit_4 p x (r + 1) (ph_fill x m) (nI m) := by
  intro r
  induction r with
  | zero =>
    intro m hm
    have e : m = 24 := by omega
    subst e
    rw [wX_upToHighestBit_4]
    exact br_t (nI_le (a := 24) (b := 24) (by omega) (by decide)) H
  | succ r ih =>
    intro m hm
    have j := ih (m + 1) (by omega)
    rw [wX_upToHighestBit_4]
    dsimp only
    refine br_f (nI_ge (b := 24) (by omega) (by decide)) (br_c (fun z => ?_) (fun z => ?_))
    · rw [show ph_fill x (m + 1) = ph_fill x m from if_pos z] at j
      exact nm_r (nI_1 m) j
    · rw [show ph_fill x (m + 1) = ph_fill x m ||| ((1 : Int32) <<< (nI m &&& 31)) from if_neg z] at j
      exact nm_e (nm_r (nI_1 m) j)
theorem ph_up {p : Int32 → Prop} {x : Int32} (H : p (ph_fill x 24)) : wpX_upToHighestBit p x := by
  unfold wpX_upToHighestBit
  exact ⟨25, ph_up4 H 24 0 (by omega)⟩
theorem ph_fi6 (hi : i < 12) (hs : s ≤ 12) (ht : t ≤ 12) (si : s ≠ i) (ti : t ≠ i) (ev : ∀ b, b < 24 → eb (24 * t + b) = tv b) (hg : ∀ b, b < 24 → g b = eb (24 * s + b) &&& ph_reach tv (b + 1)) (H : post (f, sd, cd, wd, ln, q, np, tr, ph_wr eb i g 24)) :
    ∀ r b, b + r = 24 → wX_findWithin_6 post (nI i) (nI s) (nI t) f sd cd (r + 1) (ph_reach tv b) (nI b) wd ln q np tr (ph_wr eb i g b) := by
  intro r
  induction r with
  | zero =>
    intro b hb
    have e : b = 24 := by omega
    subst e
    rw [wX_findWithin_6]
    exact br_t (nI_le (a := 24) (b := 24) (by omega) (by decide)) H
  | succ r ih =>
    intro b hb
    have j := ih (b + 1) (by omega)
    rw [← ph_wr_s, hg b (by omega)] at j
    rw [wX_findWithin_6]
    dsimp only
    rw [ph_ix i b, ph_ix s b, ph_ix t b, nI_clamp (n := 24 * i + b) (by omega), nI_clamp (n := 24 * s + b) (by omega), nI_clamp (n := 24 * t + b) (by omega), ph_wr_o (s := s) (by omega) si (by omega), ph_wr_o (s := t) (by omega) ti (by omega), ev b (by omega)]
    refine br_f (nI_ge (b := 24) (by omega) (by decide)) ⟨vp_in_nI (by omega) (by decide), ph_up ?_⟩
    exact nm_e ⟨vp_in_nI (by omega) (by decide), vp_in_nI (by omega) (by decide), nm_e (nm_r (nI_1 b) j)⟩
theorem ph_fi (hi : i < 12) (hs : s ≤ 12) (ht : t ≤ 12) (si : s ≠ i) (ti : t ≠ i) (ev : ∀ b, b < 24 → eb (24 * t + b) = tv b) (hg : ∀ b, b < 24 → g b = eb (24 * s + b) &&& ph_reach tv (b + 1)) (H : post (f, sd, cd, wd, ln, q, np, tr, ph_wr eb i g 24)) :
    wpX_findWithin post (f, sd, cd, wd, ln, q, np, tr, eb) (nI i) (nI s) (nI t) := by
  unfold wpX_findWithin
  dsimp only
  have h := ph_fi6 hi hs ht si ti ev hg H 24 0 (by omega)
  rw [ph_wr_0] at h
  exact ⟨25, h⟩
theorem ph_24k (hk : k ≤ 24) : (24 : Int32) - nI k = nI (24 - k) := by
  show nI 24 - nI k = _
  exact pk_sub hk
theorem ph_ft16 {J : Int32 → (Nat → Int32) → (Nat → Int32) → (Nat → Int32) → (Nat → Int32) → (Nat → Int32) → (Nat → Int32) → Prop} {b : Nat} (hi : i < 12) (hs : s ≤ 12) (ht : t ≤ 12) (hk : k ≤ 4) (hb : b < 24) {x : Int32}
    (es : eb (24 * s + b) = x) (et : ∀ c, c < 24 → eb (24 * t + c) = tv c) (H : J (nI (b + 1)) wd ln q np tr (upd eb (24 * i + b) (ph_then x tv k (24 - k)))) :
    ∀ r e, e + r = 24 - k → wX_findThen_16 post J (nI i) (nI s) (nI t) (nI k) (nI b) f sd cd wd ln q np tr eb (r + 1) (ph_then x tv k e) (nI e) := by
  intro r
  induction r with
  | zero =>
    intro e he
    have e' : e = 24 - k := by omega
    rw [wX_findThen_16]
    dsimp only
    rw [ph_24k (by omega), ph_ix i b, nI_clamp (n := 24 * i + b) (by omega), e']
    exact pk_le (24 - k) (24 - k) (fun _ => ⟨vp_in_nI (by omega) (by decide), nm_e (nm_r (nI_1 b) H)⟩) (fun z => absurd z (by omega))
  | succ r ih =>
    intro e he
    have j := ih (e + 1) (by omega)
    rw [wX_findThen_16]
    dsimp only
    rw [ph_24k (by omega), ph_ix s b, ph_ix t e, nI_add, nI_clamp (n := 24 * s + b) (by omega), nI_clamp (n := 24 * t + e + k) (by omega), es, show 24 * t + e + k = 24 * t + (e + k) by omega, et (e + k) (by omega)]
    refine pk_le (24 - k) e (fun z => absurd z (by omega)) (fun _ => ⟨vp_in_nI (by omega) (by decide), br_c (fun z => ⟨vp_in_nI (by omega) (by decide), ?_⟩) (fun z => ?_)⟩)
    · rw [show ph_then x tv k (e + 1) = ph_then x tv k e ||| tv (e + k) from if_pos z] at j
      exact nm_e (nm_r (nI_1 e) j)
    · rw [show ph_then x tv k (e + 1) = ph_then x tv k e from if_neg z] at j
      exact nm_r (nI_1 e) j
theorem ph_ft3 (hi : i < 12) (hs : s ≤ 12) (ht : t ≤ 12) (hk : k ≤ 4) (si : s ≠ i) (ti : t ≠ i) (ev : ∀ b, b < 24 → eb (24 * t + b) = tv b) (hg : ∀ b, b < 24 → g b = ph_then (eb (24 * s + b)) tv k (24 - k)) (H : post (f, sd, cd, wd, ln, q, np, tr, ph_wr eb i g 24)) :
    ∀ r b, b + r = 24 → wX_findThen_3 post (nI i) (nI s) (nI t) (nI k) f sd cd (r + 1) (nI b) wd ln q np tr (ph_wr eb i g b) := by
  intro r
  induction r with
  | zero =>
    intro b hb
    have e : b = 24 := by omega
    subst e
    rw [wX_findThen_3]
    exact br_t (nI_le (a := 24) (b := 24) (by omega) (by decide)) H
  | succ r ih =>
    intro b hb
    have j := ih (b + 1) (by omega)
    rw [← ph_wr_s, hg b (by omega)] at j
    rw [wX_findThen_3]
    dsimp only
    refine br_f (nI_ge (b := 24) (by omega) (by decide)) ⟨24 - k + 1, ?_⟩
    exact ph_ft16 (tv := tv) hi hs ht hk (by omega) (ph_wr_o (by omega) si (by omega)) (fun c hc => (ph_wr_o (by omega) ti hc).trans (ev c hc)) j (24 - k) 0 (by omega)
theorem ph_ft (hi : i < 12) (hs : s ≤ 12) (ht : t ≤ 12) (hk : k ≤ 4) (si : s ≠ i) (ti : t ≠ i) (ev : ∀ b, b < 24 → eb (24 * t + b) = tv b) (hg : ∀ b, b < 24 → g b = ph_then (eb (24 * s + b)) tv k (24 - k)) (H : post (f, sd, cd, wd, ln, q, np, tr, ph_wr eb i g 24)) :
    wpX_findThen post (f, sd, cd, wd, ln, q, np, tr, eb) (nI i) (nI s) (nI t) (nI k) := by
  unfold wpX_findThen
  dsimp only
  have h := ph_ft3 hi hs ht hk si ti ev hg H 24 0 (by omega)
  rw [ph_wr_0] at h
  exact ⟨25, h⟩
theorem ph_or0 {x y : Int32} : x ||| y = 0 ↔ x = 0 ∧ y = 0 := by
  constructor
  · intro h
    have B : ∀ i, (bt x i || bt y i) = false := fun i => by rw [← b_or, h, b_0]
    exact ⟨b_ext (fun i _ => by rw [b_0]; exact (Bool.or_eq_false_iff.mp (B i)).1), b_ext (fun i _ => by rw [b_0]; exact (Bool.or_eq_false_iff.mp (B i)).2)⟩
  · intro ⟨a, b⟩; rw [a, b]; rfl
theorem ph_all_0 {r : Nat → Int32} : ∀ m, ph_all r m = 0 ↔ ∀ c, c < m → r c = 0 := by
  intro m
  induction m with
  | zero => exact ⟨fun _ c hc => by omega, fun _ => rfl⟩
  | succ m ih =>
    show ph_all r m ||| r m = 0 ↔ _
    rw [ph_or0, ih]
    constructor
    · intro ⟨a, b⟩ c hc
      by_cases z : c = m
      · subst z; exact b
      · exact a c (by omega)
    · intro h
      exact ⟨fun c hc => h c (by omega), h m (by omega)⟩
theorem ph_hs2 {p : Int32 → Prop} (hs : s ≤ 12) (ev : ∀ b, b < 24 → eb (24 * s + b) = sv b) (H : p (if ph_all sv 24 = 0 then 0 else 1)) :
    ∀ r b, b + r = 24 → (∀ c, c < b → sv c = 0) → wX_hasSpan_2 p (nI s) f sd cd wd ln q np tr eb (r + 1) (nI b) := by
  intro r
  induction r with
  | zero =>
    intro b hb h0
    have e : b = 24 := by omega
    subst e
    rw [if_pos ((ph_all_0 24).mpr h0)] at H
    rw [wX_hasSpan_2]
    exact br_t (nI_le (a := 24) (b := 24) (by omega) (by decide)) H
  | succ r ih =>
    intro b hb h0
    rw [wX_hasSpan_2]
    dsimp only
    rw [ph_ix s b, nI_clamp (n := 24 * s + b) (by omega), ev b (by omega)]
    refine br_f (nI_ge (b := 24) (by omega) (by decide)) ⟨vp_in_nI (by omega) (by decide), br_c (fun z => ?_) (fun z => ?_)⟩
    · refine nm_r (nI_1 b) (ih (b + 1) (by omega) (fun c hc => ?_))
      by_cases y : c = b
      · subst y; exact z
      · exact h0 c (by omega)
    · rw [if_neg (fun y => z ((ph_all_0 24).mp y b (by omega)))] at H
      exact H
theorem ph_hs {p : Int32 → Prop} (hs : s ≤ 12) (ev : ∀ b, b < 24 → eb (24 * s + b) = sv b) (H : p (if ph_all sv 24 = 0 then 0 else 1)) :
    wpX_hasSpan p (f, sd, cd, wd, ln, q, np, tr, eb) (nI s) := by
  unfold wpX_hasSpan
  dsimp only
  exact ⟨25, ph_hs2 hs ev H 24 0 (by omega) (fun c hc => by omega)⟩
end
