/-! ===== the small methods ===== -/
theorem ph_xd0 {post : Int32 → Prop} {v : Int32} (h : v < 0 ∨ nI 6 ≤ v) (p : post 0) : wpX_isDocument post v := by
  unfold wpX_isDocument
  exact br_c (fun _ => p) (fun z => br_t (h.resolve_left z) p)
theorem ph_xd1 {post : Int32 → Prop} {j : Nat} (h : j < 6) (p : post 1) : wpX_isDocument post (nI j) := by
  unfold wpX_isDocument
  exact br_f (nI_pos (by omega)) (br_f (nI_ge (b := 6) h (by decide)) p)
theorem ph_yd0 {post : Int32 → Prop} {u : SY} {v : Int32} (h : v < 0 ∨ nI 6 ≤ v) (p : post 0) : wpY_document post u v := by
  obtain ⟨a, b, c, d, e, f, g⟩ := u
  unfold wpY_document
  dsimp only
  refine br_c (fun _ => p) (fun z => ?_)
  obtain ⟨j, hj, rfl⟩ := nI_of z
  have h6 := (nI_leI (by omega) hj).mp (h.resolve_left z)
  exact br_t (nI_lt (a := 5) (by omega) hj) p
theorem ph_yd1 {post : Int32 → Prop} {u : SY} {j : Nat} (h : j < 6) (p : post 1) : wpY_document post u (nI j) := by
  obtain ⟨a, b, c, d, e, f, g⟩ := u
  unfold wpY_document
  dsimp only
  exact br_f (nI_pos (by omega)) (pk_lt 5 j (fun z => absurd z (by omega)) (fun _ => p))
theorem ph_xw0 {post : Int32 → Prop} {v : Int32} (h : v < 0 ∨ nI 12 ≤ v) (p : post 0) : wpX_isWord post v := by
  unfold wpX_isWord
  exact br_c (fun _ => p) (fun z => br_t (h.resolve_left z) p)
theorem ph_xw1 {post : Int32 → Prop} {j : Nat} (h : j < 12) (p : post 1) : wpX_isWord post (nI j) := by
  unfold wpX_isWord
  exact br_f (nI_pos (by omega)) (br_f (nI_ge (b := 12) h (by decide)) p)
theorem ph_xs0 {post : Int32 → Prop} {v : Int32} (h : v < 0 ∨ nI 19 ≤ v) (p : post 0) : wpX_isSpanToken post v := by
  unfold wpX_isSpanToken
  refine br_c (fun _ => p) (fun z => ?_)
  obtain ⟨j, hj, rfl⟩ := nI_of z
  have h6 := (nI_leI (by omega) hj).mp (h.resolve_left z)
  exact br_t (nI_lt (a := 18) (by omega) hj) p
theorem ph_xs1 {post : Int32 → Prop} {j : Nat} (h : j < 19) (p : post 1) : wpX_isSpanToken post (nI j) := by
  unfold wpX_isSpanToken
  exact br_f (nI_pos (by omega)) (pk_lt 18 j (fun z => absurd z (by omega)) (fun _ => p))
/-- an index into a table of rows of 24 -/
theorem ph_ix (i b : Nat) : nI i * 24 + nI b = nI (24 * i + b) := by
  rw [show (24 : Int32) = nI 24 from rfl, pk_mul, nI_add, Nat.mul_comm]
theorem ph_iy (i b : Nat) : 24 * nI i + nI b = nI (24 * i + b) := by
  rw [show (24 : Int32) = nI 24 from rfl, pk_mul, nI_add]
/-! ===== write, change, erase, length ===== -/
theorem ph_R_w {n : Nat} {wd ln q : Nat → Int32} (h : ph_R n wd ln q) {d l w : Nat} (hd : d < 6) (e : ln d = nI l) (hl : l < 24) (hw : w < 12) :
    ph_R n (upd wd (24 * d + l) (nI w)) (upd ln d (nI (l + 1))) q := by
  obtain ⟨h1, h2, h3⟩ := h
  refine ⟨h1, h2, fun d' hd' => ?_⟩
  obtain ⟨l', hl', e', h'⟩ := h3 d' hd'
  by_cases z : d' = d
  · subst z
    have el : l' = l := (nI_eq (by omega) (by omega)).mp (e'.symm.trans e)
    subst el
    refine ⟨l' + 1, by omega, pk_us, fun p hp => ?_⟩
    by_cases y : p = l'
    · subst y; exact ⟨w, by omega, pk_us⟩
    · obtain ⟨x, hx, ex⟩ := h' p (by omega)
      exact ⟨x, hx, by rw [pk_un (by omega)]; exact ex⟩
  · refine ⟨l', hl', by rw [pk_un z]; exact e', fun p hp => ?_⟩
    obtain ⟨x, hx, ex⟩ := h' p hp
    exact ⟨x, hx, by rw [pk_un (by omega)]; exact ex⟩
theorem ph_R_c {n : Nat} {wd ln q : Nat → Int32} (h : ph_R n wd ln q) {d p w : Nat} (hd : d < 6) (hp : p < 24) (hw : w < 12) :
    ph_R n (upd wd (24 * d + p) (nI w)) ln q := by
  obtain ⟨h1, h2, h3⟩ := h
  refine ⟨h1, h2, fun d' hd' => ?_⟩
  obtain ⟨l', hl', e', h'⟩ := h3 d' hd'
  refine ⟨l', hl', e', fun p' hp' => ?_⟩
  by_cases z : 24 * d' + p' = 24 * d + p
  · rw [z]; exact ⟨w, by omega, pk_us⟩
  · obtain ⟨x, hx, ex⟩ := h' p' hp'
    exact ⟨x, hx, by rw [pk_un z]; exact ex⟩
theorem ph_R_e {n : Nat} {wd ln q : Nat → Int32} (h : ph_R n wd ln q) {d : Nat} : ph_R n wd (upd ln d (nI 0)) q := by
  obtain ⟨h1, h2, h3⟩ := h
  refine ⟨h1, h2, fun d' hd' => ?_⟩
  obtain ⟨l', hl', e', h'⟩ := h3 d' hd'
  by_cases z : d' = d
  · subst z; exact ⟨0, by omega, pk_us, fun p hp => by omega⟩
  · exact ⟨l', hl', by rw [pk_un z]; exact e', h'⟩
theorem i_vc_write {k : Nat} {u : SX} {v : SY} (I : i_Rel k u v) (hk : k + 4 ≤ 2048) (v1 : Int32) (v2 : Int32) : wpX_write (fun r u' => wpY_write (fun r' v' => r' = r ∧ i_Rel (k + 4) u' v') v v1 v2) u v1 v2 := by
  obtain ⟨n, wd, ln, q, np, tr, eb, rw, sk, pl, rfl, rfl, R⟩ := I
  have T : ∀ {v1 : Int32}, (v1 < 0 ∨ nI 6 ≤ v1) ∨ ∃ j, j < 6 ∧ v1 = nI j := fun {v1} => by
    rcases pk_ix v1 (n := 6) (by omega) with h | h | h
    · exact Or.inl (Or.inl h)
    · exact Or.inl (Or.inr h)
    · exact Or.inr h
  unfold wpX_write
  dsimp only
  rcases T (v1 := v1) with h | ⟨d, hd, rfl⟩
  · refine ph_xd0 h (br_t rfl ?_)
    unfold wpY_write
    dsimp only
    exact ph_yd0 h (br_t rfl ⟨rfl, ph_mk R⟩)
  · refine ph_xd1 hd (br_f (by decide) ?_)
    rcases pk_ix v2 (n := 12) (by omega) with h | h | ⟨w, hw, rfl⟩
    · refine ph_xw0 (Or.inl h) (br_t rfl ?_)
      unfold wpY_write
      dsimp only
      exact ph_yd1 hd (br_f (by decide) (br_t h ⟨rfl, ph_mk R⟩))
    · refine ph_xw0 (Or.inr h) (br_t rfl ?_)
      unfold wpY_write
      dsimp only
      refine ph_yd1 hd (br_f (by decide) ?_)
      refine br_c (fun _ => ⟨rfl, ph_mk R⟩) (fun z => ?_)
      obtain ⟨j, hj, rfl⟩ := nI_of z
      have h6 := (nI_leI (by omega) hj).mp h
      exact pk_le j 11 (fun z => absurd z (by omega)) (fun _ => ⟨rfl, ph_mk R⟩)
    · obtain ⟨l, hl, el, _⟩ := R.2.2 d hd
      refine ph_xw1 hw (br_f (by decide) ⟨vp_in_nI hd (by decide), ?_⟩)
      rw [nI_clamp (n := d) (by omega), el]
      refine nm_e ?_
      refine pk_lt l 24 (fun hl => ?_) (fun hl => ?_)
      · rw [ph_ix, nI_clamp (n := 24 * d + l) (by omega)]
        refine ⟨vp_in_nI (by omega) (by decide), nm_e ⟨vp_in_nI hd (by decide), nm_e ?_⟩⟩
        rw [nI_1]
        unfold wpY_write
        dsimp only
        refine ph_yd1 hd (br_f (by decide) (br_f (nI_pos (by omega)) (pk_le w 11 (fun _ => ?_) (fun z => absurd z (by omega)))))
        rw [nI_clamp (n := d) (by omega), el, ph_iy, nI_clamp (n := 24 * d + l) (by omega)]
        refine ⟨vp_in_nI hd (by decide), pk_lt l 24 (fun _ => ?_) (fun z => absurd z (by omega))⟩
        refine ⟨vp_in_nI hd (by decide), vp_in_nI (by omega) (by decide), nm_e ⟨vp_in_nI hd (by decide), vp_in_nI hd (by decide), nm_e ⟨vp_in_nI hd (by decide), ?_⟩⟩⟩
        rw [pk_us, nI_1, nI_pred]
        exact ⟨rfl, ph_mk (ph_R_w R hd el hl hw)⟩
      · unfold wpY_write
        dsimp only
        refine ph_yd1 hd (br_f (by decide) (br_f (nI_pos (by omega)) (pk_le w 11 (fun _ => ?_) (fun z => absurd z (by omega)))))
        rw [nI_clamp (n := d) (by omega), el]
        exact ⟨vp_in_nI hd (by decide), pk_lt l 24 (fun z => absurd z (by omega)) (fun _ => ⟨rfl, ph_mk R⟩)⟩
theorem i_vc_change {k : Nat} {u : SX} {v : SY} (I : i_Rel k u v) (hk : k + 4 ≤ 2048) (v1 : Int32) (v2 : Int32) (v3 : Int32) : wpX_change (fun r u' => wpY_change (fun r' v' => r' = r ∧ i_Rel (k + 4) u' v') v v1 v2 v3) u v1 v2 v3 := by
  obtain ⟨n, wd, ln, q, np, tr, eb, rw, sk, pl, rfl, rfl, R⟩ := I
  unfold wpX_change
  dsimp only
  rcases pk_ix v1 (n := 6) (by omega) with h | h | ⟨d, hd, rfl⟩
  · refine ph_xd0 (Or.inl h) (br_t rfl ?_)
    unfold wpY_change
    dsimp only
    exact ph_yd0 (Or.inl h) (br_t rfl ⟨rfl, ph_mk R⟩)
  · refine ph_xd0 (Or.inr h) (br_t rfl ?_)
    unfold wpY_change
    dsimp only
    exact ph_yd0 (Or.inr h) (br_t rfl ⟨rfl, ph_mk R⟩)
  · obtain ⟨l, hl, el, _⟩ := R.2.2 d hd
    refine ph_xd1 hd (br_f (by decide) ?_)
    rcases pk_ix v3 (n := 12) (by omega) with h | h | ⟨w, hw, rfl⟩
    · refine ph_xw0 (Or.inl h) (br_t rfl ?_)
      unfold wpY_change
      dsimp only
      refine ph_yd1 hd (br_f (by decide) (br_c (fun _ => ⟨rfl, ph_mk R⟩) (fun _ => ⟨vp_in_nI hd (by decide), br_c (fun _ => ⟨rfl, ph_mk R⟩) (fun _ => br_t h ⟨rfl, ph_mk R⟩)⟩)))
    · refine ph_xw0 (Or.inr h) (br_t rfl ?_)
      unfold wpY_change
      dsimp only
      refine ph_yd1 hd (br_f (by decide) (br_c (fun _ => ⟨rfl, ph_mk R⟩) (fun _ => ⟨vp_in_nI hd (by decide), br_c (fun _ => ⟨rfl, ph_mk R⟩) (fun _ => br_c (fun _ => ⟨rfl, ph_mk R⟩) (fun z => ?_))⟩)))
      obtain ⟨j, hj, rfl⟩ := nI_of z
      have h6 := (nI_leI (by omega) hj).mp h
      exact pk_le j 11 (fun z => absurd z (by omega)) (fun _ => ⟨rfl, ph_mk R⟩)
    · refine ph_xw1 hw (br_f (by decide) ?_)
      refine br_c (fun z => ?_) (fun z => ?_)
      · unfold wpY_change
        dsimp only
        exact ph_yd1 hd (br_f (by decide) (br_t z ⟨rfl, ph_mk R⟩))
      · obtain ⟨p, hp, rfl⟩ := nI_of z
        refine ⟨vp_in_nI hd (by decide), ?_⟩
        rw [nI_clamp (n := d) (by omega), el, ph_ix]
        refine pk_lt p l (fun hpl => ?_) (fun hpl => ?_)
        · rw [nI_clamp (n := 24 * d + p) (by omega)]
          refine ⟨vp_in_nI (by omega) (by decide), nm_e ?_⟩
          unfold wpY_change
          dsimp only
          refine ph_yd1 hd (br_f (by decide) (br_f z ?_))
          rw [nI_clamp (n := d) (by omega), el, ph_iy, nI_clamp (n := 24 * d + p) (by omega)]
          refine ⟨vp_in_nI hd (by decide), pk_le l p (fun z => absurd z (by omega)) (fun _ => br_f (nI_pos (by omega)) (pk_le w 11 (fun _ => ?_) (fun z => absurd z (by omega))))⟩
          exact ⟨vp_in_nI (by omega) (by decide), nm_e ⟨rfl, ph_mk (ph_R_c R hd (by omega) hw)⟩⟩
        · unfold wpY_change
          dsimp only
          refine ph_yd1 hd (br_f (by decide) (br_f z ?_))
          rw [nI_clamp (n := d) (by omega), el]
          exact ⟨vp_in_nI hd (by decide), pk_le l p (fun _ => ⟨rfl, ph_mk R⟩) (fun z => absurd z (by omega))⟩
theorem i_vc_erase {k : Nat} {u : SX} {v : SY} (I : i_Rel k u v) (hk : k + 4 ≤ 2048) (v1 : Int32) : wpX_erase (fun r u' => wpY_erase (fun r' v' => r' = r ∧ i_Rel (k + 4) u' v') v v1) u v1 := by
  obtain ⟨n, wd, ln, q, np, tr, eb, rw, sk, pl, rfl, rfl, R⟩ := I
  unfold wpX_erase
  dsimp only
  rcases pk_ix v1 (n := 6) (by omega) with h | h | ⟨d, hd, rfl⟩
  · refine ph_xd0 (Or.inl h) (br_t rfl ?_)
    unfold wpY_erase
    dsimp only
    exact ph_yd0 (Or.inl h) (br_t rfl ⟨rfl, ph_mk R⟩)
  · refine ph_xd0 (Or.inr h) (br_t rfl ?_)
    unfold wpY_erase
    dsimp only
    exact ph_yd0 (Or.inr h) (br_t rfl ⟨rfl, ph_mk R⟩)
  · refine ph_xd1 hd (br_f (by decide) ⟨vp_in_nI hd (by decide), nm_e ?_⟩)
    unfold wpY_erase
    dsimp only
    refine ph_yd1 hd (br_f (by decide) ⟨vp_in_nI hd (by decide), nm_e ?_⟩)
    exact ⟨rfl, ph_mk (ph_R_e R)⟩
theorem i_vc_length {k : Nat} {u : SX} {v : SY} (I : i_Rel k u v) (hk : k + 4 ≤ 2048) (v1 : Int32) : wpX_length (fun r => wpY_length (fun r' => r' = r ∧ i_Rel (k + 4) u v) v v1) u v1 := by
  obtain ⟨n, wd, ln, q, np, tr, eb, rw, sk, pl, rfl, rfl, R⟩ := I
  unfold wpX_length
  dsimp only
  rcases pk_ix v1 (n := 6) (by omega) with h | h | ⟨d, hd, rfl⟩
  · refine ph_xd0 (Or.inl h) (br_t rfl ?_)
    unfold wpY_length
    dsimp only
    exact ph_yd0 (Or.inl h) (br_t rfl ⟨rfl, ph_mk R⟩)
  · refine ph_xd0 (Or.inr h) (br_t rfl ?_)
    unfold wpY_length
    dsimp only
    exact ph_yd0 (Or.inr h) (br_t rfl ⟨rfl, ph_mk R⟩)
  · refine ph_xd1 hd (br_f (by decide) ⟨vp_in_nI hd (by decide), ?_⟩)
    unfold wpY_length
    dsimp only
    exact ph_yd1 hd (br_f (by decide) ⟨vp_in_nI hd (by decide), rfl, ph_mk R⟩)
