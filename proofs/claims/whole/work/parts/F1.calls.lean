/-! The law: its calls keep what stays true. By wip/whole/gen_fc.py. -/
section FC
variable {L q : Nat} {xs : Nat → Int32} {Lw : mSt → Prop} {m : mMem} {x5 x6 : Option Value}
theorem s_12 (hc : lwC 1000 Lw) (hn : L ≤ 2048) (hq : 4 * q + 3 < L) (H : gI L xs q m) (ih : ∀ m2 x5 x6, gI L xs (q + 1) m2 → Lw (23, Lf (4 * q + 4) x5 x6, [], m2)) : Lw (527, Lf (4 * q) x5 x6, [], m) := by
  obtain ⟨n, n2, P, T, tk, pt, fi, V, tx, len, nv, mv, h, hm, e1, e2, e3, e4⟩ := H
  obtain ⟨hT, hl, hc1, hs1, hB, hK⟩ := id h
  obtain ⟨a0, a1, a2, a3, a4, a5, a6, a7⟩ := id hB
  refine lc_12 hc hl.1 hn hq hl.2.1 a1.1.1 ?_
  refine ev_nodeC (x := 1) (n := n) (by omega) hT a1 a7 (fun p => (e3 p).2) (by omega) (far a0 (by omega)) hK.1 ?_
  intro m1 g k
  have h1 := h.ck g ck_co (by omega) (by omega) (hK.co g k)
  have b1 := hm.lc (ck_ag g ck_co)
  refine ⟨_, rfl, h1.2.1.1, h1.2.1.2.1, b1.1.1.1, ?_⟩
  refine ev_nodeM (by omega) h1.1 b1.1 b1.2.2.1 (fun m2 t _ y => ?_)
  exact ⟨rfl, ih m2 _ _ ((h1.md t (fun k z => by unfold mcA at z; omega) (fun k f z => by unfold mc0 at z; omega)).fin (b1.cov t y) e1 e2 e3 e4)⟩
theorem s_13 (hc : lwC 1000 Lw) (hn : L ≤ 2048) (hq : 4 * q + 3 < L) (H : gI L xs q m) (ih : ∀ m2 x5 x6, gI L xs (q + 1) m2 → Lw (23, Lf (4 * q + 4) x5 x6, [], m2)) : Lw (564, Lf (4 * q) x5 x6, [], m) := by
  obtain ⟨n, n2, P, T, tk, pt, fi, V, tx, len, nv, mv, h, hm, e1, e2, e3, e4⟩ := H
  obtain ⟨hT, hl, hc1, hs1, hB, hK⟩ := id h
  obtain ⟨a0, a1, a2, a3, a4, a5, a6, a7⟩ := id hB
  refine lc_13 hc hl.1 hn hq hl.2.1 a1.1.1 ?_
  refine ev_boundC (x := 1) (n := n) (by omega) hT a1 a7 (fun p => (e3 p).2) (by omega) (far a0 (by omega)) hK.1 ?_
  intro m1 g k
  have h1 := h.ck g ck_co (by omega) (by omega) (hK.co g k)
  have b1 := hm.lc (ck_ag g ck_co)
  refine ⟨_, rfl, h1.2.1.1, h1.2.1.2.1, b1.1.1.1, ?_⟩
  refine ev_boundM (by omega) h1.1 b1.1 b1.2.2.1 (fun m2 t _ y => ?_)
  exact ⟨rfl, ih m2 _ _ ((h1.md t (fun k z => by unfold mcA at z; omega) (fun k f z => by unfold mc0 at z; omega)).fin (b1.cov t y) e1 e2 e3 e4)⟩
theorem s_14 (hc : lwC 1000 Lw) (hn : L ≤ 2048) (hq : 4 * q + 3 < L) (H : gI L xs q m) (ih : ∀ m2 x5 x6, gI L xs (q + 1) m2 → Lw (23, Lf (4 * q + 4) x5 x6, [], m2)) : Lw (589, Lf (4 * q) x5 x6, [], m) := by
  obtain ⟨n, n2, P, T, tk, pt, fi, V, tx, len, nv, mv, h, hm, e1, e2, e3, e4⟩ := H
  obtain ⟨hT, hl, hc1, hs1, hB, hK⟩ := id h
  obtain ⟨a0, a1, a2, a3, a4, a5, a6, a7⟩ := id hB
  refine lc_14 hc hl.1 hn hq hl.2.1 a1.1.1 ?_
  refine ev_coversC (x := 1) (n := n) (by omega) hT a1 a7 (fun p => (e3 p).2) (by omega) (far a0 (by omega)) hK.1 ?_
  intro m1 g k
  have h1 := h.ck g ck_co (by omega) (by omega) (hK.co g k)
  have b1 := hm.lc (ck_ag g ck_co)
  refine ⟨_, rfl, h1.2.1.1, h1.2.1.2.1, b1.1.1.1, ?_⟩
  refine ev_coversM (by omega) h1.1 b1.1 b1.2.2.1 (fun m2 t _ y => ?_)
  exact ⟨rfl, ih m2 _ _ ((h1.md t (fun k z => by unfold mcA at z; omega) (fun k f z => by unfold mc0 at z; omega)).fin (b1.cov t y) e1 e2 e3 e4)⟩
theorem s_15 (hc : lwC 1000 Lw) (hn : L ≤ 2048) (hq : 4 * q + 3 < L) (H : gI L xs q m) (ih : ∀ m2 x5 x6, gI L xs (q + 1) m2 → Lw (23, Lf (4 * q + 4) x5 x6, [], m2)) : Lw (614, Lf (4 * q) x5 x6, [], m) := by
  obtain ⟨n, n2, P, T, tk, pt, fi, V, tx, len, nv, mv, h, hm, e1, e2, e3, e4⟩ := H
  obtain ⟨hT, hl, hc1, hs1, hB, hK⟩ := id h
  obtain ⟨a0, a1, a2, a3, a4, a5, a6, a7⟩ := id hB
  refine lc_15 hc hl.1 hn hq hl.2.1 a1.1.1 ?_
  refine ev_reachedC (x := 1) (n := n) (by omega) hT a1 a7 (fun p => (e3 p).2) (by omega) (far a0 (by omega)) hK.2.1 ?_
  intro m1 g k
  have h1 := h.ck g ck_re (by omega) (by omega) (hK.re g k)
  have b1 := hm.lc (ck_ag g ck_re)
  refine ⟨_, rfl, h1.2.1.1, h1.2.1.2.1, b1.1.1.1, ?_⟩
  refine ev_reachedM (by omega) h1.1 b1.1 b1.2.2.2.1 (fun m2 t _ y => ?_)
  exact ⟨rfl, ih m2 _ _ ((h1.md t (fun k z => by unfold mgB at z; omega) (fun k f z => by unfold mg0 at z; omega)).fin (b1.rch t y) e1 e2 e3 e4)⟩
theorem s_16 (hc : lwC 1000 Lw) (hn : L ≤ 2048) (hq : 4 * q + 3 < L) (H : gI L xs q m) (ih : ∀ m2 x5 x6, gI L xs (q + 1) m2 → Lw (23, Lf (4 * q + 4) x5 x6, [], m2)) : Lw (651, Lf (4 * q) x5 x6, [], m) := by
  obtain ⟨n, n2, P, T, tk, pt, fi, V, tx, len, nv, mv, h, hm, e1, e2, e3, e4⟩ := H
  obtain ⟨hT, hl, hc1, hs1, hB, hK⟩ := id h
  obtain ⟨a0, a1, a2, a3, a4, a5, a6, a7⟩ := id hB
  refine lc_16 hc hl.1 hn hq hl.2.1 a1.1.1 ?_
  refine ev_deadC (x := 1) (n := n) (by omega) hT a1 a7 (fun p => (e3 p).2) (by omega) (far a0 (by omega)) hK.2.1 ?_
  intro m1 g k
  have h1 := h.ck g ck_re (by omega) (by omega) (hK.re g k)
  have b1 := hm.lc (ck_ag g ck_re)
  refine ⟨_, rfl, h1.2.1.1, h1.2.1.2.1, b1.1.1.1, ?_⟩
  refine ev_deadM (by omega) h1.1 b1.1 b1.2.2.2.1 (fun m2 t _ y => ?_)
  exact ⟨rfl, ih m2 _ _ ((h1.md t (fun k z => by unfold mgB at z; omega) (fun k f z => by unfold mg0 at z; omega)).fin (b1.rch t y) e1 e2 e3 e4)⟩
theorem s_17 (hc : lwC 1000 Lw) (hn : L ≤ 2048) (hq : 4 * q + 3 < L) (H : gI L xs q m) (ih : ∀ m2 x5 x6, gI L xs (q + 1) m2 → Lw (23, Lf (4 * q + 4) x5 x6, [], m2)) : Lw (676, Lf (4 * q) x5 x6, [], m) := by
  obtain ⟨n, n2, P, T, tk, pt, fi, V, tx, len, nv, mv, h, hm, e1, e2, e3, e4⟩ := H
  obtain ⟨hT, hl, hc1, hs1, hB, hK⟩ := id h
  obtain ⟨a0, a1, a2, a3, a4, a5, a6, a7⟩ := id hB
  refine lc_17 hc hl.1 hn hq hl.2.1 a1.1.1 ?_
  refine ev_aliveC (x := 1) (n := n) (by omega) hT a1 a7 (fun p => (e3 p).2) (by omega) (far a0 (by omega)) hK.2.1 ?_ e4
  intro m1 g k
  have h1 := h.ck g ck_re (by omega) (by omega) (hK.re g k)
  have b1 := hm.lc (ck_ag g ck_re)
  refine ⟨_, rfl, h1.2.1.1, h1.2.1.2.1, b1.1.1.1, ?_⟩
  refine ev_aliveM (by omega) h1.1 b1.1 b1.2.2.2.1 (fun m2 t _ y => ?_)
  exact ⟨rfl, ih m2 _ _ ((h1.md t (fun k z => by unfold mgB at z; omega) (fun k f z => by unfold mg0 at z; omega)).fin (b1.rch t y) e1 e2 e3 e4)⟩
theorem s_18 (hc : lwC 1000 Lw) (hn : L ≤ 2048) (hq : 4 * q + 3 < L) (H : gI L xs q m) (ih : ∀ m2 x5 x6, gI L xs (q + 1) m2 → Lw (23, Lf (4 * q + 4) x5 x6, [], m2)) : Lw (701, Lf (4 * q) x5 x6, [], m) := by
  obtain ⟨n, n2, P, T, tk, pt, fi, V, tx, len, nv, mv, h, hm, e1, e2, e3, e4⟩ := H
  obtain ⟨hT, hl, hc1, hs1, hB, hK⟩ := id h
  obtain ⟨a0, a1, a2, a3, a4, a5, a6, a7⟩ := id hB
  refine lc_18 hc hl.1 hn hq hl.2.1 a1.1.1 ?_
  refine ev_wayC (x := 1) (n := n) (by omega) hT a1 a7 (fun p => (e3 p).2) (by omega) (far a0 (by omega)) hK.2.1 ?_
  intro m1 g k
  have h1 := h.ck g ck_re (by omega) (by omega) (hK.re g k)
  have b1 := hm.lc (ck_ag g ck_re)
  refine ⟨_, rfl, h1.2.1.1, h1.2.1.2.1, b1.1.1.1, ?_⟩
  refine ev_wayM (by omega) h1.1 b1.1 b1.2.2.2.1 (fun m2 t _ y => ?_)
  exact ⟨rfl, ih m2 _ _ ((h1.md t (fun k z => by unfold mgB at z; omega) (fun k f z => by unfold mg0 at z; omega)).fin (b1.rch t y) e1 e2 e3 e4)⟩
theorem s_19 (hc : lwC 1000 Lw) (hn : L ≤ 2048) (hq : 4 * q + 3 < L) (H : gI L xs q m) (ih : ∀ m2 x5 x6, gI L xs (q + 1) m2 → Lw (23, Lf (4 * q + 4) x5 x6, [], m2)) : Lw (726, Lf (4 * q) x5 x6, [], m) := by
  obtain ⟨n, n2, P, T, tk, pt, fi, V, tx, len, nv, mv, h, hm, e1, e2, e3, e4⟩ := H
  obtain ⟨hT, hl, hc1, hs1, hB, hK⟩ := id h
  obtain ⟨a0, a1, a2, a3, a4, a5, a6, a7⟩ := id hB
  refine lc_19 hc hl.1 hn hq hl.2.1 a1.1.1 ?_
  refine ev_flowC (x := 1) (n := n) (by omega) hT a1 a6 (fun p => (e3 p).1) (by omega) (fun a ha z => z.elim (far a0 (by omega) a ha) (far a0 (by omega) a ha)) hK.2.2.1 ?_
  intro m1 g k
  have h1 := h.ck g ck_fl (by omega) (by omega) (hK.fl g k)
  have b1 := hm.lc (ck_ag g ck_fl)
  refine ⟨_, rfl, h1.2.1.1, h1.2.1.2.1, b1.1.1.1, ?_⟩
  refine ev_flowM (by omega) h1.1 b1.1 b1.2.2.2.2.1 (fun m2 t _ y => ?_)
  exact ⟨rfl, ih m2 _ _ ((h1.md t (fun k z => by unfold mlA at z; omega) (fun k f z => by unfold moG at z; omega)).fin (b1.fk t y) e1 e2 e3 e4)⟩
theorem s_20 (hc : lwC 1000 Lw) (hn : L ≤ 2048) (hq : 4 * q + 3 < L) (H : gI L xs q m) (ih : ∀ m2 x5 x6, gI L xs (q + 1) m2 → Lw (23, Lf (4 * q + 4) x5 x6, [], m2)) : Lw (775, Lf (4 * q) x5 x6, [], m) := by
  obtain ⟨n, n2, P, T, tk, pt, fi, V, tx, len, nv, mv, h, hm, e1, e2, e3, e4⟩ := H
  obtain ⟨hT, hl, hc1, hs1, hB, hK⟩ := id h
  obtain ⟨a0, a1, a2, a3, a4, a5, a6, a7⟩ := id hB
  refine lc_20 hc hl.1 hn hq hl.2.1 a1.1.1 ?_
  refine ev_keptC (x := 1) (n := n) (by omega) hT a1 a6 (fun p => (e3 p).1) (by omega) (fun a ha z => z.elim (far a0 (by omega) a ha) (far a0 (by omega) a ha)) hK.2.2.1 ?_
  intro m1 g k
  have h1 := h.ck g ck_fl (by omega) (by omega) (hK.fl g k)
  have b1 := hm.lc (ck_ag g ck_fl)
  refine ⟨_, rfl, h1.2.1.1, h1.2.1.2.1, b1.1.1.1, ?_⟩
  refine ev_keptM (by omega) h1.1 b1.1 b1.2.2.2.2.1 (fun m2 t _ y => ?_)
  exact ⟨rfl, ih m2 _ _ ((h1.md t (fun k z => by unfold mlA at z; omega) (fun k f z => by unfold moG at z; omega)).fin (b1.fk t y) e1 e2 e3 e4)⟩
theorem s_21 (hc : lwC 1000 Lw) (hn : L ≤ 2048) (hq : 4 * q + 3 < L) (H : gI L xs q m) (ih : ∀ m2 x5 x6, gI L xs (q + 1) m2 → Lw (23, Lf (4 * q + 4) x5 x6, [], m2)) : Lw (800, Lf (4 * q) x5 x6, [], m) := by
  obtain ⟨n, n2, P, T, tk, pt, fi, V, tx, len, nv, mv, h, hm, e1, e2, e3, e4⟩ := H
  obtain ⟨hT, hl, hc1, hs1, hB, hK⟩ := id h
  obtain ⟨a0, a1, a2, a3, a4, a5, a6, a7⟩ := id hB
  refine lc_21 hc hl.1 hn hq hl.2.1 a1.1.1 ?_
  refine ev_leastC (x := 1) (n := n) (by omega) hT a1 a6 (fun p => (e3 p).1) (by omega) (far a0 (by omega)) hK.2.2.2.1 ?_
  intro m1 g k
  have h1 := h.ck g ck_se (by omega) (by omega) (hK.se g k)
  have b1 := hm.lc (ck_ag g ck_se)
  refine ⟨_, rfl, h1.2.1.1, h1.2.1.2.1, b1.1.1.1, ?_⟩
  refine ev_leastM (by omega) h1.1 b1.1 (fun m2 t _ => ?_)
  exact ⟨rfl, ih m2 _ _ ((h1.md t (fun k z => by unfold m27 at z; omega) (fun k f z => by unfold mF0 at z; omega)).fin (b1.se t) e1 e2 e3 e4)⟩
theorem s_22 (hc : lwC 1000 Lw) (hn : L ≤ 2048) (hq : 4 * q + 3 < L) (H : gI L xs q m) (ih : ∀ m2 x5 x6, gI L xs (q + 1) m2 → Lw (23, Lf (4 * q + 4) x5 x6, [], m2)) : Lw (837, Lf (4 * q) x5 x6, [], m) := by
  obtain ⟨n, n2, P, T, tk, pt, fi, V, tx, len, nv, mv, h, hm, e1, e2, e3, e4⟩ := H
  obtain ⟨hT, hl, hc1, hs1, hB, hK⟩ := id h
  obtain ⟨a0, a1, a2, a3, a4, a5, a6, a7⟩ := id hB
  refine lc_22 hc hl.1 hn hq hl.2.1 a1.1.1 ?_
  refine ev_trapC (x := 1) (n := n) (by omega) hT a1 a6 (fun p => (e3 p).1) (by omega) (far a0 (by omega)) hK.2.2.2.1 ?_
  intro m1 g k
  have h1 := h.ck g ck_se (by omega) (by omega) (hK.se g k)
  have b1 := hm.lc (ck_ag g ck_se)
  refine ⟨_, rfl, h1.2.1.1, h1.2.1.2.1, b1.1.1.1, ?_⟩
  exact ev_trapInM (by omega) h1.1 b1.1 ⟨rfl, ih _ _ _ ((h1.th b1).fin b1.th e1 e2 e3 e4)⟩
theorem s_24 (hc : lwC 1000 Lw) (hn : L ≤ 2048) (hq : 4 * q + 3 < L) (H : gI L xs q m) (ih : ∀ m2 x5 x6, gI L xs (q + 1) m2 → Lw (23, Lf (4 * q + 4) x5 x6, [], m2)) : Lw (875, Lf (4 * q) x5 x6, [], m) := by
  obtain ⟨n, n2, P, T, tk, pt, fi, V, tx, len, nv, mv, h, hm, e1, e2, e3, e4⟩ := H
  obtain ⟨hT, hl, hc1, hs1, hB, hK⟩ := id h
  obtain ⟨a0, a1, a2, a3, a4, a5, a6, a7⟩ := id hB
  refine lc_24 hc hl.1 hn hq hl.2.1 a1.1.1 ?_
  refine ev_caughtC (x := 1) (n := n) (by omega) hT a1 a6 (fun p => (e3 p).1) (by omega) (far a0 (by omega)) hK.2.2.2.1 ?_
  intro m1 g k
  have h1 := h.ck g ck_se (by omega) (by omega) (hK.se g k)
  have b1 := hm.lc (ck_ag g ck_se)
  refine ⟨_, rfl, h1.2.1.1, h1.2.1.2.1, b1.1.1.1, ?_⟩
  refine ev_caughtM (by omega) h1.1 b1.1 (fun m2 t _ => ?_)
  exact ⟨rfl, ih m2 _ _ ((h1.md t (fun k z => by unfold m27 at z; omega) (fun k f z => by unfold mF0 at z; omega)).fin (b1.se t) e1 e2 e3 e4)⟩
theorem s_25 (hc : lwC 1000 Lw) (hn : L ≤ 2048) (hq : 4 * q + 3 < L) (H : gI L xs q m) (ih : ∀ m2 x5 x6, gI L xs (q + 1) m2 → Lw (23, Lf (4 * q + 4) x5 x6, [], m2)) : Lw (888, Lf (4 * q) x5 x6, [], m) := by
  obtain ⟨n, n2, P, T, tk, pt, fi, V, tx, len, nv, mv, h, hm, e1, e2, e3, e4⟩ := H
  obtain ⟨hT, hl, hc1, hs1, hB, hK⟩ := id h
  obtain ⟨a0, a1, a2, a3, a4, a5, a6, a7⟩ := id hB
  refine lc_25 hc hl.1 hn hq hl.2.1 a1.1.1 ?_
  refine ev_eventC (x := 1) (n := n) (by omega) hT a1 a7 (fun p => (e3 p).2) (by omega) (far a0 (by omega)) hK.2.2.2.2 ?_
  intro m1 g k
  have h1 := h.ck g ck_un (by omega) (by omega) (hK.un g k)
  have b1 := hm.lc (ck_ag g ck_un)
  refine ⟨_, rfl, h1.2.1.1, h1.2.1.2.1, b1.1.1.1, ?_⟩
  refine ev_eventM (by omega) h1.1 b1.1 b1.2.2.2.2.2 (fun m2 t _ y => ?_)
  exact ⟨rfl, ih m2 _ _ ((h1.md t (fun k z => by unfold ufA at z; omega) (fun k f z => by unfold uf0 ufF at z; omega)).fin (b1.un t y) e1 e2 e3 e4)⟩
theorem s_26 (hc : lwC 1000 Lw) (hn : L ≤ 2048) (hq : 4 * q + 3 < L) (H : gI L xs q m) (ih : ∀ m2 x5 x6, gI L xs (q + 1) m2 → Lw (23, Lf (4 * q + 4) x5 x6, [], m2)) : Lw (925, Lf (4 * q) x5 x6, [], m) := by
  obtain ⟨n, n2, P, T, tk, pt, fi, V, tx, len, nv, mv, h, hm, e1, e2, e3, e4⟩ := H
  obtain ⟨hT, hl, hc1, hs1, hB, hK⟩ := id h
  obtain ⟨a0, a1, a2, a3, a4, a5, a6, a7⟩ := id hB
  refine lc_26 hc hl.1 hn hq hl.2.1 a1.1.1 ?_
  refine ev_conditionC (x := 1) (n := n) (by omega) hT a1 a7 (fun p => (e3 p).2) (by omega) (far a0 (by omega)) hK.2.2.2.2 ?_
  intro m1 g k
  have h1 := h.ck g ck_un (by omega) (by omega) (hK.un g k)
  have b1 := hm.lc (ck_ag g ck_un)
  refine ⟨_, rfl, h1.2.1.1, h1.2.1.2.1, b1.1.1.1, ?_⟩
  refine ev_conditionM (by omega) h1.1 b1.1 b1.2.2.2.2.2 (fun m2 t _ y => ?_)
  exact ⟨rfl, ih m2 _ _ ((h1.md t (fun k z => by unfold ufA at z; omega) (fun k f z => by unfold uf0 ufF at z; omega)).fin (b1.un t y) e1 e2 e3 e4)⟩
theorem s_27 (hc : lwC 1000 Lw) (hn : L ≤ 2048) (hq : 4 * q + 3 < L) (H : gI L xs q m) (ih : ∀ m2 x5 x6, gI L xs (q + 1) m2 → Lw (23, Lf (4 * q + 4) x5 x6, [], m2)) : Lw (962, Lf (4 * q) x5 x6, [], m) := by
  obtain ⟨n, n2, P, T, tk, pt, fi, V, tx, len, nv, mv, h, hm, e1, e2, e3, e4⟩ := H
  obtain ⟨hT, hl, hc1, hs1, hB, hK⟩ := id h
  obtain ⟨a0, a1, a2, a3, a4, a5, a6, a7⟩ := id hB
  refine lc_27 hc hl.1 hn hq hl.2.1 a1.1.1 ?_
  refine ev_atOnceC (x := 1) (n := n) (by omega) hT a1 a7 (fun p => (e3 p).2) (by omega) (far a0 (by omega)) hK.2.2.2.2 ?_
  intro m1 g k
  have h1 := h.ck g ck_un (by omega) (by omega) (hK.un g k)
  have b1 := hm.lc (ck_ag g ck_un)
  refine ⟨_, rfl, h1.2.1.1, h1.2.1.2.1, b1.1.1.1, ?_⟩
  refine ev_atOnceM (by omega) h1.1 b1.1 b1.2.2.2.2.2 (fun m2 t _ y => ?_)
  exact ⟨rfl, ih m2 _ _ ((h1.md t (fun k z => by unfold ufA at z; omega) (fun k f z => by unfold uf0 ufF at z; omega)).fin (b1.un t y) e1 e2 e3 e4)⟩
theorem s_28 (hc : lwC 1000 Lw) (hn : L ≤ 2048) (hq : 4 * q + 3 < L) (H : gI L xs q m) (ih : ∀ m2 x5 x6, gI L xs (q + 1) m2 → Lw (23, Lf (4 * q + 4) x5 x6, [], m2)) : Lw (999, Lf (4 * q) x5 x6, [], m) := by
  obtain ⟨n, n2, P, T, tk, pt, fi, V, tx, len, nv, mv, h, hm, e1, e2, e3, e4⟩ := H
  obtain ⟨hT, hl, hc1, hs1, hB, hK⟩ := id h
  obtain ⟨a0, a1, a2, a3, a4, a5, a6, a7⟩ := id hB
  refine lc_28 hc hl.1 hn hq hl.2.1 a1.1.1 ?_
  refine ev_leavesC (x := 1) (n := n) (by omega) hT a1 a7 (fun p => (e3 p).2) (by omega) (far a0 (by omega)) hK.2.2.2.2 ?_
  intro m1 g k
  have h1 := h.ck g ck_un (by omega) (by omega) (hK.un g k)
  have b1 := hm.lc (ck_ag g ck_un)
  refine ⟨_, rfl, h1.2.1.1, h1.2.1.2.1, b1.1.1.1, ?_⟩
  refine ev_leavesM (by omega) h1.1 b1.1 b1.2.2.2.2.2 (fun m2 t _ y => ?_)
  exact ⟨rfl, ih m2 _ _ ((h1.md t (fun k z => by unfold ufA at z; omega) (fun k f z => by unfold uf0 ufF at z; omega)).fin (b1.un t y) e1 e2 e3 e4)⟩
theorem s_4 (hc : lwC 1000 Lw) (hn : L ≤ 2048) (hq : 4 * q + 3 < L) (H : gI L xs q m) (ih : ∀ m2 x5 x6, gI L xs (q + 1) m2 → Lw (23, Lf (4 * q + 4) x5 x6, [], m2)) : Lw (315, Lf (4 * q) x5 x6, [], m) := by
  obtain ⟨n, n2, P, T, tk, pt, fi, V, tx, len, nv, mv, h, hm, e1, e2, e3, e4⟩ := H
  obtain ⟨hT, hl, hc1, hs1, hB, hK⟩ := id h
  obtain ⟨a0, a1, a2, a3, a4, a5, a6, a7⟩ := id hB
  refine lc_4 hc hl.1 hn hq hl.2.1 a1.1.1 ?_
  refine ev_tokensC (by omega) hT a1 ⟨_, rfl, hl.1, hl.2.1, hm.1.1.1, ?_⟩
  exact ev_tokensM (by omega) hT hm.1 ⟨rfl, ih _ _ _ ((h.th hm).up.fin hm.th e1 e2 e3 e4)⟩
theorem s_5 (hc : lwC 1000 Lw) (hn : L ≤ 2048) (hq : 4 * q + 3 < L) (H : gI L xs q m) (ih : ∀ m2 x5 x6, gI L xs (q + 1) m2 → Lw (23, Lf (4 * q + 4) x5 x6, [], m2)) : Lw (352, Lf (4 * q) x5 x6, [], m) := by
  obtain ⟨n, n2, P, T, tk, pt, fi, V, tx, len, nv, mv, h, hm, e1, e2, e3, e4⟩ := H
  obtain ⟨hT, hl, hc1, hs1, hB, hK⟩ := id h
  obtain ⟨a0, a1, a2, a3, a4, a5, a6, a7⟩ := id hB
  refine lc_5 hc hl.1 hn hq hl.2.1 a1.1.1 ?_
  refine ev_canC (by omega) hT a1 ⟨_, rfl, hl.1, hl.2.1, hm.1.1.1, ?_⟩
  exact ev_canMM (by omega) hT hm.1 ⟨rfl, ih _ _ _ ((h.th hm).up.fin hm.th e1 e2 e3 e4)⟩
theorem s_23 (hc : lwC 1000 Lw) (hn : L ≤ 2048) (hq : 4 * q + 3 < L) (H : gI L xs q m) (ih : ∀ m2 x5 x6, gI L xs (q + 1) m2 → Lw (23, Lf (4 * q + 4) x5 x6, [], m2)) : Lw (862, Lf (4 * q) x5 x6, [], m) := by
  obtain ⟨n, n2, P, T, tk, pt, fi, V, tx, len, nv, mv, h, hm, e1, e2, e3, e4⟩ := H
  obtain ⟨hT, hl, hc1, hs1, hB, hK⟩ := id h
  obtain ⟨a0, a1, a2, a3, a4, a5, a6, a7⟩ := id hB
  refine lc_23 hc hl.1 hn hq hl.2.1 a1.1.1 ?_
  refine ev_kindsC (by omega) hT a1 ⟨_, rfl, hl.1, hl.2.1, hm.1.1.1, ?_⟩
  exact ev_kindsM (by omega) hT hm.1 ⟨rfl, ih _ _ _ ((h.th hm).up.fin hm.th e1 e2 e3 e4)⟩
theorem s_29 (hc : lwC 1000 Lw) (hn : L ≤ 2048) (hq : 4 * q + 3 < L) (H : gI L xs q m) (ih : ∀ m2 x5 x6, gI L xs (q + 1) m2 → Lw (23, Lf (4 * q + 4) x5 x6, [], m2)) : Lw (1036, Lf (4 * q) x5 x6, [], m) := by
  obtain ⟨n, n2, P, T, tk, pt, fi, V, tx, len, nv, mv, h, hm, e1, e2, e3, e4⟩ := H
  obtain ⟨hT, hl, hc1, hs1, hB, hK⟩ := id h
  obtain ⟨a0, a1, a2, a3, a4, a5, a6, a7⟩ := id hB
  refine lc_29 hc hl.1 hn hq hl.2.1 a1.1.1 ?_
  refine ev_countC (by omega) hT a1 a2 a3 ⟨_, rfl, hl.1, hl.2.1, hm.1.1.1, ?_⟩
  exact ev_countM (by omega) hT hm.1 hm.2.1.2.1 ⟨rfl, ih _ _ _ ((h.th hm).up.fin hm.th e1 e2 e3 e4)⟩
theorem s_6 (hc : lwC 1000 Lw) (hn : L ≤ 2048) (hq : 4 * q + 3 < L) (H : gI L xs q m) (ih : ∀ m2 x5 x6, gI L xs (q + 1) m2 → Lw (23, Lf (4 * q + 4) x5 x6, [], m2)) : Lw (365, Lf (4 * q) x5 x6, [], m) := by
  obtain ⟨n, n2, P, T, tk, pt, fi, V, tx, len, nv, mv, h, hm, e1, e2, e3, e4⟩ := H
  obtain ⟨hT, hl, hc1, hs1, hB, hK⟩ := id h
  obtain ⟨a0, a1, a2, a3, a4, a5, a6, a7⟩ := id hB
  refine lc_6 hc hl.1 hn hq hl.2.1 a1.1.1 ?_
  refine ev_fireC (by omega) hT a1 ?_
  intro m1 k kS
  obtain ⟨mv1, v1, v2, h1⟩ := h.ac k kS
  have b1 := hm.lc (ac_ag k.1)
  refine ⟨_, rfl, h1.2.1.1, h1.2.1.2.1, b1.1.1.1, ?_⟩
  refine ev_fireM (by omega) h1.1 b1.1 (fun m2 k2 kS2 => ?_)
  exact ⟨rfl, ih m2 _ _ ⟨_, _, _, _, _, _, _, _, _, _, _, _, (h1.md k2.1 (fun k z => by unfold maA at z; omega) (fun k f z => z.1)).up, b1.ac k2 kS2, by omega, by omega, fun p => ⟨(e3 p).1, by have := (e3 p).2; omega⟩, e4⟩⟩
theorem s_7 (hc : lwC 1000 Lw) (hn : L ≤ 2048) (hq : 4 * q + 3 < L) (H : gI L xs q m) (ih : ∀ m2 x5 x6, gI L xs (q + 1) m2 → Lw (23, Lf (4 * q + 4) x5 x6, [], m2)) : Lw (390, Lf (4 * q) x5 x6, [], m) := by
  obtain ⟨n, n2, P, T, tk, pt, fi, V, tx, len, nv, mv, h, hm, e1, e2, e3, e4⟩ := H
  obtain ⟨hT, hl, hc1, hs1, hB, hK⟩ := id h
  obtain ⟨a0, a1, a2, a3, a4, a5, a6, a7⟩ := id hB
  refine lc_7 hc hl.1 hn hq hl.2.1 a1.1.1 ?_
  refine ev_putC (by omega) hT a1 ?_
  intro m1 k kS
  obtain ⟨mv1, v1, v2, h1⟩ := h.ac k kS
  have b1 := hm.lc (ac_ag k.1)
  refine ⟨_, rfl, h1.2.1.1, h1.2.1.2.1, b1.1.1.1, ?_⟩
  refine ev_putM (by omega) h1.1 b1.1 (fun m2 k2 kS2 => ?_)
  exact ⟨rfl, ih m2 _ _ ⟨_, _, _, _, _, _, _, _, _, _, _, _, (h1.md k2.1 (fun k z => by unfold maA at z; omega) (fun k f z => z.1)).up, b1.ac k2 kS2, by omega, by omega, fun p => ⟨(e3 p).1, by have := (e3 p).2; omega⟩, e4⟩⟩
theorem s_8 (hc : lwC 1000 Lw) (hn : L ≤ 2048) (hq : 4 * q + 3 < L) (H : gI L xs q m) (ih : ∀ m2 x5 x6, gI L xs (q + 1) m2 → Lw (23, Lf (4 * q + 4) x5 x6, [], m2)) : Lw (427, Lf (4 * q) x5 x6, [], m) := by
  obtain ⟨n, n2, P, T, tk, pt, fi, V, tx, len, nv, mv, h, hm, e1, e2, e3, e4⟩ := H
  obtain ⟨hT, hl, hc1, hs1, hB, hK⟩ := id h
  obtain ⟨a0, a1, a2, a3, a4, a5, a6, a7⟩ := id hB
  refine lc_8 hc hl.1 hn hq hl.2.1 a1.1.1 ?_
  refine ev_runC (by omega) hT a1 ?_
  intro m1 k kS
  obtain ⟨mv1, v1, v2, h1⟩ := h.ac k kS
  have b1 := hm.lc (ac_ag k.1)
  refine ⟨_, rfl, h1.2.1.1, h1.2.1.2.1, b1.1.1.1, ?_⟩
  refine ev_runM (by omega) h1.1 b1.1 (fun m2 k2 kS2 => ?_)
  exact ⟨rfl, ih m2 _ _ ⟨_, _, _, _, _, _, _, _, _, _, _, _, (h1.md k2.1 (fun k z => by unfold maA at z; omega) (fun k f z => z.1)).up, b1.ac k2 kS2, by omega, by omega, fun p => ⟨(e3 p).1, by have := (e3 p).2; omega⟩, e4⟩⟩
theorem s_9 (hc : lwC 1000 Lw) (hn : L ≤ 2048) (hq : 4 * q + 3 < L) (H : gI L xs q m) (ih : ∀ m2 x5 x6, gI L xs (q + 1) m2 → Lw (23, Lf (4 * q + 4) x5 x6, [], m2)) : Lw (464, Lf (4 * q) x5 x6, [], m) := by
  obtain ⟨n, n2, P, T, tk, pt, fi, V, tx, len, nv, mv, h, hm, e1, e2, e3, e4⟩ := H
  obtain ⟨hT, hl, hc1, hs1, hB, hK⟩ := id h
  obtain ⟨a0, a1, a2, a3, a4, a5, a6, a7⟩ := id hB
  refine lc_9 hc hl.1 hn hq hl.2.1 a1.1.1 ?_
  refine ev_homeC (by omega) hT a1 ?_
  intro m1 k kS
  obtain ⟨mv1, v1, v2, h1⟩ := h.ac k kS
  have b1 := hm.lc (ac_ag k.1)
  refine ⟨_, rfl, h1.2.1.1, h1.2.1.2.1, b1.1.1.1, ?_⟩
  refine ev_homeM (by omega) h1.1 b1.1 (fun m2 k2 kS2 => ?_)
  exact ⟨rfl, ih m2 _ _ ⟨_, _, _, _, _, _, _, _, _, _, _, _, (h1.md k2.1 (fun k z => by unfold maA at z; omega) (fun k f z => z.1)).up, b1.ac k2 kS2, by omega, by omega, fun p => ⟨(e3 p).1, by have := (e3 p).2; omega⟩, e4⟩⟩
theorem s_10 (hc : lwC 1000 Lw) (hn : L ≤ 2048) (hq : 4 * q + 3 < L) (H : gI L xs q m) (ih : ∀ m2 x5 x6, gI L xs (q + 1) m2 → Lw (23, Lf (4 * q + 4) x5 x6, [], m2)) : Lw (477, Lf (4 * q) x5 x6, [], m) := by
  obtain ⟨n, n2, P, T, tk, pt, fi, V, tx, len, nv, mv, h, hm, e1, e2, e3, e4⟩ := H
  obtain ⟨hT, hl, hc1, hs1, hB, hK⟩ := id h
  obtain ⟨a0, a1, a2, a3, a4, a5, a6, a7⟩ := id hB
  refine lc_10 hc hl.1 hn hq hl.2.1 a1.1.1 ?_
  refine ev_undoC (by omega) hT a1 ?_
  intro m1 k kS
  obtain ⟨mv1, v1, v2, h1⟩ := h.ac k kS
  have b1 := hm.lc (ac_ag k.1)
  refine ⟨_, rfl, h1.2.1.1, h1.2.1.2.1, b1.1.1.1, ?_⟩
  refine ev_undoM (by omega) h1.1 b1.1 (fun m2 k2 kS2 => ?_)
  exact ⟨rfl, ih m2 _ _ ⟨_, _, _, _, _, _, _, _, _, _, _, _, (h1.md k2.1 (fun k z => by unfold maA at z; omega) (fun k f z => z.1)).up, b1.ac k2 kS2, by omega, by omega, fun p => ⟨(e3 p).1, by have := (e3 p).2; omega⟩, e4⟩⟩
theorem s_11 (hc : lwC 1000 Lw) (hn : L ≤ 2048) (hq : 4 * q + 3 < L) (H : gI L xs q m) (ih : ∀ m2 x5 x6, gI L xs (q + 1) m2 → Lw (23, Lf (4 * q + 4) x5 x6, [], m2)) : Lw (490, Lf (4 * q) x5 x6, [], m) := by
  obtain ⟨n, n2, P, T, tk, pt, fi, V, tx, len, nv, mv, h, hm, e1, e2, e3, e4⟩ := H
  obtain ⟨hT, hl, hc1, hs1, hB, hK⟩ := id h
  obtain ⟨a0, a1, a2, a3, a4, a5, a6, a7⟩ := id hB
  refine lc_11 hc hl.1 hn hq hl.2.1 a1.1.1 ?_
  refine ev_goalC (by omega) hT a1 ?_
  intro m1 k kS
  obtain ⟨mv1, v1, v2, h1⟩ := h.ac k kS
  have b1 := hm.lc (ac_ag k.1)
  refine ⟨_, rfl, h1.2.1.1, h1.2.1.2.1, b1.1.1.1, ?_⟩
  refine ev_goalM (by omega) h1.1 b1.1 (fun m2 k2 kS2 => ?_)
  exact ⟨rfl, ih m2 _ _ ⟨_, _, _, _, _, _, _, _, _, _, _, _, (h1.md k2.1 (fun k z => by unfold maA at z; omega) (fun k f z => z.1)).up, b1.ac k2 kS2, by omega, by omega, fun p => ⟨(e3 p).1, by have := (e3 p).2; omega⟩, e4⟩⟩
end FC
