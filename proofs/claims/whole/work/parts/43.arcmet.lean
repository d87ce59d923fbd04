/-! The contract of PlaceNets.arc where it throws. -/
def mXQ (D : va_G) (cT : FieldType → ClassId) (φ : Nat → Nat) (mm : mMem) (sz : Nat) (mf : mMem) (E : String) (st t : State) : Prop := E = xNS ∧ (∃ φ1, mOk mf ∧ mExt mm mf φ φ1 ∧ ∃ dom : List Nat, dom.Nodup ∧ (∀ k, k ∈ dom ↔ k ≠ 0 ∧ mf.1 k ≠ none) ∧ va_P D mCl (mWs cT φ1 mf dom) t.heap ∧ va_D (mA φ mm sz) (mWs cT φ1 mf dom)) ∧ va_F (mA φ mm sz) st t
def mPcX (D : va_G) (cT : FieldType → ClassId) (φ : Nat → Nat) (mm : mMem) (sz : Nat) (as : List Value) : Array Value → State → Prop := va_Pc (as.map (mCv φ)) (fun U => mPB D cT φ mm sz U ∧ mXs (mA φ mm sz) U)
set_option maxHeartbeats 1000000 in
theorem arcThrow (l : Launch) (hl : l.stackTraces = false) {D : va_G} {cT : FieldType → ClassId} {d : Nat} {cal : Nat → List Value → mMem → Option mRs} (hcal : mCalOk l D cT d cal) (hmon : ∀ cm as mm r m1, cal cm as mm = some (r, m1) → mm.2.2.2.2.1 ≤ m1.2.2.2.2.1 ∧ mm.2.2.2.2.2 ≤ m1.2.2.2.2.2) {as : List Value} {mm mf : mMem} {n mi : Nat} {L' : mLo} {g : mG} (hok : mOk mm) (hokS : mOkS mm as) (hg : mGm[mi]? = some g) (h0 : mi ≠ 0) (hcls : g.1.cls = "PlaceNets")
    (d0 : decode g.2.1 22 = .ok (.new 82, 3)) (d3 : decode g.2.1 25 = .ok (.dup, 1)) (d4 : decode g.2.1 26 = .ok (.invokespecial 84, 3)) (d7 : decode g.2.1 29 = .ok (.athrow, 1)) (hlen : (mEa as).length ≤ g.2.2.1) (hd6 : 6 ≤ d)
    (hrun : mRunT cal d mi (mBase as) g 22 n (0, mEn as g.2.2.1, [], mm) = some (22, L', [], mf)) (φ : Nat → Nat) (sz : Nat) (Qc : Array Value → State → Outcome → State → Prop) :
    vx_Met l g.1 (mWd g) (mRm d (mf.2.2.2.2.1 + 1 - mm.2.2.2.2.1) (mf.2.2.2.2.2 + 6 - mm.2.2.2.2.2)) (mPcX D cT φ mm sz as) Qc (mXQ D cT φ mm sz mf) (mf.2.2.2.2.1 + 1 - mm.2.2.2.2.1) (mf.2.2.2.2.2 + 6 - mm.2.2.2.2.2) (mA φ mm sz) := by
  obtain ⟨G1, G2, G3, G4, G5, G6, G7⟩ := t_G hg h0
  have hmn := mRunT_mono hmon n _ _ _ _ hrun
  refine vx_ofW (cc := g.2.1) (maxL := g.2.2.1) (ret := g.2.2.2.1) G3 rfl ?_
  intro p e s m args below meth c s₁ B hml hnoex hv
  obtain ⟨rfl, ⟨hsz, hK, hnw, dom, hn, hd, hP, hD⟩, hU, hN, hXw⟩ := hv
  have hts := atoms_spec (ws := mWd g) B.pre
  have hown : s.vm.findClass g.1.cls = some m.cls := findClass_of_methodNamed B.named
  subst hsz
  have hA : ∀ q : Nat, s.heap.size ≤ q → mA φ mm s.heap.size q := fun q h => Or.inr h
  have C : mCx p s m (as.map (mCv φ)).toArray meth c (headSpec (mWd g) (mRm d (mf.2.2.2.2.1 + 1 - mm.2.2.2.2.1) (mf.2.2.2.2.2 + 6 - mm.2.2.2.2.2))).room D cT (mA φ mm s.heap.size) g d := by
    refine ⟨B.exec, B.bytes, hml, B.returns, B.notSynchronized, by rw [G4]; exact hown, fun w hw => hts w (List.mem_cons_of_mem _ hw), hnw, hK, hA, G5, fun hi => ?_, Nat.le_refl _, Nat.le_refl _⟩
    have hne : g.2.2.2.2.2.2.1 ≠ 99 := fun e => by
      have := (t_Gs hg h0 e).2.2
      rw [hi] at this
      cases this
    obtain ⟨I1, -, ⟨q1, I4, I5⟩, I6, -⟩ := t_Gi hg h0 hne
    refine ⟨?_, q1, I4, by rw [G4]; exact I5⟩
    rw [← (I6 hi).1]
    exact (name_of_methodNamed B.named B.method).1
  have hR : mRl D cT (mA φ mm s.heap.size) s.heap mm φ φ mm s.heap [] := by
    refine ⟨hok, mExt.rf, dom, hn, hd, hP, ⟨hD.1, fun k q hk => ?_⟩, va_S.rf⟩
    unfold mWs at hk
    rw [List.getElem?_map] at hk
    cases hj : dom[k]? with
    | none => rw [hj] at hk; cases hk
    | some j =>
      rw [hj] at hk
      cases hk
      obtain ⟨a1, a2⟩ := (hd j).mp (List.mem_of_getElem? hj)
      exact Or.inl ⟨j, a1, a2, rfl⟩
  rw [lg_entry_eq]
  have hw := mRunTS (l := l) (e := e) (below := below) (Q := vx_MQ below Qc (mXQ D cT φ mm s.heap.size mf) (as.map (mCv φ)).toArray s (mf.2.2.2.2.1 + 1 - mm.2.2.2.2.1) (mf.2.2.2.2.2 + 6 - mm.2.2.2.2.2) (mA φ mm s.heap.size)) (c0 := mm.2.2.2.2.1) (s0 := mm.2.2.2.2.2) (m0 := mm) (φ0 := φ) hcal hmon C (fun e => absurd e h0) (pc' := 22) (L' := L') (S' := []) (mf := mf) (by show _ ≤ mf.2.2.2.2.1 + 1 - mm.2.2.2.2.1; omega) (by show _ ≤ mf.2.2.2.2.2 + 6 - mm.2.2.2.2.2; omega) ?_ n 0 (mEn as g.2.2.1) [] mm φ s.heap [] _ hrun hR (mFr_entry hlen hokS) (Nat.le_refl _) (Nat.le_refl _)
  · rw [Nat.sub_self, Nat.sub_self] at hw
    exact hw
  · intro φ2 H locs ls hR2 hF2
    obtain ⟨hx, hb, -, hr, hlk, -⟩ := C
    obtain ⟨hok2, hex2, dom2, hn2, hd2, hP2, hD2, hS2⟩ := hR2
    have hat : ∀ w ∈ vx_at0 "PlaceNets" 84 xNS xNm, w.before (as.map (mCv φ)).toArray s = true := by
      refine vx_hat (fun w hw => ?_) x_bad (fun w hw => ?_)
      · exact hts w (List.mem_cons_of_mem _ (mTb_in (x_good w hw) (List.mem_filter.mp hw).2))
      · have h1 := hXw w hw
        have h2 := (List.mem_filter.mp hw).2
        split at h2
        · exact va_Nw.use rfl h1
        · exact va_Nw.use rfl h1
        · cases h2
    refine vx_throw0 (own := "PlaceNets") (cls := xNS) (names := xNm) (ik := 82) (ic := 84) hx hb hl (by rw [← hcls]; exact hown) (by decide) (by decide) (hts _ (List.mem_cons_of_mem _ (mTb_in x_cl rfl))) (hts _ (List.mem_cons_of_mem _ (mTb_in x_in rfl))) hat x_ot hU hN hS2 (hF2.2.1.1.trans hml.symm) d0 d3 d4 d7 (fun x hx => (hnoex x hx).elim) ?_ ?_ ?_ ?_ hlk (fun t hvm hsz hkeep => ?_) hS2.2.2 (by omega) (by omega)
    · show 2 + 3 < d; omega
    · show 0 + (13 * (2 + 1) + 42) ≤ 64 * d; omega
    · show mf.2.2.2.2.1 - mm.2.2.2.2.1 + 1 ≤ mf.2.2.2.2.1 + 1 - mm.2.2.2.2.1; omega
    · show mf.2.2.2.2.2 - mm.2.2.2.2.2 + 6 ≤ mf.2.2.2.2.2 + 6 - mm.2.2.2.2.2; omega
    · exact ⟨rfl, ⟨φ2, hok2, hex2, dom2, hn2, hd2, hP2.kept (fun k q hk => hkeep q.1 (hP2 k q hk).lt), hD2⟩, Nat.le_trans hS2.1 hsz, fun q h1 h2 => by rw [hkeep q (Nat.lt_of_lt_of_le h1 hS2.1)]; exact hS2.2.1 q h1 h2⟩
