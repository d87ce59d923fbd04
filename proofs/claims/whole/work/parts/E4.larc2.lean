/-! PlaceNetsLaw.arc: its contracts. -/
/-- one cell more, that has no name -/
def mUp (m : mMem) : mMem := (m.1, m.2.1, m.2.2.1, m.2.2.2.1, m.2.2.2.2.1 + 1, m.2.2.2.2.2 + 6)
section MTH
variable {p : Program} {l : Launch} {e : Env} {R : Room} {s : State} {m : MethodId} {args : Array Value} {below : List Frame} {meth : Method} {c : Code} {H : Heap} {locs : List Loc} {Q : State → Prop} {cells slots mc ms : Nat}
variable {D : va_G} {cT : FieldType → ClassId} {A : Nat → Prop} {m0 mm mf : mMem} {φ0 φ : Nat → Nat} {ls : Array Slot} {pc : Nat} {rest st0 : List Value} {as : List Value}
theorem mRl.sub (hR : mRl D cT A s.heap m0 φ0 φ mm H locs) (hA : ∀ q, s.heap.size ≤ q → A q) : ∀ q, mA φ mm H.size q → A q := by
  obtain ⟨-, hex, dom, hn, hd, hP, hD, hSS⟩ := hR
  intro q hq
  rcases hq with ⟨k, k1, k2, rfl⟩ | hq
  · obtain ⟨j, hj⟩ := List.getElem?_of_mem ((hd k).mpr ⟨k1, k2⟩)
    exact hD.2 j _ (mWs_at hj)
  · exact hA q (Nat.le_trans hSS.1 hq)
/-- behind a call that has thrown -/
theorem mThrown (hr : vx_Run p l e R s m args below meth c H locs cells slots mc ms (F0 m pc ls st0) rest (fun _ _ _ => False) (mXQ D cT φ mm H.size mf) (mA φ mm H.size)) (hR : mRl D cT A s.heap m0 φ0 φ mm H locs) (hA : ∀ q, s.heap.size ≤ q → A q)
    (kk : ∀ (φ1 : Nat → Nat) (H1 : Heap) (locs1 : List Loc) (q : Addr) (ce : Cell), mRl D cT A s.heap m0 φ0 φ1 mf H1 locs1 → mExt mm mf φ φ1 → H1[q]? = some ce → ce.vm = .none → s.vm.findClass xNS = some ce.cls → vx_W p l e R s m args below meth c H1 locs1 (cells + mc) (slots + ms) Q (F0 m pc ls rest) q) : W p l e R s m args below meth c H locs cells slots Q (F0 m pc ls st0) := by
  intro T hT X
  have hAA := hR.sub hA
  rcases hr T hT X with ⟨_, _, _, _, _, _, _, _, _, _, h, _⟩ | ⟨q, st₀, t, T', L, E, ce, h0, X', hL, e1, e2, ⟨hE, ⟨φ1, hok, hext, dom1, n1, d1, P1, D1⟩, hz, hk⟩, hce, hcv, hcl, st⟩
  · exact h.elim
  · subst hE
    obtain ⟨-, hex, dom, hn, hd, hP, hD, hSS⟩ := hR
    rw [h0] at hz hk
    have hR1 : mRl D cT A s.heap m0 φ0 φ1 mf T'.heap (locs ++ L) := by
      refine ⟨hok, hex.trans hext, dom1, n1, d1, by rw [e1]; exact P1, D1.weaken (fun _ q _ h => hAA q.1 h), Nat.le_trans hSS.1 (by rw [e1]; exact hz), fun q h1 h2 => ?_, fun q hq => ?_⟩
      · rw [e1, hk q (Nat.lt_of_lt_of_le h1 hSS.1) (fun z => h2 (hAA q z))]
        exact hSS.2.1 q h1 h2
      · rcases List.mem_append.mp hq with h | h
        · exact hSS.2.2 q h
        · exact hAA _ (hL q h)
    obtain ⟨t2, a1, b1⟩ := kk φ1 T'.heap (locs ++ L) q ce hR1 hext (by rw [e1]; exact hce) hcv hcl T' rfl X'
    exact ⟨t2, st.trans a1, b1⟩
theorem mXw_warm {U : State} (hW : s.WarmedH U.vm) (h : ∀ w ∈ mXw, va_Nw w s) : ∀ w ∈ mXw, va_Nw w U := by
  intro w hw
  have h1 := h w hw
  have h2 := (List.mem_filter.mp hw).2
  split at h2
  · exact va_Nw.warmD hW h1
  · exact va_Nw.warmC hW h1
  · cases h2
theorem mXs.pre (h : mXs A s) (hR : mRl D cT A s.heap m0 φ0 φ mm H locs) (hA : ∀ q, s.heap.size ≤ q → A q) : ∀ U : State, U.heap = H → s.WarmedH U.vm → mXs (mA φ mm H.size) U := by
  intro U hU hW
  obtain ⟨h1, h2, h3⟩ := h
  have hAA := hR.sub hA
  have hSS := hR.2.2.choose_spec.2.2.2.2
  have hq : ∀ a : Nat, a < s.heap.size → ¬ A a → U.heap[a]? = s.heap[a]? := fun a h1 h2 => by rw [hU]; exact hSS.2.1 a h1 h2
  exact ⟨((vx_Zq.moved hW.alike h1).kept hq).narrow hAA, ((vx_Zq.moved hW.alike h2).kept hq).narrow hAA, mXw_warm hW h3⟩
theorem mPcX_blind {sz : Nat} : FrameBlind (mPcX D cT φ mm sz as) := by
  intro a U g mk q
  obtain ⟨q0, q1, q2, q3, q4⟩ := q
  obtain ⟨r0, r1⟩ := mPB_blind (as := as) a U g mk ⟨q0, q1⟩
  refine ⟨r0, r1, vx_Zq.moved (u := U) (U := U.calling g mk a) (Vm.Alike.refl U.vm) q2, vx_Zq.moved (u := U) (U := U.calling g mk a) (Vm.Alike.refl U.vm) q3, fun w hw => ?_⟩
  have h2 := (List.mem_filter.mp hw).2
  split at h2
  · exact va_Nw.same (u := U) rfl rfl (q4 _ hw)
  · exact va_Nw.same (u := U) rfl rfl (q4 _ hw)
  · cases h2
theorem mPreX (hX : mXs A s) (hR : mRl D cT A s.heap m0 φ0 φ mm H locs) (hA : ∀ q, s.heap.size ≤ q → A q) (hK : va_K D mCl (mTys cT) s) (hnw : ∀ w ∈ mNst, va_Nw w s) (as : List Value) : ∀ U : State, U.heap = H → s.WarmedH U.vm → mPcX D cT φ mm H.size as (as.map (mCv φ)).toArray U := by
  intro U hU hW
  obtain ⟨r0, r1⟩ := mPre hR hK hnw as U hU hW
  exact ⟨r0, r1, hX.pre hR hA U hU hW⟩
end MTH
theorem mRunT_go {cal : Nat → List Value → mMem → Option mRs} {d mi b stop n pc len : Nat} {g : mG} {L : mLo} {S : List Value} {m : mMem} {i : Instr} {st : mSt} (hs : pc ≠ stop) (hd : decode g.2.1 pc = .ok (i, len)) (hl : len = mLen i ∨ mSw i = true) (h : mStep cal d mi b g i pc L S m = some (.inl st)) : mRunT cal d mi b g stop (n + 1) (pc, L, S, m) = mRunT cal d mi b g stop n st := by
  conv => lhs; unfold mRunT
  rw [if_neg hs, hd]
  dsimp only
  rw [if_pos hl, h]
theorem laRun (cal : Nat → List Value → mMem → Option mRs) (d b x o3 : Nat) (p0 p1 p2 : Int32) (mm : mMem) : mRunT cal d 999 b gLa 7 7 (0, mEn [.ref x, .int p0, .int p1, .int p2, .ref o3] 6, [], mm) = some (7, mEn [.ref x, .int p0, .int p1, .int p2, .ref o3] 6, [.int p2, .int p1, .int p0, .ref x, .int 0, .ref o3], mm) := by
  rw [mRunT_go (by decide) (dAt DLa 0 rfl) (Or.inl rfl) rfl, mRunT_go (by decide) (dAt DLa 1 rfl) (Or.inl rfl) rfl, mRunT_go (by decide) (dAt DLa 2 rfl) (Or.inl rfl) rfl, mRunT_go (by decide) (dAt DLa 3 rfl) (Or.inl rfl) rfl, mRunT_go (by decide) (dAt DLa 4 rfl) (Or.inl rfl) rfl, mRunT_go (by decide) (dAt DLa 5 rfl) (Or.inl rfl) rfl]
  rfl
set_option maxHeartbeats 1000000 in
/-- where it is caught -/
theorem laT (l : Launch) (hl : l.stackTraces = false) {D : va_G} {cT : FieldType → ClassId} {d N x o3 n : Nat} {p0 p1 p2 : Int32} {mm : mMem} {L' : mLo} (hok : mOk mm) (hokS : mOkS mm [.ref x, .int p0, .int p1, .int p2, .ref o3]) (hx0 : mm.1 x = some (.inr 0) ∧ x ≠ 0) (hd8 : 8 ≤ d)
    (hrun : mRunT (mCall N (d - 1)) (d - 1) 146 x g146 22 n (0, mEn [.ref x, .int p0, .int p1, .int p2] 4, [], mm) = some (22, L', [], mm)) (φ : Nat → Nat) (sz : Nat) :
    Met l gLa.1 wLa (mRm d ((mUp mm).2.2.2.2.1 - mm.2.2.2.2.1) ((mUp mm).2.2.2.2.2 - mm.2.2.2.2.2)) (mPcX D cT φ mm sz [.ref x, .int p0, .int p1, .int p2, .ref o3]) (mQc D cT φ mm sz (some (.int 1)) (mUp mm)) ((mUp mm).2.2.2.2.1 - mm.2.2.2.2.1) ((mUp mm).2.2.2.2.2 - mm.2.2.2.2.2) (mA φ mm sz) := by
  refine va_MetW (cc := method_3_code) (maxL := 6) (ret := some .int) (hh := hLa) (by decide) rfl ?_
  intro p e s m args below meth c s₁ B hml hv
  obtain ⟨rfl, ⟨hsz, hK, hnw, dom, hn, hd, hP, hD⟩, hXs⟩ := hv
  have hts := atoms_spec (ws := wLa) B.pre
  have hown : s.vm.findClass "PlaceNetsLaw" = some m.cls := findClass_of_methodNamed B.named
  have htb : ∀ w ∈ mTb, w.before (([.ref x, .int p0, .int p1, .int p2, .ref o3] : List Value).map (mCv φ)).toArray s = true := fun w hw => hts w (List.mem_cons_of_mem _ hw)
  subst hsz
  have hA : ∀ q : Nat, s.heap.size ≤ q → mA φ mm s.heap.size q := fun q h => Or.inr h
  have C : mCx p s m (([.ref x, .int p0, .int p1, .int p2, .ref o3] : List Value).map (mCv φ)).toArray meth c (headSpec wLa (mRm d ((mUp mm).2.2.2.2.1 - mm.2.2.2.2.1) ((mUp mm).2.2.2.2.2 - mm.2.2.2.2.2))).room D cT (mA φ mm s.heap.size) gLa d := ⟨B.exec, B.bytes, hml, B.returns, B.notSynchronized, hown, htb, hnw, hK, hA, by decide, (fun h => by cases h), Nat.le_refl _, Nat.le_refl _⟩
  have hR : mRl D cT (mA φ mm s.heap.size) s.heap mm φ φ mm s.heap [] := by
    refine ⟨hok, mExt.rf, dom, hn, hd, hP, ⟨hD.1, fun k q hk => ?_⟩, va_S.rf⟩
    unfold mWs at hk
    rw [List.getElem?_map] at hk
    cases hj : dom[k]? with
    | none => rw [hj] at hk; cases hk
    | some j =>
      rw [hj] at hk
      cases hk
      obtain ⟨a1, a2⟩ := (hd j).mp (List.mem_of_getElem? hj)
      exact Or.inl ⟨j, a1, a2, rfl⟩
  rw [lg_entry_eq]
  have hw := mRunTS (l := l) (e := e) (below := below) (Q := MQ below (mQc D cT φ mm s.heap.size (some (.int 1)) (mUp mm)) (([.ref x, .int p0, .int p1, .int p2, .ref o3] : List Value).map (mCv φ)).toArray s ((mUp mm).2.2.2.2.1 - mm.2.2.2.2.1) ((mUp mm).2.2.2.2.2 - mm.2.2.2.2.2) (mA φ mm s.heap.size)) (c0 := mm.2.2.2.2.1) (s0 := mm.2.2.2.2.2) (m0 := mm) (φ0 := φ) (mCallOk l D cT N d) (mCall_mono N d) C (fun e => absurd e (by decide)) (pc' := 7) (L' := mEn [.ref x, .int p0, .int p1, .int p2, .ref o3] 6) (S' := [.int p2, .int p1, .int p0, .ref x, .int 0, .ref o3]) (mf := mm) (by rw [Nat.sub_self]; exact Nat.zero_le _) (by rw [Nat.sub_self]; exact Nat.zero_le _) ?_ 7 0 (mEn [.ref x, .int p0, .int p1, .int p2, .ref o3] 6) [] mm φ s.heap [] _ (laRun _ d 0 x o3 p0 p1 p2 mm) hR (mFr_entry (Nat.le_of_ble_eq_true rfl) hokS) (Nat.le_refl _) (Nat.le_refl _)
  · rw [Nat.sub_self, Nat.sub_self] at hw
    exact hw
  · intro φ2 H locs ls hR2 hF2
    obtain ⟨hx, hb, -, hr, hlk, -⟩ := id C
    have hok2 := hR2.1
    have hS2 := hF2.2.2.2
    have hokS4 : mOkS mm [.ref x, .int p0, .int p1, .int p2] := fun v hv => hokS v (by
      simp only [List.mem_cons, List.not_mem_nil, or_false] at hv ⊢
      rcases hv with h | h | h | h
      · exact Or.inl h
      · exact Or.inr (Or.inl h)
      · exact Or.inr (Or.inr (Or.inl h))
      · exact Or.inr (Or.inr (Or.inr (Or.inl h))))
    have hM := arcThrow l hl (mCallOk l D cT N (d - 1)) (mCall_mono N (d - 1)) (as := [.ref x, .int p0, .int p1, .int p2]) (mm := mm) (mf := mm) (n := n) (mi := 146) (g := g146) hok2 hokS4 G146 (by decide) rfl (dAt D146 10 rfl) (dAt D146 11 rfl) (dAt D146 12 rfl) (dAt D146 13 rfl) (Nat.le_of_ble_eq_true rfl) (by omega) hrun φ2 H.size (fun _ _ _ _ => False)
    obtain ⟨y, hy, hy2⟩ := t_M (o := 0) (j := 7) (cm := 146) (p := 1077) (z := 0) (by decide) rfl
    rw [(mBn_reg G146).1] at hy
    obtain rfl := Option.some.inj hy
    have hlnk : Cond.methodLink (mOw 0) 7 g146.1 ∈ lw_tbl := hy2.elim (fun h => h.2) (fun h => absurd rfl h.1)
    obtain ⟨G1, G2, G3, G4, G5, G6, G7⟩ := t_G G146 (by decide)
    obtain ⟨I1, ⟨n3, I2, I3⟩, ⟨q1, I4, I5⟩, I6, I7⟩ := t_Gi G146 (by decide) (by decide)
    obtain rfl : n3 = 3 := Nat.succ.inj I3
    obtain ⟨dom2, q0, hnd2, hd2, hP2, hD2, hSS2, hdq, hat⟩ := hR2.cell hx0.2 (by rw [hx0.1]; exact fun h => by cases h)
    rw [mEc_o hx0.1] at hat
    have hrec := va_recv hK hP2 I4 hat
    rw [I5] at hrec
    have hGood : GoodIn mTb (wsV (mOw 0) 7 g146.1.cls g146.1 (mWd g146)) := mTb_GoodIn (fun w hw => by
      unfold wsV at hw
      rcases List.mem_append.mp hw with h | h
      · simp only [List.mem_cons, List.not_mem_nil, or_false] at h
        rcases h with rfl | rfl | rfl | rfl
        · exact mTb_in hlnk rfl
        · exact mTb_in I1 rfl
        · exact mTb_in (I7 rfl) rfl
        · exact mTb_in G2 rfl
      · exact mWd_in G146 (by decide) w h)
    refine mThrown (mf := mm) (rest := [.int 0, .ref (φ2 o3)]) (vx_runV (Ts := mTb) (C := g146.1.cls) (n := 3) (bytes := g146.2.1) (maxL := 4) (ret := some .int) (As := [.int p0, .int p1, .int p2]) (b := φ2 x) (rest := [.int 0, .ref (φ2 o3)]) ⟨hx, hb, hml, hown, htb⟩ hM (cwV 3 htb hGood rfl rfl rfl ⟨rfl, G7.1, G7.2, I2⟩ (mRoomOk (by omega) (Nat.le_refl _) (Nat.le_refl _) (by decide))) ⟨mPcX_blind, hrec, mPreX hXs hR2 hA hK hnw [.ref x, .int p0, .int p1, .int p2]⟩ rfl rfl hF2.2.1.1 rfl (lv_room (Nat.le_of_ble_eq_true rfl)) (dAt DLa 6 rfl) ?_) hR2 hA ?_
    · constructor
      · show mm.2.2.2.2.1 - mm.2.2.2.2.1 + (mm.2.2.2.2.1 + 1 - mm.2.2.2.2.1) ≤ mm.2.2.2.2.1 + 1 - mm.2.2.2.2.1
        omega
      · show mm.2.2.2.2.2 - mm.2.2.2.2.2 + (mm.2.2.2.2.2 + 6 - mm.2.2.2.2.2) ≤ mm.2.2.2.2.2 + 6 - mm.2.2.2.2.2
        omega
    · intro φ1 H1 locs1 q ce hR3 hext hq1 hq2 hq3
      have e1 : mm.2.2.2.2.1 - mm.2.2.2.2.1 + (mm.2.2.2.2.1 + 1 - mm.2.2.2.2.1) = (mUp mm).2.2.2.2.1 - mm.2.2.2.2.1 := by
        show _ = mm.2.2.2.2.1 + 1 - mm.2.2.2.2.1
        omega
      have e2 : mm.2.2.2.2.2 - mm.2.2.2.2.2 + (mm.2.2.2.2.2 + 6 - mm.2.2.2.2.2) = (mUp mm).2.2.2.2.2 - mm.2.2.2.2.2 := by
        show _ = mm.2.2.2.2.2 + 6 - mm.2.2.2.2.2
        omega
      rw [e1, e2]
      refine vx_catch (own := "PlaceNetsLaw") (name := xNS) (E := xNS) hown [] ⟨0, 12, 15, 13⟩ [] (vx_table (x := gLa.1) B (hts _ List.mem_cons_self)) (fun z hz => by cases hz) rfl (by decide) (htb _ (mTb_in la_cl.mem rfl)) (va_Nw.use rfl (hXs.2.2 _ la_cx)) hq1 hq2 hq3 ?_
      refine lv_astore (nL := 6) hx hb (dAt DLa 10 rfl) hF2.2.1 (by decide) rfl (fun ls' _ => ?_)
      refine lv_iconst hx hb (dAt DLa 11 rfl) rfl ?_
      obtain ⟨hok3, hex3, dom3, hn3, hd3, hP3, hD3, hS3⟩ := hR3
      refine W.zret (ty := .int) hx hb hr rfl (fun t ht hW => ?_) hS3.2.2 (dAt DLa 12 rfl) hlk
      refine ⟨⟨φ1, hok3, hex3, fun v hv => ?_, rfl, dom3, hn3, hd3, ?_, hD3⟩, hS3.F ht⟩
      · cases hv
        exact mOkV_int _ _
      · rw [ht]; exact hP3
set_option maxHeartbeats 1000000 in
/-- where it returns -/
theorem laN (l : Launch) {D : va_G} {cT : FieldType → ClassId} {d N : Nat} {as : List Value} {mm m1 : mMem} {r : Option Value} (hok : mOk mm) (hokS : mOkS mm as) (hlen : (mEa as).length ≤ 6) (h : mRun (mCall N d) d 999 (mBase as) gLa N (0, mEn as 6, [], mm) = some (r, m1)) (φ : Nat → Nat) (sz : Nat) :
    Met l gLa.1 wLa (mRm d (m1.2.2.2.2.1 - mm.2.2.2.2.1) (m1.2.2.2.2.2 - mm.2.2.2.2.2)) (mPcX D cT φ mm sz as) (mQc D cT φ mm sz r m1) (m1.2.2.2.2.1 - mm.2.2.2.2.1) (m1.2.2.2.2.2 - mm.2.2.2.2.2) (mA φ mm sz) := by
  refine va_MetW (cc := method_3_code) (maxL := 6) (ret := some .int) (hh := hLa) (by decide) rfl ?_
  intro p e s m args below meth c s₁ B hml hv
  obtain ⟨rfl, ⟨hsz, hK, hnw, dom, hn, hd, hP, hD⟩, hXs⟩ := hv
  have hts := atoms_spec (ws := wLa) B.pre
  have hown : s.vm.findClass "PlaceNetsLaw" = some m.cls := findClass_of_methodNamed B.named
  have htb : ∀ w ∈ mTb, w.before (as.map (mCv φ)).toArray s = true := fun w hw => hts w (List.mem_cons_of_mem _ hw)
  subst hsz
  have hA : ∀ q : Nat, s.heap.size ≤ q → mA φ mm s.heap.size q := fun q h => Or.inr h
  have C : mCx p s m (as.map (mCv φ)).toArray meth c (headSpec wLa (mRm d (m1.2.2.2.2.1 - mm.2.2.2.2.1) (m1.2.2.2.2.2 - mm.2.2.2.2.2))).room D cT (mA φ mm s.heap.size) gLa d := ⟨B.exec, B.bytes, hml, B.returns, B.notSynchronized, hown, htb, hnw, hK, hA, by decide, (fun h => by cases h), Nat.le_refl _, Nat.le_refl _⟩
  have hR : mRl D cT (mA φ mm s.heap.size) s.heap mm φ φ mm s.heap [] := by
    refine ⟨hok, mExt.rf, dom, hn, hd, hP, ⟨hD.1, fun k q hk => ?_⟩, va_S.rf⟩
    unfold mWs at hk
    rw [List.getElem?_map] at hk
    cases hj : dom[k]? with
    | none => rw [hj] at hk; cases hk
    | some j =>
      rw [hj] at hk
      cases hk
      obtain ⟨a1, a2⟩ := (hd j).mp (List.mem_of_getElem? hj)
      exact Or.inl ⟨j, a1, a2, rfl⟩
  rw [lg_entry_eq]
  have hw := mRunS (l := l) (e := e) (below := below) (Q := MQ below (mQc D cT φ mm s.heap.size r m1) (as.map (mCv φ)).toArray s (m1.2.2.2.2.1 - mm.2.2.2.2.1) (m1.2.2.2.2.2 - mm.2.2.2.2.2) (mA φ mm s.heap.size)) (c0 := mm.2.2.2.2.1) (s0 := mm.2.2.2.2.2) (m0 := mm) (φ0 := φ) (mCallOk l D cT N d) (mCall_mono N d) C (fun e => absurd e (by decide)) r m1 (Nat.le_refl _) (Nat.le_refl _) ?_ N 0 (mEn as 6) [] mm φ s.heap [] _ h hR (mFr_entry hlen hokS) (Nat.le_refl _) (Nat.le_refl _)
  · rw [Nat.sub_self, Nat.sub_self] at hw
    exact hw
  · intro i pc L S m2 φ2 H locs ls hdg hst em hR2 hF2
    subst em
    obtain ⟨hx, hb, -, hr, hlk, -⟩ := C
    obtain ⟨hok2, hex2, dom2, hn2, hd2, hP2, hD2, hS2⟩ := hR2
    rcases mStep_inr hst with ⟨rfl, v, ty, rfl, e1, e2, e3⟩ | ⟨rfl, v, rfl, e1, e3⟩ | ⟨rfl, v, C9, rfl, e1, e3⟩ | ⟨rfl, rfl, e1, e3⟩
    · subst e3
      exact W.zret hx hb (hr.trans e1) e2 (fun t ht hW => ⟨⟨φ2, hok2, hex2, fun w hw => by cases hw; exact mOkV_int _ _, rfl, dom2, hn2, hd2, by rw [ht]; exact hP2, hD2⟩, hS2.F ht⟩) hS2.2.2 hdg hlk
    · cases e1
    · cases e1
    · cases e1
