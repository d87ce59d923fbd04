/-! The law: what a walk of it needs, step by step. -/
abbrev laA (x o3 : Nat) (p0 p1 p2 : Int32) : List Value := [.ref x, .int p0, .int p1, .int p2, .ref o3]
def lwC (d : Nat) (Lw : mSt → Prop) : Prop :=
  (∀ (N : Nat) (i : Instr) (len pc : Nat) (L : mLo) (S : List Value) (m : mMem) (st : mSt), decode code pc = .ok (i, len) → (len = mLen i ∨ mSw i = true) → mStep (mCall N d) d 0 0 mGl i pc L S m = some (.inl st) → Lw st → Lw (pc, L, S, m)) ∧
  (∀ (pc : Nat) (L : mLo) (m : mMem), decode code pc = .ok (.ireturn, 1) → m.2.2.2.2.1 ≤ 601024 → m.2.2.2.2.2 ≤ 7293034 → Lw (pc, L, [.int 1], m)) ∧
  (∀ (N : Nat) (L : mLo) (m m' : mMem) (x o3 : Nat) (p0 p1 p2 : Int32), mRun (mCall N (d - 1)) (d - 1) 999 x gLa N (0, mEn (laA x o3 p0 p1 p2) 6, [], m) = some (some (.int 0), m') → Lw (258, L, [.int 0], m') → Lw (255, L, [.ref o3, .int p2, .int p1, .int p0, .ref x], m)) ∧
  (∀ (N n : Nat) (L L' : mLo) (m : mMem) (x o3 : Nat) (p0 p1 p2 : Int32), (m.1 x = some (.inr 0) ∧ x ≠ 0) → mRunT (mCall N (d - 1 - 1)) (d - 1 - 1) 146 x g146 22 n (0, mEn [.ref x, .int p0, .int p1, .int p2] 4, [], m) = some (22, L', [], m) → Lw (258, L, [.int 1], mUp m) → Lw (255, L, [.ref o3, .int p2, .int p1, .int p0, .ref x], m))
def lwP (p : Program) (l : Launch) (e : Env) (s : State) (m : MethodId) (b : Nat) (below : List Frame) (meth : Method) (c : Code) (D : va_G) (cT : FieldType → ClassId) (m0 : mMem) : mSt → Prop := fun st =>
  st.2.2.2.2.2.2.2.1 ≤ 601024 ∧ st.2.2.2.2.2.2.2.2 ≤ 7293034 ∧ ∀ (φ : Nat → Nat) (H : Heap) (locs : List Loc) (ls : Array Slot), mRl D cT (fun q => s.heap.size ≤ q) s.heap m0 (fun _ => b) φ st.2.2.2 H locs → mFr φ st.2.2.2 st.2.1 st.2.2.1 ls 7 → W p l e room_1 s m #[Value.ref b] below meth c H locs (st.2.2.2.2.2.2.2.1 - 0) (st.2.2.2.2.2.2.2.2 - 0) (lw_Z below #[Value.ref b] s) (F0 m st.1 ls (st.2.2.1.map (mCv φ)))
theorem la_rev {mm : mMem} {x o3 : Nat} {p0 p1 p2 : Int32} (h : mOkS mm [.ref o3, .int p2, .int p1, .int p0, .ref x]) : mOkS mm (laA x o3 p0 p1 p2) := fun v hv => h v (by
  have : v ∈ [Value.ref o3, .int p2, .int p1, .int p0, .ref x].reverse := hv
  exact List.mem_reverse.mp this)
set_option maxRecDepth 100000 in
theorem la_d255 : decode code 255 = .ok (.invokestatic 34, 3) := by decide +kernel
section LWP
variable {p : Program} {l : Launch} {e : Env} {s : State} {m : MethodId} {b d : Nat} {below : List Frame} {meth : Method} {c : Code} {D : va_G} {cT : FieldType → ClassId} {m0 : mMem}
set_option maxHeartbeats 1000000 in
theorem lwP_arc {x o3 : Nat} {p0 p1 p2 : Int32} {L : mLo} {mm m1 : mMem} {v : Int32} (hd : 10 ≤ d) (C : mCx p s m #[Value.ref b] meth c room_1 D cT (fun q => s.heap.size ≤ q) mGl d) (hX : mXs (fun q => s.heap.size ≤ q) s) (hc1 : mm.2.2.2.2.1 ≤ m1.2.2.2.2.1) (hs1 : mm.2.2.2.2.2 ≤ m1.2.2.2.2.2)
    (hM : mOk mm → mOkS mm (laA x o3 p0 p1 p2) → ∀ (φ : Nat → Nat) (sz : Nat), Met l gLa.1 wLa (mRm (d - 1) (m1.2.2.2.2.1 - mm.2.2.2.2.1) (m1.2.2.2.2.2 - mm.2.2.2.2.2)) (mPcX D cT φ mm sz (laA x o3 p0 p1 p2)) (mQc D cT φ mm sz (some (.int v)) m1) (m1.2.2.2.2.1 - mm.2.2.2.2.1) (m1.2.2.2.2.2 - mm.2.2.2.2.2) (mA φ mm sz))
    (k : lwP p l e s m b below meth c D cT m0 (258, L, [.int v], m1)) : lwP p l e s m b below meth c D cT m0 (255, L, [.ref o3, .int p2, .int p1, .int p0, .ref x], mm) := by
  obtain ⟨k1, k2, k3⟩ := k
  have k1' : m1.2.2.2.2.1 ≤ 601024 := k1
  have k2' : m1.2.2.2.2.2 ≤ 7293034 := k2
  refine ⟨Nat.le_trans hc1 k1', Nat.le_trans hs1 k2', ?_⟩
  intro φ H locs ls hR hF
  have hR' : mRl D cT (fun q => s.heap.size ≤ q) s.heap m0 (fun _ => b) φ mm H locs := hR
  have hF' : mFr φ mm L [.ref o3, .int p2, .int p1, .int p0, .ref x] ls 7 := hF
  obtain ⟨hx, hb, hml, hr, hlk, hown, hts, hnw, hK, hA, ho, hini, hd1, hd2⟩ := C
  have hokA := la_rev hF'.2.2.2
  have hokR : mOkS mm [] := fun v hv => by cases hv
  refine mAfter (g := mGl) (L := L) (rest := []) (r := some (.int v)) (m1 := m1) (pc := 255) (vx_runSW (Ts := mTb) (n := 5) (bytes := method_3_code) (maxL := 6) (ret := some .int) (hh := hLa) (As := (laA x o3 p0 p1 p2).map (mCv φ)) (rest := ([] : List Value).map (mCv φ)) ⟨hx, hb, hml, hown, hts⟩ (hM hR'.1 hokA φ H.size) (vx_cwSW 5 hts wLa_good rfl rfl rfl ⟨by decide, by decide, by decide +kernel⟩ (mRoomOk (by omega) hd1 hd2 (by decide))) ⟨mPcX_blind, mPreX hX hR' hA hK hnw (laA x o3 p0 p1 p2)⟩ rfl rfl hF'.2.1.1 rfl (lv_room (Nat.le_of_ble_eq_true rfl)) la_d255 ?_) hR' hA (hF'.stk hokR) (Nat.zero_le _) (Nat.zero_le _) hc1 hs1 (fun φ' H' locs' ls' hR2 hF2 => k3 φ' H' locs' ls' hR2 hF2)
  constructor
  · show mm.2.2.2.2.1 - 0 + (m1.2.2.2.2.1 - mm.2.2.2.2.1) ≤ 601024
    omega
  · show mm.2.2.2.2.2 - 0 + (m1.2.2.2.2.2 - mm.2.2.2.2.2) ≤ 7293034
    omega
set_option maxHeartbeats 1000000 in
theorem lwP_ok (hl : l.stackTraces = false) (hd : 10 ≤ d) (C : mCx p s m #[Value.ref b] meth c room_1 D cT (fun q => s.heap.size ≤ q) mGl d) (hX : mXs (fun q => s.heap.size ≤ q) s) (hsc : mScr s (fun q => s.heap.size ≤ q) m0 (fun _ => b)) (hr : meth.sig.returnType = ret) : lwC d (lwP p l e s m b below meth c D cT m0) := by
  refine ⟨fun N i len pc L S mm st hdg hlen hst k => ?_, fun pc L mm hdg hc hs => ?_, fun N L mm m1 x o3 p0 p1 p2 hrun k => ?_, fun N n L L' mm x o3 p0 p1 p2 hx0 hrun k => ?_⟩
  · obtain ⟨pc', L', S', mm'⟩ := st
    obtain ⟨k1, k2, k3⟩ := k
    have h1 := mMon_step (mCall_mono N d) _ hst
    dsimp only at h1 k1 k2
    refine ⟨Nat.le_trans h1.1 k1, Nat.le_trans h1.2 k2, fun φ H locs ls hR hF => ?_⟩
    exact so_all i p l e room_1 s m #[Value.ref b] below meth c H locs (lw_Z below #[Value.ref b] s) 0 0 D cT (fun q => s.heap.size ≤ q) mGl d m0 mm (fun _ => b) φ L S ls pc (mCall N d) 0 0 pc' L' S' mm' len (mCallOk l D cT N d) hst C (fun _ => hsc) hdg hlen hR hF (Nat.zero_le _) (Nat.zero_le _) k1 k2 (fun φ' H' locs' ls' hR' hF' => k3 φ' H' locs' ls' hR' hF')
  · refine ⟨hc, hs, fun φ H locs ls hR hF => ?_⟩
    obtain ⟨hok2, hex2, dom2, hn2, hd2, hP2, hD2, hS2⟩ := hR
    obtain ⟨hx, hb, hml, hr0, hlocks, -⟩ := C
    refine va_forget (fun q hq => hS2.2.2 q hq) ?_
    refine W.widen (k := 601024) (n := 7293034) hc hs ?_
    exact lw_ret hx hb hr hlocks hdg
  · have h1 := mRun_mono (mCall_mono N (d - 1)) N _ _ _ _ _ _ hrun
    exact lwP_arc hd C hX h1.1 h1.2 (fun hok hokS φ sz => laN l hok hokS (Nat.le_of_ble_eq_true rfl) hrun φ sz) k
  · exact lwP_arc hd C hX (Nat.le_succ _) (Nat.le_add_right _ _) (fun hok hokS φ sz => laT l hl hok hokS hx0 (by omega) hrun φ sz) k
end LWP
set_option maxRecDepth 100000 in
theorem lx_1 : Cond.laysStatic Bundle.tN "UNASSIGNED_STACK" Bundle.steD ∈ lw_tbl := by decide +kernel
set_option maxRecDepth 100000 in
theorem lx_2 : Cond.laysStatic Bundle.tN "SUPPRESSED_SENTINEL" Bundle.listD ∈ lw_tbl := by decide +kernel
set_option maxRecDepth 100000 in
theorem lx_3 : Cond.initialized Bundle.tN ∈ lw_tbl := by decide +kernel
set_option maxHeartbeats 1000000 in
/-- the law's walk, out of what a walk needs -/
theorem law_of_closed {p : Program} {e : Env} {s : State} {m : MethodId} {below : List Frame} {meth : Method} {c : Code} (l : Launch) (hflags : l.flags = flags0) {b L : Nat} {xs : Nat → Int32} (C0 : lw_At p s m meth c b L xs) (h : ∀ Lw, lwC 1000 Lw → Lw (0, mEn [.ref 0] 7, [], mM0 L xs)) :
    W p l e room_1 s m #[Value.ref b] below meth c s.heap [] 0 0 (lw_Z below #[Value.ref b] s) (entryFrame m ([Value.ref b] : List Value).toArray 7) := by
  obtain ⟨hx, hb, hr, hml, hown, hts, hXX, hbl, hlocks, hgv⟩ := id C0
  obtain ⟨D, hD⟩ := mKnown hts
  obtain ⟨cT, hcT⟩ := mArrs hts
  have hK : va_K D mCl (mTys cT) s := ⟨hD, fun k q h => hcT q (List.mem_of_getElem? h)⟩
  have hnw : ∀ w ∈ mNst, va_Nw w s := by
    intro w hw
    obtain ⟨h1, a1, i1, x1, h2, rfl⟩ := mNst_of hw
    exact va_Nw.of rfl (hts _ h1)
  have C : mCx p s m #[Value.ref b] meth c room_1 D cT (fun q => s.heap.size ≤ q) mGl 1000 := by
    refine ⟨hx, hb, hml, hr, hlocks, hown, fun w hw => hts w (mTb_good hw).1, hnw, hK, fun _ h => h, by decide, (fun h => by cases h), ?_, ?_⟩
    · show 1000 ≤ 2048; omega
    · show 64 * 1000 ≤ 84000; omega
  have hsc : mScr s (fun q => s.heap.size ≤ q) (mM0 L xs) (fun _ => b) := ⟨L, xs, hXX, hbl, Nat.not_le.mpr hbl, rfl, rfl⟩
  have hok : mOk (mM0 L xs) := by
    refine ⟨fun k ci h => ?_, fun k ty n h => ?_⟩
    · unfold mM0 at h
      dsimp only at h
      split at h <;> cases h
    · unfold mM0 at h
      dsimp only at h
      split at h
      · cases h
        exact Or.inl rfl
      · cases h
  have hnd : ∀ k, k ∈ ([] : List Nat) ↔ k ≠ 0 ∧ (mM0 L xs).1 k ≠ none := by
    intro k
    refine ⟨(fun h => by cases h), fun h => ?_⟩
    exact absurd (if_neg h.1) h.2
  have hR : mRl D cT (fun q => s.heap.size ≤ q) s.heap (mM0 L xs) (fun _ => b) (fun _ => b) (mM0 L xs) s.heap [] := ⟨hok, mExt.rf, [], List.nodup_nil, hnd, fun k q h => by simp [mWs] at h, ⟨fun i j p q h => by simp [mWs] at h, fun k q h => by simp [mWs] at h⟩, va_S.rf⟩
  have hokS : mOkS (mM0 L xs) [.ref 0] := by
    intro v hv k hk
    rw [List.mem_singleton.mp hv] at hk
    cases hk
    intro h
    cases h
  have hF := mFr_entry (φ := fun _ => b) (mm := mM0 L xs) (as := [.ref 0]) (n := 7) (by decide) hokS
  have hs := flat_of_before _ hgv
  have hX : mXs (fun q => s.heap.size ≤ q) s := by
    refine ⟨vx_Zqof (hts _ lx_1) (hts _ lx_3) (hs _ (by decide +kernel)) (fun a h => Nat.not_le.mpr h), vx_Zqof (hts _ lx_2) (hts _ lx_3) (hs _ (by decide +kernel)) (fun a h => Nat.not_le.mpr h), fun w hw => ?_⟩
    obtain ⟨h1, h2⟩ := List.mem_filter.mp hw
    split at h2
    · exact va_Nw.of rfl (hts _ h1)
    · exact va_Nw.of rfl (hts _ h1)
    · cases h2
  have hl : l.stackTraces = false := by
    unfold Launch.stackTraces
    rw [hflags]
    decide +kernel
  have hw := (h _ (lwP_ok (e := e) (below := below) (m0 := mM0 L xs) hl (by decide) C hX hsc hr)).2.2 (fun _ => b) s.heap [] _ hR hF
  rw [lg_entry_eq]
  exact hw
