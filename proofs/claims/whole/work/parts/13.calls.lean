/-! Calls. -/
def mA (φ : Nat → Nat) (mm : mMem) (sz : Nat) : Nat → Prop := fun q => (∃ k, k ≠ 0 ∧ mm.1 k ≠ none ∧ q = φ k) ∨ sz ≤ q
def mPB (D : va_G) (cT : FieldType → ClassId) (φ : Nat → Nat) (mm : mMem) (sz : Nat) (U : State) : Prop := U.heap.size = sz ∧ va_K D mCl (mTys cT) U ∧ (∀ w ∈ mNst, va_Nw w U) ∧ ∃ dom : List Nat, dom.Nodup ∧ (∀ k, k ∈ dom ↔ k ≠ 0 ∧ mm.1 k ≠ none) ∧ va_P D mCl (mWs cT φ mm dom) U.heap ∧ va_D (fun _ => True) (mWs cT φ mm dom)
def mPc (D : va_G) (cT : FieldType → ClassId) (φ : Nat → Nat) (mm : mMem) (sz : Nat) (as : List Value) : Array Value → State → Prop := va_Pc (as.map (mCv φ)) (mPB D cT φ mm sz)
def mQB (D : va_G) (cT : FieldType → ClassId) (φ : Nat → Nat) (mm : mMem) (sz : Nat) (r : Option Value) (m1 : mMem) (o : Outcome) (t : State) : Prop := ∃ φ1, mOk m1 ∧ mExt mm m1 φ φ1 ∧ (∀ v, r = some v → mOkV m1 v) ∧ o = .returned (r.map (mCv φ1)) ∧ ∃ dom : List Nat, dom.Nodup ∧ (∀ k, k ∈ dom ↔ k ≠ 0 ∧ m1.1 k ≠ none) ∧ va_P D mCl (mWs cT φ1 m1 dom) t.heap ∧ va_D (mA φ mm sz) (mWs cT φ1 m1 dom)
def mQc (D : va_G) (cT : FieldType → ClassId) (φ : Nat → Nat) (mm : mMem) (sz : Nat) (r : Option Value) (m1 : mMem) : Array Value → State → Outcome → State → Prop := fun _ st o t => mQB D cT φ mm sz r m1 o t ∧ va_F (mA φ mm sz) st t
/-- the room of a method at depth d that makes so many cells, slots -/
def mRm (d c n : Nat) : Room := { frames := d, cells := c, slots := n, locals := 64 * d }
def mWd (g : mG) : List Cond := Cond.code g.1 g.2.1 g.2.2.1 g.2.2.2.1 :: mTb
/-- the contract of a run -/
def mMt (l : Launch) (D : va_G) (cT : FieldType → ClassId) (d : Nat) (g : mG) (as : List Value) (mm : mMem) (r : Option Value) (m1 : mMem) : Prop := ∀ (φ : Nat → Nat) (sz : Nat),
  Met l g.1 (mWd g) (mRm d (m1.2.2.2.2.1 - mm.2.2.2.2.1) (m1.2.2.2.2.2 - mm.2.2.2.2.2)) (mPc D cT φ mm sz as) (mQc D cT φ mm sz r m1) (m1.2.2.2.2.1 - mm.2.2.2.2.1) (m1.2.2.2.2.2 - mm.2.2.2.2.2) (mA φ mm sz)
/-- what is known of the calls -/
def mCalOk (l : Launch) (D : va_G) (cT : FieldType → ClassId) (d : Nat) (cal : Nat → List Value → mMem → Option mRs) : Prop := ∀ cm as mm r m1 g, cal cm as mm = some (r, m1) → mGm[cm]? = some g → cm ≠ 0 → mOk mm → mOkS mm as → 1 ≤ d ∧ mm.2.2.2.2.1 ≤ m1.2.2.2.2.1 ∧ mm.2.2.2.2.2 ≤ m1.2.2.2.2.2 ∧ mMt l D cT (d - 1) g as mm r m1
theorem mNst_of {w : Cond} (h : w ∈ mNst) : w ∈ lw_tbl ∧ ∃ a i x h, w = .methodLinkNest a i x h := by
  obtain ⟨h1, h2⟩ := List.mem_filter.mp h
  refine ⟨h1, ?_⟩
  split at h2
  · exact ⟨_, _, _, _, rfl⟩
  · cases h2
theorem mNst_in {a : String} {i : Nat} {x : MethodName} {h : String} (hw : Cond.methodLinkNest a i x h ∈ lw_tbl) : Cond.methodLinkNest a i x h ∈ mNst := List.mem_filter.mpr ⟨hw, rfl⟩
theorem mPB_blind {D : va_G} {cT : FieldType → ClassId} {φ : Nat → Nat} {mm : mMem} {sz : Nat} {as : List Value} : FrameBlind (mPc D cT φ mm sz as) := by
  intro a U g mk q
  obtain ⟨q0, q1, q2, q3, q4⟩ := q
  refine ⟨q0, q1, va_K.moved (u := U) (U := U.calling g mk a) (Vm.Alike.refl U.vm) q2, fun w hw => ?_, q4⟩
  obtain ⟨-, a1, i1, x1, h1, rfl⟩ := mNst_of hw
  exact va_Nw.same (u := U) rfl rfl (q3 _ hw)
theorem mTb_GoodIn {ws : List Cond} (h : ∀ w ∈ ws, w ∈ mTb) : GoodIn mTb ws := fun w hw => ⟨h w hw, (mTb_good (h w hw)).2⟩
theorem mWd_in {cm : Nat} {g : mG} (h : mGm[cm]? = some g) (h0 : cm ≠ 0) : ∀ w ∈ mWd g, w ∈ mTb := by
  intro w hw
  rcases List.mem_cons.mp hw with rfl | hw
  · exact mTb_in (t_G h h0).1 rfl
  · exact hw
section MCA
variable {p : Program} {l : Launch} {e : Env} {R : Room} {s : State} {m : MethodId} {args : Array Value} {below : List Frame} {meth : Method} {c : Code} {H : Heap} {locs : List Loc} {Q : State → Prop} {cells slots mc ms : Nat}
variable {D : va_G} {cT : FieldType → ClassId} {A : Nat → Prop} {m0 mm m1 : mMem} {φ0 φ : Nat → Nat} {r : Option Value} {ls : Array Slot} {pc : Nat} {rest : List Value} {st0 : List Value} {a : Array Value}
/-- the callee's start, at the caller's heap -/
theorem mPre (hR : mRl D cT A s.heap m0 φ0 φ mm H locs) (hK : va_K D mCl (mTys cT) s) (hnw : ∀ w ∈ mNst, va_Nw w s) (as : List Value) : ∀ U : State, U.heap = H → s.WarmedH U.vm → mPc D cT φ mm H.size as (as.map (mCv φ)).toArray U := by
  intro U hU hW
  obtain ⟨-, -, dom, hn, hd, hP, hD, hSS⟩ := hR
  refine ⟨rfl, by rw [hU], va_K.moved hW.alike hK, fun w hw => ?_, dom, hn, hd, by rw [hU]; exact hP, hD.weaken (fun _ _ _ _ => trivial)⟩
  obtain ⟨-, a1, i1, x1, h1, rfl⟩ := mNst_of hw
  exact va_Nw.warmM hW (hnw _ hw)
/-- behind a call -/
theorem mCalled (hr : va_Run p l e R s m args below meth c H locs cells slots mc ms (F0 m pc ls st0) rest (mQc D cT φ mm H.size r m1 a) (mA φ mm H.size)) (hR : mRl D cT A s.heap m0 φ0 φ mm H locs) (hA : ∀ q, s.heap.size ≤ q → A q)
    (kk : ∀ (φ1 : Nat → Nat) (H1 : Heap) (locs1 : List Loc), mRl D cT A s.heap m0 φ0 φ1 m1 H1 locs1 → mExt mm m1 φ φ1 → (∀ v, r = some v → mOkV m1 v) → W p l e R s m args below meth c H1 locs1 (cells + mc) (slots + ms) Q (F0 m (pc + 3) ls ((r.map (mCv φ1)).toList ++ rest))) : W p l e R s m args below meth c H locs cells slots Q (F0 m pc ls st0) := by
  intro T hT X
  obtain ⟨v, st₀, t, T', L, h0, X', hL, e1, e2, ⟨⟨φ1, hok, hext, hrv, hv, dom1, n1, d1, P1, D1⟩, hz, hk⟩, st⟩ := hr T hT X
  obtain ⟨-, hex, dom, hn, hd, hP, hD, hSS⟩ := hR
  cases hv
  rw [h0] at hz hk
  have hAA : ∀ q, mA φ mm H.size q → A q := by
    intro q hq
    rcases hq with ⟨k, k1, k2, rfl⟩ | hq
    · obtain ⟨j, hj⟩ := List.getElem?_of_mem ((hd k).mpr ⟨k1, k2⟩)
      exact hD.2 j _ (mWs_at hj)
    · exact hA q (Nat.le_trans hSS.1 hq)
  have hR1 : mRl D cT A s.heap m0 φ0 φ1 m1 T'.heap (locs ++ L) := by
    refine ⟨hok, hex.trans hext, dom1, n1, d1, by rw [e1]; exact P1, D1.weaken (fun _ q _ h => hAA q.1 h), Nat.le_trans hSS.1 (by rw [e1]; exact hz), fun q h1 h2 => ?_, fun q hq => ?_⟩
    · rw [e1, hk q (Nat.lt_of_lt_of_le h1 hSS.1) (fun z => h2 (hAA q z))]
      exact hSS.2.1 q h1 h2
    · rcases List.mem_append.mp hq with h | h
      · exact hSS.2.2 q h
      · exact hAA _ (hL q h)
  obtain ⟨t2, a1, b1⟩ := kk φ1 T'.heap (locs ++ L) hR1 hext hrv T' rfl X'
  exact ⟨t2, st t2 a1, b1⟩
end MCA
