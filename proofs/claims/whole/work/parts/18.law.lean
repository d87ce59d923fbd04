/-! THE LAW OUT OF ONE RUN OF THE MINI MACHINE. -/
def mGl : mG := (x, code, 7, ret, 0, 1, 99, false)
/-- the memory at the law's entry: the script of L ints -/
def mM0 (L : Nat) (xs : Nat → Int32) : mMem := (fun k => if k = 0 then some (.inl (.int, L)) else none, fun _ _ => .null, fun k => if k = 0 then xs else fun _ => 0, fun _ _ => 0, 0, 0)
theorem mKnown {s : State} {args : Array Value} (hts : ∀ w ∈ lw_tbl, w.before args s = true) : ∃ D : va_G, ∀ (k : Nat) (q : vw_C), mCl[k]? = some q → u_Kn s q.1 q.2.1 q.2.2 (D.1 k) (D.2 k) := by
  have h : ∀ k : Nat, ∃ z : ClassId × (Nat → Nat), ∀ q : vw_C, mCl[k]? = some q → u_Kn s q.1 q.2.1 q.2.2 z.1 z.2 := by
    intro k
    cases hq : mCl[k]? with
    | none => exact ⟨(0, fun _ => 0), fun q h => by cases h⟩
    | some q =>
      obtain ⟨c1, -, -, -, c5, -⟩ := t_C hq
      obtain ⟨cC, iS, hK⟩ := u_known (C := q.1) (T := q.2.1) (N := q.2.2) hts c1 (hts _ c5)
      exact ⟨(cC, iS), fun q' h => by cases h; exact hK⟩
  exact ⟨(fun k => (h k).choose.1, fun k => (h k).choose.2), fun k q hq => (h k).choose_spec q hq⟩
theorem mArrs {s : State} {args : Array Value} (hts : ∀ w ∈ lw_tbl, w.before args s = true) : ∃ cT : FieldType → ClassId, ∀ q ∈ mTys cT, ArrOfT s q.1 q.2 ∧ va_RA s q.1 q.2 := by
  have h : ∀ ty, ∃ cA : ClassId, (∃ a : ArrayType, mArP (newarray.typeOf a) ≠ 0 ∧ newarray.typeOf a = ty) → ArrOfT s cA ty ∧ va_RA s cA ty := by
    intro ty
    by_cases he : ∃ a : ArrayType, mArP (newarray.typeOf a) ≠ 0 ∧ newarray.typeOf a = ty
    · obtain ⟨a, h1, rfl⟩ := he
      obtain ⟨cA, kA, comp, hf, hk, hkind⟩ := Cond.arrayClass_spec (hts _ (t_A h1).1)
      refine ⟨cA, fun _ => ⟨fun n z => ⟨fun k h => (by cases h), kA, hk, comp, hkind⟩, ?_⟩⟩
      cases a <;> exact hf
    · exact ⟨0, fun h => absurd h he⟩
  refine ⟨fun ty => (h ty).choose, fun q hq => ?_⟩
  have h2 := (h q.2).choose_spec
  unfold mTys at hq
  simp only [List.mem_cons, List.not_mem_nil, or_false] at hq
  rcases hq with rfl | rfl | rfl | rfl | rfl
  · exact h2 ⟨.int, by decide, rfl⟩
  · exact h2 ⟨.long, by decide, rfl⟩
  · exact h2 ⟨.byte, by decide, rfl⟩
  · exact h2 ⟨.char, by decide, rfl⟩
  · exact h2 ⟨.boolean, by decide, rfl⟩
def R_law : String := "PlaceNetsLaw"
def lw_Q (_ : Array Value) (s : State) (o : Outcome) (t : State) : Prop := o = .returned (some (.int 1)) ∧ Framed s o t [] 601024 7293034
def lw_Z (below : List Frame) (a : Array Value) (s : State) : State → Prop := fun t => ∃ o, t.status = .running ∧ Ended t below o ∧ lw_Q a s o t
def lw_P (b : Addr) (xs : List Int32) (args : Array Value) (s : State) : Prop := args = #[.ref b] ∧ s.IntsAt b xs ∧ xs.length ≤ 2048 ∧ (Jvm.Cond.and given_1 narrow_1).before args s = true
/-- the law's own end, with 1 on the stack, nothing written that was there before, its room as the claim has it -/
theorem lw_ret {p : Program} {l : Launch} {e : Env} {s : State} {m : MethodId} {below : List Frame} {meth : Method} {c : Code} {b : Nat} (hx : p.tables.exec = Jvm.exec) (hb : c.code = code) (hr : meth.sig.returnType = ret) (hlocks : meth.locks = false) {pc : Nat} {H : Heap} {ls : Array Slot} (hdg : decode code pc = .ok (.ireturn, 1)) : W p l e room_1 s m #[Value.ref b] below meth c H [] 601024 7293034 (lw_Z below #[Value.ref b] s) (F0 m pc ls [.int 1]) := by
  intro T hT X
  obtain ⟨fs, hret, hrun, hended, hW, hframe⟩ := X.leave (v := some (.int 1)) (hlocks := hlocks) (fun h => by rw [hr] at h; cases h)
  have hmeth' : T.vm.method? m = some meth := X.method'
  refine ⟨T.setFrames fs, ?_, .returned (some (.int 1)), hrun, hended, rfl, ⟨_, rfl⟩, hW, hframe⟩
  jvm_step X.here [X.here.top, hx, hb, hdg, hmeth', hr, ret, narrow_b1]
  (try refine ⟨rfl, ?_⟩); (try refine ⟨rfl, ?_⟩)
  first | (intro acts; rw [hret _ acts rfl rfl rfl]) | rw [hret _ _ rfl rfl rfl]
  exact Steps.refl _
/-- what holds at the law's entry: the machine, the code, the tables' words (any of lw_tbl by 'hts w (by decide +kernel)'), the script of L ints xs at the cell b, what the Statement gives of the start (any of its parts by flat_of_before) -/
def lw_At (p : Program) (s : State) (m : MethodId) (meth : Method) (c : Code) (b L : Nat) (xs : Nat → Int32) : Prop :=
  p.tables.exec = Jvm.exec ∧ c.code = code ∧ meth.sig.returnType = ret ∧ c.maxLocals = 7 ∧ s.vm.findClass R_law = some m.cls ∧ (∀ w ∈ lw_tbl, w.before #[Value.ref b] s = true) ∧ va_X b L xs s s.heap ∧ b < s.heap.size ∧ meth.locks = false ∧ (Jvm.Cond.and given_1 narrow_1).before #[Value.ref b] s = true
set_option maxHeartbeats 1000000 in
/-- a run that answers 1 is the law's walk -/
theorem law_of_run {p : Program} {e : Env} {s : State} {m : MethodId} {below : List Frame} {meth : Method} {c : Code} (l : Launch) {b L : Nat} {xs : Nat → Int32} (C0 : lw_At p s m meth c b L xs) (N d : Nat) (hd : d ≤ 1000) (mf : mMem) (hrun : mRun (mCall N d) d 0 0 mGl N (0, mEn [.ref 0] 7, [], mM0 L xs) = some (some (.int 1), mf)) (hc : mf.2.2.2.2.1 ≤ 601024) (hs : mf.2.2.2.2.2 ≤ 7293034) :
    W p l e room_1 s m #[Value.ref b] below meth c s.heap [] 0 0 (lw_Z below #[Value.ref b] s) (entryFrame m ([Value.ref b] : List Value).toArray 7) := by
  obtain ⟨hx, hb, hr, hml, hown, hts, hX, hbl, hlocks, hgv⟩ := id C0
  obtain ⟨D, hD⟩ := mKnown hts
  obtain ⟨cT, hcT⟩ := mArrs hts
  have hK : va_K D mCl (mTys cT) s := ⟨hD, fun k q h => hcT q (List.mem_of_getElem? h)⟩
  have hnw : ∀ w ∈ mNst, va_Nw w s := by
    intro w hw
    obtain ⟨h1, a1, i1, x1, h2, rfl⟩ := mNst_of hw
    exact va_Nw.of rfl (hts _ h1)
  have C : mCx p s m #[Value.ref b] meth c room_1 D cT (fun q => s.heap.size ≤ q) mGl d := by
    refine ⟨hx, hb, hml, hr, hlocks, hown, fun w hw => hts w (mTb_good hw).1, hnw, hK, fun _ h => h, by decide, (fun h => by cases h), ?_, ?_⟩
    · show d ≤ 2048; omega
    · show 64 * d ≤ 84000; omega
  have hsc : mScr s (fun q => s.heap.size ≤ q) (mM0 L xs) (fun _ => b) := ⟨L, xs, hX, hbl, Nat.not_le.mpr hbl, rfl, rfl⟩
  have hok : mOk (mM0 L xs) := by
    refine ⟨fun k ci h => ?_, fun k ty n h => ?_⟩
    · unfold mM0 at h
      dsimp only at h
      split at h <;> cases h
    · unfold mM0 at h
      dsimp only at h
      split at h
      · cases h
        exact Or.inl rfl
      · cases h
  have hnd : ∀ k, k ∈ ([] : List Nat) ↔ k ≠ 0 ∧ (mM0 L xs).1 k ≠ none := by
    intro k
    refine ⟨(fun h => by cases h), fun h => ?_⟩
    exact absurd (if_neg h.1) h.2
  have hR : mRl D cT (fun q => s.heap.size ≤ q) s.heap (mM0 L xs) (fun _ => b) (fun _ => b) (mM0 L xs) s.heap [] := ⟨hok, mExt.rf, [], List.nodup_nil, hnd, fun k q h => by simp [mWs] at h, ⟨fun i j p q h => by simp [mWs] at h, fun k q h => by simp [mWs] at h⟩, va_S.rf⟩
  have hokS : mOkS (mM0 L xs) [.ref 0] := by
    intro v hv k hk
    rw [List.mem_singleton.mp hv] at hk
    cases hk
    intro h
    cases h
  have hF := mFr_entry (φ := fun _ => b) (mm := mM0 L xs) (as := [.ref 0]) (n := 7) (by decide) hokS
  have hw := mRunS (l := l) (e := e) (below := below) (Q := lw_Z below #[Value.ref b] s) (c0 := 0) (s0 := 0) (m0 := mM0 L xs) (φ0 := fun _ => b) (mCallOk l D cT N d) (mCall_mono N d) C (fun _ => hsc) (some (.int 1)) mf hc hs ?_ N 0 (mEn [.ref 0] 7) [] (mM0 L xs) (fun _ => b) s.heap [] _ hrun hR hF (Nat.le_refl _) (Nat.le_refl _)
  · rw [lg_entry_eq]
    exact hw
  · intro i pc Lo S m2 φ2 H locs ls hdg hst em hR2 hF2
    subst em
    obtain ⟨hok2, hex2, dom2, hn2, hd2, hP2, hD2, hS2⟩ := hR2
    rcases mStep_inr hst with ⟨rfl, v, ty, rfl, e1, e2, e3⟩ | ⟨rfl, v, rfl, e1, e3⟩ | ⟨rfl, v, C9, rfl, e1, e3⟩ | ⟨rfl, rfl, e1, e3⟩
    · cases e3
      refine va_forget (fun q hq => hS2.2.2 q hq) ?_
      refine W.widen (k := 601024) (n := 7293034) (by rw [Nat.sub_zero]; exact hc) (by rw [Nat.sub_zero]; exact hs) ?_
      exact lw_ret hx hb hr hlocks hdg
    · cases e3
    · cases e3
    · cases e3
