/-! Rows: a run from an instruction out of a run from the next. -/
section MRW
variable {d mi b : Nat} {g : mG} {Q : Option Value → mMem → Prop} {pc pc' : Nat} {L L' : mLo} {S : List Value} {m m' : mMem}
theorem mEs.w {i : Instr} {len : Nat} (hd : decode g.2.1 pc = .ok (i, len)) (hl : len = mLen i ∨ mSw i = true) (h : mW d mi b g i pc L S m (fun st => mEs d mi b g st Q) Q) : mEs d mi b g (pc, L, S, m) Q := by
  obtain ⟨o, h1, h2⟩ := wk_all i d mi b g pc L S m _ Q h
  exact mH_es hd hl h1 (fun _ h => h) h2
theorem e_iconst {z : Int} {v : Int32} (hd : decode g.2.1 pc = .ok (.iconst z, 1)) (hp : pc + 1 = pc') (hv : Int32.ofInt z = v) (k : mEs d mi b g (pc', L, .int v :: S, m) Q) : mEs d mi b g (pc, L, S, m) Q := by
  subst hp
  exact mEs.w hd (Or.inl rfl) ⟨v, hv, k⟩
theorem e_bipush {z : Int} {v : Int32} (hd : decode g.2.1 pc = .ok (.bipush z, 2)) (hp : pc + 2 = pc') (hv : (Int8.ofInt z).toInt32 = v) (k : mEs d mi b g (pc', L, .int v :: S, m) Q) : mEs d mi b g (pc, L, S, m) Q := by
  subst hp
  exact mEs.w hd (Or.inl rfl) ⟨v, hv, k⟩
theorem e_sipush {z : Int} {v : Int32} (hd : decode g.2.1 pc = .ok (.sipush z, 3)) (hp : pc + 3 = pc') (hv : (Int16.ofInt z).toInt32 = v) (k : mEs d mi b g (pc', L, .int v :: S, m) Q) : mEs d mi b g (pc, L, S, m) Q := by
  subst hp
  exact mEs.w hd (Or.inl rfl) ⟨v, hv, k⟩
theorem e_lconst {z : Fin 2} {v : Int64} (hd : decode g.2.1 pc = .ok (.lconst z, 1)) (hp : pc + 1 = pc') (hv : Int64.ofNat (z : Nat) = v) (k : mEs d mi b g (pc', L, .long v :: S, m) Q) : mEs d mi b g (pc, L, S, m) Q := by
  subst hp
  exact mEs.w hd (Or.inl rfl) ⟨v, hv, k⟩
theorem e_iload {j : Nat} {x : Int32} (hd : decode g.2.1 pc = .ok (.iload j, 2)) (hp : pc + 2 = pc') (hv : mLd L j = some (.int x)) (k : mEs d mi b g (pc', L, .int x :: S, m) Q) : mEs d mi b g (pc, L, S, m) Q := by
  subst hp
  exact mEs.w hd (Or.inl rfl) (by show (match mLd L j with | some v => _ | none => False); rw [hv]; exact ⟨rfl, k⟩)
theorem e_iload_n {j : Fin 4} {x : Int32} (hd : decode g.2.1 pc = .ok (.iload_n j, 1)) (hp : pc + 1 = pc') (hv : mLd L j = some (.int x)) (k : mEs d mi b g (pc', L, .int x :: S, m) Q) : mEs d mi b g (pc, L, S, m) Q := by
  subst hp
  exact mEs.w hd (Or.inl rfl) (by show (match mLd L j with | some v => _ | none => False); rw [hv]; exact ⟨rfl, k⟩)
theorem e_lload {j : Nat} {x : Int64} (hd : decode g.2.1 pc = .ok (.lload j, 2)) (hp : pc + 2 = pc') (hv : mLd L j = some (.long x)) (k : mEs d mi b g (pc', L, .long x :: S, m) Q) : mEs d mi b g (pc, L, S, m) Q := by
  subst hp
  exact mEs.w hd (Or.inl rfl) (by show (match mLd L j with | some v => _ | none => False); rw [hv]; exact ⟨rfl, k⟩)
theorem e_lload_n {j : Fin 4} {x : Int64} (hd : decode g.2.1 pc = .ok (.lload_n j, 1)) (hp : pc + 1 = pc') (hv : mLd L j = some (.long x)) (k : mEs d mi b g (pc', L, .long x :: S, m) Q) : mEs d mi b g (pc, L, S, m) Q := by
  subst hp
  exact mEs.w hd (Or.inl rfl) (by show (match mLd L j with | some v => _ | none => False); rw [hv]; exact ⟨rfl, k⟩)
theorem e_aload {j : Nat} {x : Nat} (hd : decode g.2.1 pc = .ok (.aload j, 2)) (hp : pc + 2 = pc') (hv : mLd L j = some (.ref x)) (k : mEs d mi b g (pc', L, .ref x :: S, m) Q) : mEs d mi b g (pc, L, S, m) Q := by
  subst hp
  exact mEs.w hd (Or.inl rfl) (by show (match mLd L j with | some v => _ | none => False); rw [hv]; exact ⟨rfl, k⟩)
theorem e_aload_n {j : Fin 4} {x : Nat} (hd : decode g.2.1 pc = .ok (.aload_n j, 1)) (hp : pc + 1 = pc') (hv : mLd L j = some (.ref x)) (k : mEs d mi b g (pc', L, .ref x :: S, m) Q) : mEs d mi b g (pc, L, S, m) Q := by
  subst hp
  exact mEs.w hd (Or.inl rfl) (by show (match mLd L j with | some v => _ | none => False); rw [hv]; exact ⟨rfl, k⟩)
theorem e_istore {j : Nat} {x : Int32} (hd : decode g.2.1 pc = .ok (.istore j, 2)) (hp : pc + 2 = pc') (hl : (j : Nat) < L.length) (hL : mS1 L j (.int x) = L') (k : mEs d mi b g (pc', L', S, m) Q) : mEs d mi b g (pc, L, .int x :: S, m) Q := by
  subst hp
  exact mEs.w hd (Or.inl rfl) ⟨rfl, hl, by rw [← hL] at k; exact k⟩
theorem e_istore_n {j : Fin 4} {x : Int32} (hd : decode g.2.1 pc = .ok (.istore_n j, 1)) (hp : pc + 1 = pc') (hl : (j : Nat) < L.length) (hL : mS1 L j (.int x) = L') (k : mEs d mi b g (pc', L', S, m) Q) : mEs d mi b g (pc, L, .int x :: S, m) Q := by
  subst hp
  exact mEs.w hd (Or.inl rfl) ⟨rfl, hl, by rw [← hL] at k; exact k⟩
theorem e_lstore {j : Nat} {x : Int64} (hd : decode g.2.1 pc = .ok (.lstore j, 2)) (hp : pc + 2 = pc') (hl : (j : Nat) + 1 < L.length) (hL : mS2 L j (.long x) = L') (k : mEs d mi b g (pc', L', S, m) Q) : mEs d mi b g (pc, L, .long x :: S, m) Q := by
  subst hp
  exact mEs.w hd (Or.inl rfl) ⟨rfl, hl, by rw [← hL] at k; exact k⟩
theorem e_lstore_n {j : Fin 4} {x : Int64} (hd : decode g.2.1 pc = .ok (.lstore_n j, 1)) (hp : pc + 1 = pc') (hl : (j : Nat) + 1 < L.length) (hL : mS2 L j (.long x) = L') (k : mEs d mi b g (pc', L', S, m) Q) : mEs d mi b g (pc, L, .long x :: S, m) Q := by
  subst hp
  exact mEs.w hd (Or.inl rfl) ⟨rfl, hl, by rw [← hL] at k; exact k⟩
theorem e_astore {j : Nat} {x : Nat} (hd : decode g.2.1 pc = .ok (.astore j, 2)) (hp : pc + 2 = pc') (hl : (j : Nat) < L.length) (hL : mS1 L j (.ref x) = L') (k : mEs d mi b g (pc', L', S, m) Q) : mEs d mi b g (pc, L, .ref x :: S, m) Q := by
  subst hp
  exact mEs.w hd (Or.inl rfl) ⟨rfl, hl, by rw [← hL] at k; exact k⟩
theorem e_astore_n {j : Fin 4} {x : Nat} (hd : decode g.2.1 pc = .ok (.astore_n j, 1)) (hp : pc + 1 = pc') (hl : (j : Nat) < L.length) (hL : mS1 L j (.ref x) = L') (k : mEs d mi b g (pc', L', S, m) Q) : mEs d mi b g (pc, L, .ref x :: S, m) Q := by
  subst hp
  exact mEs.w hd (Or.inl rfl) ⟨rfl, hl, by rw [← hL] at k; exact k⟩
theorem e_iinc {j : Nat} {z : Int} {x v : Int32} (hd : decode g.2.1 pc = .ok (.iinc j z, 3)) (hp : pc + 3 = pc') (hv : mLd L j = some (.int x)) (hl : j < L.length) (hx : x + Int32.ofInt z = v) (hL : mS1 L j (.int v) = L') (k : mEs d mi b g (pc', L', S, m) Q) : mEs d mi b g (pc, L, S, m) Q := by
  subst hp
  exact mEs.w hd (Or.inl rfl) (by show (match mLd L j with | some (.int x) => _ | _ => False); rw [hv]; exact ⟨hl, v, hx, by rw [hL]; exact k⟩)
theorem e_iadd {x y : Int32} (hd : decode g.2.1 pc = .ok (.iadd, 1)) (hp : pc + 1 = pc') (k : mEs d mi b g (pc', L, .int (x + y) :: S, m) Q) : mEs d mi b g (pc, L, .int y :: .int x :: S, m) Q := by
  subst hp
  exact mEs.w hd (Or.inl rfl) k
theorem e_isub {x y : Int32} (hd : decode g.2.1 pc = .ok (.isub, 1)) (hp : pc + 1 = pc') (k : mEs d mi b g (pc', L, .int (x - y) :: S, m) Q) : mEs d mi b g (pc, L, .int y :: .int x :: S, m) Q := by
  subst hp
  exact mEs.w hd (Or.inl rfl) k
theorem e_imul {x y : Int32} (hd : decode g.2.1 pc = .ok (.imul, 1)) (hp : pc + 1 = pc') (k : mEs d mi b g (pc', L, .int (x * y) :: S, m) Q) : mEs d mi b g (pc, L, .int y :: .int x :: S, m) Q := by
  subst hp
  exact mEs.w hd (Or.inl rfl) k
theorem e_iand {x y : Int32} (hd : decode g.2.1 pc = .ok (.iand, 1)) (hp : pc + 1 = pc') (k : mEs d mi b g (pc', L, .int (x &&& y) :: S, m) Q) : mEs d mi b g (pc, L, .int y :: .int x :: S, m) Q := by
  subst hp
  exact mEs.w hd (Or.inl rfl) k
theorem e_ior {x y : Int32} (hd : decode g.2.1 pc = .ok (.ior, 1)) (hp : pc + 1 = pc') (k : mEs d mi b g (pc', L, .int (x ||| y) :: S, m) Q) : mEs d mi b g (pc, L, .int y :: .int x :: S, m) Q := by
  subst hp
  exact mEs.w hd (Or.inl rfl) k
theorem e_ixor {x y : Int32} (hd : decode g.2.1 pc = .ok (.ixor, 1)) (hp : pc + 1 = pc') (k : mEs d mi b g (pc', L, .int (x ^^^ y) :: S, m) Q) : mEs d mi b g (pc, L, .int y :: .int x :: S, m) Q := by
  subst hp
  exact mEs.w hd (Or.inl rfl) k
theorem e_ishl {x y : Int32} (hd : decode g.2.1 pc = .ok (.ishl, 1)) (hp : pc + 1 = pc') (k : mEs d mi b g (pc', L, .int (x <<< (y &&& 31)) :: S, m) Q) : mEs d mi b g (pc, L, .int y :: .int x :: S, m) Q := by
  subst hp
  exact mEs.w hd (Or.inl rfl) k
theorem e_ishr {x y : Int32} (hd : decode g.2.1 pc = .ok (.ishr, 1)) (hp : pc + 1 = pc') (k : mEs d mi b g (pc', L, .int (x >>> (y &&& 31)) :: S, m) Q) : mEs d mi b g (pc, L, .int y :: .int x :: S, m) Q := by
  subst hp
  exact mEs.w hd (Or.inl rfl) k
theorem e_iushr {x y : Int32} (hd : decode g.2.1 pc = .ok (.iushr, 1)) (hp : pc + 1 = pc') (k : mEs d mi b g (pc', L, .int ((x.toUInt32 >>> (y.toUInt32 &&& Int32.toUInt32 31)).toInt32) :: S, m) Q) : mEs d mi b g (pc, L, .int y :: .int x :: S, m) Q := by
  subst hp
  exact mEs.w hd (Or.inl rfl) k
theorem e_ladd {x y : Int64} (hd : decode g.2.1 pc = .ok (.ladd, 1)) (hp : pc + 1 = pc') (k : mEs d mi b g (pc', L, .long (x + y) :: S, m) Q) : mEs d mi b g (pc, L, .long y :: .long x :: S, m) Q := by
  subst hp
  exact mEs.w hd (Or.inl rfl) k
theorem e_lsub {x y : Int64} (hd : decode g.2.1 pc = .ok (.lsub, 1)) (hp : pc + 1 = pc') (k : mEs d mi b g (pc', L, .long (x - y) :: S, m) Q) : mEs d mi b g (pc, L, .long y :: .long x :: S, m) Q := by
  subst hp
  exact mEs.w hd (Or.inl rfl) k
theorem e_lmul {x y : Int64} (hd : decode g.2.1 pc = .ok (.lmul, 1)) (hp : pc + 1 = pc') (k : mEs d mi b g (pc', L, .long (x * y) :: S, m) Q) : mEs d mi b g (pc, L, .long y :: .long x :: S, m) Q := by
  subst hp
  exact mEs.w hd (Or.inl rfl) k
theorem e_irem {x y : Int32} (hd : decode g.2.1 pc = .ok (.irem, 1)) (hp : pc + 1 = pc') (h0 : y ≠ 0) (k : mEs d mi b g (pc', L, .int (x - x / y * y) :: S, m) Q) : mEs d mi b g (pc, L, .int y :: .int x :: S, m) Q := by
  subst hp
  exact mEs.w hd (Or.inl rfl) ⟨h0, k⟩
theorem e_ldiv {x y : Int64} (hd : decode g.2.1 pc = .ok (.ldiv, 1)) (hp : pc + 1 = pc') (h0 : y ≠ 0) (k : mEs d mi b g (pc', L, .long (x / y) :: S, m) Q) : mEs d mi b g (pc, L, .long y :: .long x :: S, m) Q := by
  subst hp
  exact mEs.w hd (Or.inl rfl) ⟨h0, k⟩
theorem e_lrem {x y : Int64} (hd : decode g.2.1 pc = .ok (.lrem, 1)) (hp : pc + 1 = pc') (h0 : y ≠ 0) (k : mEs d mi b g (pc', L, .long (x - x / y * y) :: S, m) Q) : mEs d mi b g (pc, L, .long y :: .long x :: S, m) Q := by
  subst hp
  exact mEs.w hd (Or.inl rfl) ⟨h0, k⟩
theorem e_lshl {x : Int64} {y : Int32} (hd : decode g.2.1 pc = .ok (.lshl, 1)) (hp : pc + 1 = pc') (k : mEs d mi b g (pc', L, .long (x <<< (y.toInt64 &&& 63)) :: S, m) Q) : mEs d mi b g (pc, L, .int y :: .long x :: S, m) Q := by
  subst hp
  exact mEs.w hd (Or.inl rfl) k
theorem e_lcmp {x y : Int64} (hd : decode g.2.1 pc = .ok (.lcmp, 1)) (hp : pc + 1 = pc') (k : mEs d mi b g (pc', L, .int (lg_cmp x y) :: S, m) Q) : mEs d mi b g (pc, L, .long y :: .long x :: S, m) Q := by
  subst hp
  exact mEs.w hd (Or.inl rfl) k
theorem e_ineg {x : Int32} (hd : decode g.2.1 pc = .ok (.ineg, 1)) (hp : pc + 1 = pc') (k : mEs d mi b g (pc', L, .int (-x) :: S, m) Q) : mEs d mi b g (pc, L, .int x :: S, m) Q := by
  subst hp
  exact mEs.w hd (Or.inl rfl) k
theorem e_lneg {x : Int64} (hd : decode g.2.1 pc = .ok (.lneg, 1)) (hp : pc + 1 = pc') (k : mEs d mi b g (pc', L, .long (-x) :: S, m) Q) : mEs d mi b g (pc, L, .long x :: S, m) Q := by
  subst hp
  exact mEs.w hd (Or.inl rfl) k
theorem e_i2l {x : Int32} (hd : decode g.2.1 pc = .ok (.i2l, 1)) (hp : pc + 1 = pc') (k : mEs d mi b g (pc', L, .long (x.toInt64) :: S, m) Q) : mEs d mi b g (pc, L, .int x :: S, m) Q := by
  subst hp
  exact mEs.w hd (Or.inl rfl) k
theorem e_l2i {x : Int64} (hd : decode g.2.1 pc = .ok (.l2i, 1)) (hp : pc + 1 = pc') (k : mEs d mi b g (pc', L, .int (x.toInt32) :: S, m) Q) : mEs d mi b g (pc, L, .long x :: S, m) Q := by
  subst hp
  exact mEs.w hd (Or.inl rfl) k
theorem e_i2b {x : Int32} (hd : decode g.2.1 pc = .ok (.i2b, 1)) (hp : pc + 1 = pc') (k : mEs d mi b g (pc', L, .int (x.toInt8.toInt32) :: S, m) Q) : mEs d mi b g (pc, L, .int x :: S, m) Q := by
  subst hp
  exact mEs.w hd (Or.inl rfl) k
theorem e_i2c {x : Int32} (hd : decode g.2.1 pc = .ok (.i2c, 1)) (hp : pc + 1 = pc') (k : mEs d mi b g (pc', L, .int ((x.toUInt32 % 65536).toInt32) :: S, m) Q) : mEs d mi b g (pc, L, .int x :: S, m) Q := by
  subst hp
  exact mEs.w hd (Or.inl rfl) k
theorem e_dup {v : Value} (hd : decode g.2.1 pc = .ok (.dup, 1)) (hp : pc + 1 = pc') (hc : v.category = 1) (k : mEs d mi b g (pc', L, v :: v :: S, m) Q) : mEs d mi b g (pc, L, v :: S, m) Q := by
  subst hp
  exact mEs.w hd (Or.inl rfl) ⟨hc, k⟩
theorem e_pop {v : Value} (hd : decode g.2.1 pc = .ok (.pop, 1)) (hp : pc + 1 = pc') (hc : v.category = 1) (k : mEs d mi b g (pc', L, S, m) Q) : mEs d mi b g (pc, L, v :: S, m) Q := by
  subst hp
  exact mEs.w hd (Or.inl rfl) ⟨hc, k⟩
theorem e_dup2 {v u : Value} (hd : decode g.2.1 pc = .ok (.dup2, 1)) (hp : pc + 1 = pc') (hc : v.category = 1 ∧ u.category = 1) (k : mEs d mi b g (pc', L, v :: u :: v :: u :: S, m) Q) : mEs d mi b g (pc, L, v :: u :: S, m) Q := by
  subst hp
  exact mEs.w hd (Or.inl rfl) ⟨hc, k⟩
theorem e_goto {off : Int} {t : Nat} (hd : decode g.2.1 pc = .ok (.goto off, 3)) (ht : mTg pc off = t ∧ 0 ≤ (pc : Int) + off) (k : mEs d mi b g (t, L, S, m) Q) : mEs d mi b g (pc, L, S, m) Q := mEs.w hd (Or.inl rfl) ⟨t, ht.1, ht.2, k⟩
theorem e_icmp_eq {off : Int} {t : Nat} {x y : Int32} (hd : decode g.2.1 pc = .ok (.if_icmp .eq off, 3)) (ht : mTg pc off = t ∧ 0 ≤ (pc : Int) + off) (hp : pc + 3 = pc') (kt : x = y → mEs d mi b g (t, L, S, m) Q) (kf : ¬ (x = y) → mEs d mi b g (pc', L, S, m) Q) : mEs d mi b g (pc, L, .int y :: .int x :: S, m) Q := by
  subst hp
  exact mEs.w hd (Or.inl rfl) ⟨t, ht.1, ht.2, kt, kf⟩
theorem e_if_eq {off : Int} {t : Nat} {x : Int32} (hd : decode g.2.1 pc = .ok (.ifCond .eq off, 3)) (ht : mTg pc off = t ∧ 0 ≤ (pc : Int) + off) (hp : pc + 3 = pc') (kt : x = 0 → mEs d mi b g (t, L, S, m) Q) (kf : ¬ (x = 0) → mEs d mi b g (pc', L, S, m) Q) : mEs d mi b g (pc, L, .int x :: S, m) Q := by
  subst hp
  exact mEs.w hd (Or.inl rfl) ⟨t, ht.1, ht.2, kt, kf⟩
theorem e_icmp_ne {off : Int} {t : Nat} {x y : Int32} (hd : decode g.2.1 pc = .ok (.if_icmp .ne off, 3)) (ht : mTg pc off = t ∧ 0 ≤ (pc : Int) + off) (hp : pc + 3 = pc') (kt : ¬ x = y → mEs d mi b g (t, L, S, m) Q) (kf : ¬ (¬ x = y) → mEs d mi b g (pc', L, S, m) Q) : mEs d mi b g (pc, L, .int y :: .int x :: S, m) Q := by
  subst hp
  exact mEs.w hd (Or.inl rfl) ⟨t, ht.1, ht.2, kt, kf⟩
theorem e_if_ne {off : Int} {t : Nat} {x : Int32} (hd : decode g.2.1 pc = .ok (.ifCond .ne off, 3)) (ht : mTg pc off = t ∧ 0 ≤ (pc : Int) + off) (hp : pc + 3 = pc') (kt : ¬ x = 0 → mEs d mi b g (t, L, S, m) Q) (kf : ¬ (¬ x = 0) → mEs d mi b g (pc', L, S, m) Q) : mEs d mi b g (pc, L, .int x :: S, m) Q := by
  subst hp
  exact mEs.w hd (Or.inl rfl) ⟨t, ht.1, ht.2, kt, kf⟩
theorem e_icmp_lt {off : Int} {t : Nat} {x y : Int32} (hd : decode g.2.1 pc = .ok (.if_icmp .lt off, 3)) (ht : mTg pc off = t ∧ 0 ≤ (pc : Int) + off) (hp : pc + 3 = pc') (kt : x < y → mEs d mi b g (t, L, S, m) Q) (kf : ¬ (x < y) → mEs d mi b g (pc', L, S, m) Q) : mEs d mi b g (pc, L, .int y :: .int x :: S, m) Q := by
  subst hp
  exact mEs.w hd (Or.inl rfl) ⟨t, ht.1, ht.2, kt, kf⟩
theorem e_if_lt {off : Int} {t : Nat} {x : Int32} (hd : decode g.2.1 pc = .ok (.ifCond .lt off, 3)) (ht : mTg pc off = t ∧ 0 ≤ (pc : Int) + off) (hp : pc + 3 = pc') (kt : x < 0 → mEs d mi b g (t, L, S, m) Q) (kf : ¬ (x < 0) → mEs d mi b g (pc', L, S, m) Q) : mEs d mi b g (pc, L, .int x :: S, m) Q := by
  subst hp
  exact mEs.w hd (Or.inl rfl) ⟨t, ht.1, ht.2, kt, kf⟩
theorem e_icmp_ge {off : Int} {t : Nat} {x y : Int32} (hd : decode g.2.1 pc = .ok (.if_icmp .ge off, 3)) (ht : mTg pc off = t ∧ 0 ≤ (pc : Int) + off) (hp : pc + 3 = pc') (kt : y ≤ x → mEs d mi b g (t, L, S, m) Q) (kf : ¬ (y ≤ x) → mEs d mi b g (pc', L, S, m) Q) : mEs d mi b g (pc, L, .int y :: .int x :: S, m) Q := by
  subst hp
  exact mEs.w hd (Or.inl rfl) ⟨t, ht.1, ht.2, kt, kf⟩
theorem e_if_ge {off : Int} {t : Nat} {x : Int32} (hd : decode g.2.1 pc = .ok (.ifCond .ge off, 3)) (ht : mTg pc off = t ∧ 0 ≤ (pc : Int) + off) (hp : pc + 3 = pc') (kt : 0 ≤ x → mEs d mi b g (t, L, S, m) Q) (kf : ¬ (0 ≤ x) → mEs d mi b g (pc', L, S, m) Q) : mEs d mi b g (pc, L, .int x :: S, m) Q := by
  subst hp
  exact mEs.w hd (Or.inl rfl) ⟨t, ht.1, ht.2, kt, kf⟩
theorem e_icmp_gt {off : Int} {t : Nat} {x y : Int32} (hd : decode g.2.1 pc = .ok (.if_icmp .gt off, 3)) (ht : mTg pc off = t ∧ 0 ≤ (pc : Int) + off) (hp : pc + 3 = pc') (kt : y < x → mEs d mi b g (t, L, S, m) Q) (kf : ¬ (y < x) → mEs d mi b g (pc', L, S, m) Q) : mEs d mi b g (pc, L, .int y :: .int x :: S, m) Q := by
  subst hp
  exact mEs.w hd (Or.inl rfl) ⟨t, ht.1, ht.2, kt, kf⟩
theorem e_if_gt {off : Int} {t : Nat} {x : Int32} (hd : decode g.2.1 pc = .ok (.ifCond .gt off, 3)) (ht : mTg pc off = t ∧ 0 ≤ (pc : Int) + off) (hp : pc + 3 = pc') (kt : 0 < x → mEs d mi b g (t, L, S, m) Q) (kf : ¬ (0 < x) → mEs d mi b g (pc', L, S, m) Q) : mEs d mi b g (pc, L, .int x :: S, m) Q := by
  subst hp
  exact mEs.w hd (Or.inl rfl) ⟨t, ht.1, ht.2, kt, kf⟩
theorem e_icmp_le {off : Int} {t : Nat} {x y : Int32} (hd : decode g.2.1 pc = .ok (.if_icmp .le off, 3)) (ht : mTg pc off = t ∧ 0 ≤ (pc : Int) + off) (hp : pc + 3 = pc') (kt : x ≤ y → mEs d mi b g (t, L, S, m) Q) (kf : ¬ (x ≤ y) → mEs d mi b g (pc', L, S, m) Q) : mEs d mi b g (pc, L, .int y :: .int x :: S, m) Q := by
  subst hp
  exact mEs.w hd (Or.inl rfl) ⟨t, ht.1, ht.2, kt, kf⟩
theorem e_if_le {off : Int} {t : Nat} {x : Int32} (hd : decode g.2.1 pc = .ok (.ifCond .le off, 3)) (ht : mTg pc off = t ∧ 0 ≤ (pc : Int) + off) (hp : pc + 3 = pc') (kt : x ≤ 0 → mEs d mi b g (t, L, S, m) Q) (kf : ¬ (x ≤ 0) → mEs d mi b g (pc', L, S, m) Q) : mEs d mi b g (pc, L, .int x :: S, m) Q := by
  subst hp
  exact mEs.w hd (Or.inl rfl) ⟨t, ht.1, ht.2, kt, kf⟩
theorem e_ifnullN {off : Int} {t : Nat} (hd : decode g.2.1 pc = .ok (.ifnull off, 3)) (ht : mTg pc off = t ∧ 0 ≤ (pc : Int) + off) (k : mEs d mi b g (t, L, S, m) Q) : mEs d mi b g (pc, L, .null :: S, m) Q := mEs.w hd (Or.inl rfl) ⟨t, ht.1, ht.2, k⟩
theorem e_ifnullR {off : Int} {x : Nat} (hd : decode g.2.1 pc = .ok (.ifnull off, 3)) (hp : pc + 3 = pc') (k : mEs d mi b g (pc', L, S, m) Q) : mEs d mi b g (pc, L, .ref x :: S, m) Q := by
  subst hp
  exact mEs.w hd (Or.inl rfl) k
theorem e_ifnonnullR {off : Int} {t x : Nat} (hd : decode g.2.1 pc = .ok (.ifnonnull off, 3)) (ht : mTg pc off = t ∧ 0 ≤ (pc : Int) + off) (k : mEs d mi b g (t, L, S, m) Q) : mEs d mi b g (pc, L, .ref x :: S, m) Q := mEs.w hd (Or.inl rfl) ⟨t, ht.1, ht.2, k⟩
theorem e_ifnonnullN {off : Int} (hd : decode g.2.1 pc = .ok (.ifnonnull off, 3)) (hp : pc + 3 = pc') (k : mEs d mi b g (pc', L, S, m) Q) : mEs d mi b g (pc, L, .null :: S, m) Q := by
  subst hp
  exact mEs.w hd (Or.inl rfl) k
theorem e_tableswitch {df lo hi off : Int} {offs : Array Int} {t len : Nat} {x : Int32} (hd : decode g.2.1 pc = .ok (.tableswitch df lo hi offs, len)) (ho : (if x.toInt < lo ∨ hi < x.toInt then some df else offs[(x.toInt - lo).toNat]?) = some off) (ht : mTg pc off = t ∧ 0 ≤ (pc : Int) + off) (k : mEs d mi b g (t, L, S, m) Q) : mEs d mi b g (pc, L, .int x :: S, m) Q := mEs.w hd (Or.inr rfl) ⟨off, ho, ht.2, by rw [ht.1]; exact k⟩
theorem e_lookupswitch {df off : Int} {ps : Array (Int × Int)} {t len : Nat} {x : Int32} (hd : decode g.2.1 pc = .ok (.lookupswitch df ps, len)) (hs : (ps.toList.zip (ps.toList.drop 1)).all (fun (a, next) => a.1 < next.1) = true) (ho : Op.lookupswitch.offset ps.toList df x.toInt = off) (ht : mTg pc off = t ∧ 0 ≤ (pc : Int) + off) (k : mEs d mi b g (t, L, S, m) Q) : mEs d mi b g (pc, L, .int x :: S, m) Q := mEs.w hd (Or.inr rfl) ⟨hs, off, ho, ht.2, by rw [ht.1]; exact k⟩
theorem e_ldc {j q : Nat} {v : Int32} (hd : decode g.2.1 pc = .ok (.ldc j, 2)) (hp : pc + 2 = pc') (hv : (mLI g.2.2.2.2.1).lookup j = some (v, q)) (k : mEs d mi b g (pc', L, .int v :: S, m) Q) : mEs d mi b g (pc, L, S, m) Q := by
  subst hp
  exact mEs.w hd (Or.inl rfl) ⟨v, q, hv, k⟩
theorem e_ldc_w {j q : Nat} {v : Int32} (hd : decode g.2.1 pc = .ok (.ldc_w j, 3)) (hp : pc + 3 = pc') (hv : (mLI g.2.2.2.2.1).lookup j = some (v, q)) (k : mEs d mi b g (pc', L, .int v :: S, m) Q) : mEs d mi b g (pc, L, S, m) Q := by
  subst hp
  exact mEs.w hd (Or.inl rfl) ⟨v, q, hv, k⟩
theorem e_ldc2_w {j q : Nat} {v : Int64} (hd : decode g.2.1 pc = .ok (.ldc2_w j, 3)) (hp : pc + 3 = pc') (hv : (mLJ g.2.2.2.2.1).lookup j = some (v, q)) (k : mEs d mi b g (pc', L, .long v :: S, m) Q) : mEs d mi b g (pc, L, S, m) Q := by
  subst hp
  exact mEs.w hd (Or.inl rfl) ⟨v, q, hv, k⟩
theorem e_getfield {j ci f q x : Nat} {v : Value} (hd : decode g.2.1 pc = .ok (.getfield j, 3)) (hp : pc + 3 = pc') (hf : (mLF g.2.2.2.2.1).lookup j = some (ci, f, q)) (hk : m.1 x = some (.inr ci) ∧ x ≠ 0) (hv : m.2.1 x f = v) (k : mEs d mi b g (pc', L, v :: S, m) Q) : mEs d mi b g (pc, L, .ref x :: S, m) Q := by
  subst hp
  exact mEs.w hd (Or.inl rfl) ⟨ci, f, q, hf, hk, v, hv, k⟩
theorem e_putfield {j ci f q x : Nat} {v : Value} (hd : decode g.2.1 pc = .ok (.putfield j, 3)) (hp : pc + 3 = pc') (hf : (mLF g.2.2.2.2.1).lookup j = some (ci, f, q)) (hk : m.1 x = some (.inr ci) ∧ x ≠ 0) (hn : narrow (mTy ci f) v = v) (ht : fits (mTy ci f) v = true) (hi : ((mCl[ci]?).map (fun q => (q.2.1 f).2.2.2)) = some true → g.2.2.2.2.2.2.2 = true ∧ g.2.2.2.2.2.2.1 = ci) (k : mEs d mi b g (pc', L, S, mSetF m x f v) Q) : mEs d mi b g (pc, L, v :: .ref x :: S, m) Q := by
  subst hp
  exact mEs.w hd (Or.inl rfl) ⟨ci, f, q, hf, ⟨hk.1, hk.2, hn, ht, hi⟩, k⟩
theorem e_iaload {j : Int32} {a n : Nat} {v : Int32} (hd : decode g.2.1 pc = .ok (.iaload, 1)) (hp : pc + 1 = pc') (ha : m.1 a = some (.inl (.int, n))) (h0 : a ≠ 0 ∨ mi = 0) (hi : mIn j n = true) (hv : m.2.2.1 a j.toNatClampNeg = v) (k : mEs d mi b g (pc', L, .int v :: S, m) Q) : mEs d mi b g (pc, L, .int j :: .ref a :: S, m) Q := by
  subst hp
  exact mEs.w hd (Or.inl rfl) ⟨_, n, ha, (by simp only [Bool.and_eq_true, Bool.or_eq_true, bne_iff_ne, beq_iff_eq]; exact ⟨⟨rfl, hi⟩, h0⟩), v, hv, k⟩
theorem e_caload {j : Int32} {a n : Nat} {v : Int32} (hd : decode g.2.1 pc = .ok (.caload, 1)) (hp : pc + 1 = pc') (ha : m.1 a = some (.inl (.char, n))) (h0 : a ≠ 0 ∨ mi = 0) (hi : mIn j n = true) (hv : m.2.2.1 a j.toNatClampNeg = v) (k : mEs d mi b g (pc', L, .int v :: S, m) Q) : mEs d mi b g (pc, L, .int j :: .ref a :: S, m) Q := by
  subst hp
  exact mEs.w hd (Or.inl rfl) ⟨_, n, ha, (by simp only [Bool.and_eq_true, Bool.or_eq_true, bne_iff_ne, beq_iff_eq]; exact ⟨⟨rfl, hi⟩, h0⟩), v, hv, k⟩
theorem e_baload {j : Int32} {a n : Nat} {v : Int32} (hd : decode g.2.1 pc = .ok (.baload, 1)) (hp : pc + 1 = pc') (ha : m.1 a = some (.inl (.byte, n))) (h0 : a ≠ 0 ∨ mi = 0) (hi : mIn j n = true) (hv : m.2.2.1 a j.toNatClampNeg = v) (k : mEs d mi b g (pc', L, .int v :: S, m) Q) : mEs d mi b g (pc, L, .int j :: .ref a :: S, m) Q := by
  subst hp
  exact mEs.w hd (Or.inl rfl) ⟨_, n, ha, (by simp only [Bool.and_eq_true, Bool.or_eq_true, bne_iff_ne, beq_iff_eq]; exact ⟨⟨rfl, hi⟩, h0⟩), v, hv, k⟩
theorem e_zaload {j : Int32} {a n : Nat} {v : Int32} (hd : decode g.2.1 pc = .ok (.baload, 1)) (hp : pc + 1 = pc') (ha : m.1 a = some (.inl (.boolean, n))) (h0 : a ≠ 0 ∨ mi = 0) (hi : mIn j n = true) (hv : m.2.2.1 a j.toNatClampNeg = v) (k : mEs d mi b g (pc', L, .int v :: S, m) Q) : mEs d mi b g (pc, L, .int j :: .ref a :: S, m) Q := by
  subst hp
  exact mEs.w hd (Or.inl rfl) ⟨_, n, ha, (by simp only [Bool.and_eq_true, Bool.or_eq_true, bne_iff_ne, beq_iff_eq]; exact ⟨⟨rfl, hi⟩, h0⟩), v, hv, k⟩
theorem e_laload {j : Int32} {a n : Nat} {v : Int64} (hd : decode g.2.1 pc = .ok (.laload, 1)) (hp : pc + 1 = pc') (ha : m.1 a = some (.inl (.long, n))) (h0 : a ≠ 0) (hi : mIn j n = true) (hv : m.2.2.2.1 a j.toNatClampNeg = v) (k : mEs d mi b g (pc', L, .long v :: S, m) Q) : mEs d mi b g (pc, L, .int j :: .ref a :: S, m) Q := by
  subst hp
  exact mEs.w hd (Or.inl rfl) ⟨n, ha, (by simp only [Bool.and_eq_true, bne_iff_ne]; exact ⟨hi, h0⟩), v, hv, k⟩
theorem e_iastore {j x : Int32} {a n : Nat} {v : Int32} (hd : decode g.2.1 pc = .ok (.iastore, 1)) (hp : pc + 1 = pc') (ha : m.1 a = some (.inl (.int, n))) (h0 : a ≠ 0) (hi : mIn j n = true) (hv : vp_nar .int x = v) (k : mEs d mi b g (pc', L, S, mSetI m a (upd (m.2.2.1 a) j.toNatClampNeg v)) Q) : mEs d mi b g (pc, L, .int x :: .int j :: .ref a :: S, m) Q := by
  subst hp
  exact mEs.w hd (Or.inl rfl) ⟨_, n, ha, (by simp only [Bool.and_eq_true, bne_iff_ne]; exact ⟨⟨rfl, hi⟩, h0⟩), v, hv, k⟩
theorem e_castore {j x : Int32} {a n : Nat} {v : Int32} (hd : decode g.2.1 pc = .ok (.castore, 1)) (hp : pc + 1 = pc') (ha : m.1 a = some (.inl (.char, n))) (h0 : a ≠ 0) (hi : mIn j n = true) (hv : vp_nar .char x = v) (k : mEs d mi b g (pc', L, S, mSetI m a (upd (m.2.2.1 a) j.toNatClampNeg v)) Q) : mEs d mi b g (pc, L, .int x :: .int j :: .ref a :: S, m) Q := by
  subst hp
  exact mEs.w hd (Or.inl rfl) ⟨_, n, ha, (by simp only [Bool.and_eq_true, bne_iff_ne]; exact ⟨⟨rfl, hi⟩, h0⟩), v, hv, k⟩
theorem e_bastore {j x : Int32} {a n : Nat} {v : Int32} (hd : decode g.2.1 pc = .ok (.bastore, 1)) (hp : pc + 1 = pc') (ha : m.1 a = some (.inl (.byte, n))) (h0 : a ≠ 0) (hi : mIn j n = true) (hv : vp_nar .byte x = v) (k : mEs d mi b g (pc', L, S, mSetI m a (upd (m.2.2.1 a) j.toNatClampNeg v)) Q) : mEs d mi b g (pc, L, .int x :: .int j :: .ref a :: S, m) Q := by
  subst hp
  exact mEs.w hd (Or.inl rfl) ⟨_, n, ha, (by simp only [Bool.and_eq_true, bne_iff_ne]; exact ⟨⟨rfl, hi⟩, h0⟩), v, hv, k⟩
theorem e_zastore {j x : Int32} {a n : Nat} {v : Int32} (hd : decode g.2.1 pc = .ok (.bastore, 1)) (hp : pc + 1 = pc') (ha : m.1 a = some (.inl (.boolean, n))) (h0 : a ≠ 0) (hi : mIn j n = true) (hv : vp_nar .boolean x = v) (k : mEs d mi b g (pc', L, S, mSetI m a (upd (m.2.2.1 a) j.toNatClampNeg v)) Q) : mEs d mi b g (pc, L, .int x :: .int j :: .ref a :: S, m) Q := by
  subst hp
  exact mEs.w hd (Or.inl rfl) ⟨_, n, ha, (by simp only [Bool.and_eq_true, bne_iff_ne]; exact ⟨⟨rfl, hi⟩, h0⟩), v, hv, k⟩
theorem e_lastore {j : Int32} {x : Int64} {a n : Nat} (hd : decode g.2.1 pc = .ok (.lastore, 1)) (hp : pc + 1 = pc') (ha : m.1 a = some (.inl (.long, n))) (h0 : a ≠ 0) (hi : mIn j n = true) (k : mEs d mi b g (pc', L, S, mSetJ m a (vp_updL (m.2.2.2.1 a) j.toNatClampNeg x)) Q) : mEs d mi b g (pc, L, .long x :: .int j :: .ref a :: S, m) Q := by
  subst hp
  exact mEs.w hd (Or.inl rfl) ⟨n, ha, (by simp only [Bool.and_eq_true, bne_iff_ne]; exact ⟨hi, h0⟩), k⟩
theorem e_arraylength {a n : Nat} {ty : FieldType} {v : Int32} (hd : decode g.2.1 pc = .ok (.arraylength, 1)) (hp : pc + 1 = pc') (ha : m.1 a = some (.inl (ty, n))) (h0 : a ≠ 0 ∨ mi = 0) (hn : Int32.ofNat n = v) (k : mEs d mi b g (pc', L, .int v :: S, m) Q) : mEs d mi b g (pc, L, .ref a :: S, m) Q := by
  subst hp
  exact mEs.w hd (Or.inl rfl) ⟨ty, n, ha, (by simp only [Bool.or_eq_true, bne_iff_ne, beq_iff_eq]; exact h0), by rw [hn]; exact k⟩
theorem e_new {j ci q s x : Nat} (hd : decode g.2.1 pc = .ok (.new j, 3)) (hp : pc + 3 = pc') (hc : (mLC g.2.2.2.2.1).lookup j = some (ci, q)) (hs : (mLN mi).lookup pc = some s) (hx : 64 * b + s = x) (h0 : m.1 x = none ∧ x ≠ 0) (k : mEs d mi b g (pc', L, .ref x :: S, mNewO m x ci) Q) : mEs d mi b g (pc, L, S, m) Q := by
  subst hp
  exact mEs.w hd (Or.inl rfl) ⟨ci, q, s, x, hc, hs, hx, h0, k⟩
theorem e_newarray {t : ArrayType} {s x n : Nat} {z : Int32} (hd : decode g.2.1 pc = .ok (.newarray t, 2)) (hp : pc + 2 = pc') (hs : (mLN mi).lookup pc = some s) (hx : 64 * b + s = x) (hn : z.toNatClampNeg = n ∧ ¬ z < 0 ∧ n ≤ 60000) (hm : mArP (newarray.typeOf t) ≠ 0) (h0 : m.1 x = none ∧ x ≠ 0) (k : mEs d mi b g (pc', L, .ref x :: S, mNewA m x (newarray.typeOf t) n) Q) : mEs d mi b g (pc, L, .int z :: S, m) Q := by
  subst hp
  exact mEs.w hd (Or.inl rfl) ⟨s, x, n, hs, hx, hn.1, ⟨h0.1, h0.2, hn.2.1, hn.2.2, hm⟩, k⟩
theorem e_objInit {j q x : Nat} (hd : decode g.2.1 pc = .ok (.invokespecial j, 3)) (hp : pc + 3 = pc') (hl : (mLM g.2.2.2.2.1).lookup j = some (901, q, 0)) (hr : 1 ≤ d ∧ (S.map Value.category).sum ≤ 8) (k : mEs d mi b g (pc', L, S, m) Q) : mEs d mi b g (pc, L, .ref x :: S, m) Q := by
  subst hp
  exact mEs.w hd (Or.inl rfl) ⟨q, hl, hr, k⟩
theorem e_copy {j q a0 a1 n0 n1 : Nat} {sp dp n : Int32} (hd : decode g.2.1 pc = .ok (.invokestatic j, 3)) (hp : pc + 3 = pc') (hl : (mLM g.2.2.2.2.1).lookup j = some (902, q, 0)) (h1 : m.1 a0 = some (.inl (.int, n0)) ∧ a0 ≠ 0) (h2 : m.1 a1 = some (.inl (.int, n1)) ∧ a1 ≠ 0) (h3 : ¬ sp < 0 ∧ ¬ dp < 0 ∧ ¬ n < 0 ∧ sp.toNatClampNeg + n.toNatClampNeg ≤ n0 ∧ dp.toNatClampNeg + n.toNatClampNeg ≤ n1) (hr : 1 ≤ d ∧ (S.map Value.category).sum ≤ 8) (k : mEs d mi b g (pc', L, S, mSetI m a1 (va_cpy (m.2.2.1 a0) (m.2.2.1 a1) sp.toNatClampNeg dp.toNatClampNeg n.toNatClampNeg)) Q) : mEs d mi b g (pc, L, .int n :: .int dp :: .ref a1 :: .int sp :: .ref a0 :: S, m) Q := by
  subst hp
  exact mEs.w hd (Or.inl rfl) ⟨902, q, hl, n0, n1, h1.1, h2.1, (by simp only [Bool.and_eq_true, bne_iff_ne, Bool.not_eq_true', decide_eq_false_iff_not, decide_eq_true_eq]; exact ⟨⟨⟨⟨⟨⟨⟨⟨h1.2, h2.2⟩, h3.1⟩, h3.2.1⟩, h3.2.2.1⟩, h3.2.2.2.1⟩, h3.2.2.2.2⟩, hr.1⟩, hr.2⟩), k⟩
theorem e_max {j q : Nat} {x y : Int32} (hd : decode g.2.1 pc = .ok (.invokestatic j, 3)) (hp : pc + 3 = pc') (hl : (mLM g.2.2.2.2.1).lookup j = some (903, q, 0)) (hr : 1 ≤ d ∧ (S.map Value.category).sum ≤ 8) (k : mEs d mi b g (pc', L, .int (if x < y then y else x) :: S, m) Q) : mEs d mi b g (pc, L, .int y :: .int x :: S, m) Q := by
  subst hp
  exact mEs.w hd (Or.inl rfl) ⟨903, q, hl, hr, k⟩
theorem e_minL {j q : Nat} {x y : Int64} (hd : decode g.2.1 pc = .ok (.invokestatic j, 3)) (hp : pc + 3 = pc') (hl : (mLM g.2.2.2.2.1).lookup j = some (904, q, 0)) (hr : 1 ≤ d ∧ (S.map Value.category).sum ≤ 8) (k : mEs d mi b g (pc', L, .long (if y < x then y else x) :: S, m) Q) : mEs d mi b g (pc, L, .long y :: .long x :: S, m) Q := by
  subst hp
  exact mEs.w hd (Or.inl rfl) ⟨904, q, hl, hr, k⟩
theorem e_absL {j q : Nat} {x : Int64} (hd : decode g.2.1 pc = .ok (.invokestatic j, 3)) (hp : pc + 3 = pc') (hl : (mLM g.2.2.2.2.1).lookup j = some (905, q, 0)) (hr : 1 ≤ d ∧ (S.map Value.category).sum ≤ 8) (k : mEs d mi b g (pc', L, .long (if 0 < x then x else -x) :: S, m) Q) : mEs d mi b g (pc, L, .long x :: S, m) Q := by
  subst hp
  exact mEs.w hd (Or.inl rfl) ⟨905, q, hl, hr, k⟩
theorem e_ireturn {v : Int32} {ty : FieldType} (hd : decode g.2.1 pc = .ok (.ireturn, 1)) (hr : g.2.2.2.1 = some ty) (hn : narrow ty (.int v) = .int v ∧ ty ≠ .long) (k : Q (some (.int v)) m) : mEs d mi b g (pc, L, [.int v], m) Q := mEs.w hd (Or.inl rfl) (by show (match [Value.int v], g.2.2.2.1 with | [.int v], some ty => _ | _, _ => False); rw [hr]; exact ⟨hn, k⟩)
theorem e_return (hd : decode g.2.1 pc = .ok (.return_, 1)) (hr : g.2.2.2.1 = none) (k : Q none m) : mEs d mi b g (pc, L, [], m) Q := mEs.w hd (Or.inl rfl) (by show (match ([] : List Value), g.2.2.2.1 with | [], none => _ | _, _ => False); rw [hr]; exact k)
theorem e_lreturn {v : Int64} (hd : decode g.2.1 pc = .ok (.lreturn, 1)) (hr : g.2.2.2.1 = some .long) (k : Q (some (.long v)) m) : mEs d mi b g (pc, L, [.long v], m) Q := mEs.w hd (Or.inl rfl) (by show (match [Value.long v], g.2.2.2.1 with | [.long v], some .long => _ | _, _ => False); rw [hr]; exact k)
theorem e_areturn {v : Nat} {C : String} (hd : decode g.2.1 pc = .ok (.areturn, 1)) (hr : g.2.2.2.1 = some (.object C)) (k : Q (some (.ref v)) m) : mEs d mi b g (pc, L, [.ref v], m) Q := mEs.w hd (Or.inl rfl) (by show (match [Value.ref v], g.2.2.2.1 with | [.ref v], some (.object _) => _ | _, _ => False); rw [hr]; exact k)
/-- a call of a method of the tables: As are its arguments in their order -/
theorem e_call {i : Instr} {kind cm : Nat} {g1 : mG} {As rest : List Value} (hd : decode g.2.1 pc = .ok (i, 3)) (hi : ∀ cal, mStep cal d mi b g i pc L (As.reverse ++ rest) m = mInv cal d kind cm pc L (As.reverse ++ rest) m) (hl : mLen i = 3) (hg : mGm[cm]? = some g1) (h0 : cm ≠ 0) (hn : As.length = g1.2.2.2.2.2.1) (hs : (rest.map Value.category).sum ≤ 8) (hk : mKok kind g1 As m = true) (hp : pc + 3 = pc')
    (k : mEv d cm As m (fun r m' => mEs d mi b g (pc', L, r.toList ++ rest, m') Q)) : mEs d mi b g (pc, L, As.reverse ++ rest, m) Q := by
  obtain ⟨N0, r, m', ⟨N1, r1, m1, hq, h2⟩, h1⟩ := k
  subst hp
  refine mEs.go (st' := (pc + 3, L, r.toList ++ rest, m')) hd (Or.inl hl.symm) N0 (fun N hN => ?_) ⟨N1, r1, m1, hq, h2⟩
  rw [hi]
  have hlt := (mBn_reg hg).2
  have e1 : (As.reverse ++ rest).take g1.2.2.2.2.2.1 = As.reverse := by rw [← hn, ← List.length_reverse, List.take_left']; rfl
  have e2 : (As.reverse ++ rest).drop g1.2.2.2.2.2.1 = rest := by rw [← hn, ← List.length_reverse, List.drop_left']; rfl
  unfold mInv
  rw [if_neg (by omega), if_neg (by omega), if_neg (by omega), if_neg (by omega), if_neg (by omega), hg]
  dsimp only
  rw [e1, e2, List.reverse_reverse, if_pos ⟨h0, by rw [List.length_append, List.length_reverse]; omega, hs, hk⟩, h1 N hN]
  rfl
end MRW
