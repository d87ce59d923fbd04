/-! The methods of the class that make an object at its first use: by wip/whole/gen_now.py. -/
set_option maxRecDepth 20000 in
theorem nw39_new {d b x c : Nat} {m : mMem} {Q : Option Value → mMem → Prop} (hO : m.1 x = some (.inr 0) ∧ x ≠ 0) (hd : 2 ≤ d) (hb : b = x) (hc : 64 * x + 7 = c) (hf : m.2.1 x 9 = .null) (h0 : m.1 c = none) (h1 : ∀ r ∈ ow40, m.1 (64 * c + r.2.1) = none)
    (h : mEs d 39 b g39 (18, [some (.ref x)], [], (mSetF (ctM (mNewO m c 3) c ow40) x 9 (.ref c))) Q) : mEs d 39 b g39 (0, [some (.ref x)], [], m) Q := by
  have hx0 := hO.2
  refine e_aload_n (pc' := 1) (dAt D39 0 rfl) rfl rfl ?_
  refine e_getfield (pc' := 4) (dAt D39 1 rfl) rfl rfl hO hf ?_
  refine e_ifnonnullN (pc' := 7) (dAt D39 2 rfl) rfl ?_
  refine e_aload_n (pc' := 8) (dAt D39 3 rfl) rfl rfl ?_
  refine e_new (pc' := 11) (x := c) (dAt D39 4 rfl) rfl rfl rfl (by rw [hb]; exact hc) ⟨h0, by omega⟩ ?_
  refine e_dup (pc' := 12) (dAt D39 5 rfl) rfl rfl ?_
  have hN : (mNewO m c 3).1 c = some (.inr 3) ∧ c ≠ 0 := ⟨mRow_eq, by omega⟩
  refine e_call2 (As := [.ref c]) (rest := [.ref c, .ref x]) (ct40 hd hN (fun r hr => by show mRow m.1 c _ (64 * c + r.2.1) = none; rw [mRow_ne (by omega)]; exact h1 r hr) ?_) (dAt D39 6 rfl) (hi1 rfl) rfl G40 (by decide) rfl (Nat.le_of_ble_eq_true rfl) rfl rfl rfl
  have hX : (ctM (mNewO m c 3) c ow40).1 x = some (.inr 0) ∧ x ≠ 0 := ⟨by rw [ctM_1 ow40 _ (fun r _ => by omega)]; show mRow m.1 c _ x = _; rw [mRow_ne (by omega)]; exact hO.1, hx0⟩
  exact e_putfield (pc' := 18) (dAt D39 7 rfl) rfl rfl hX rfl rfl (fun z => by cases z) h
theorem nw39_old {d b x c : Nat} {m : mMem} {Q : Option Value → mMem → Prop} (hO : m.1 x = some (.inr 0) ∧ x ≠ 0) (hf : m.2.1 x 9 = .ref c) (h : mEs d 39 b g39 (18, [some (.ref x)], [], m) Q) : mEs d 39 b g39 (0, [some (.ref x)], [], m) Q := by
  refine e_aload_n (pc' := 1) (dAt D39 0 rfl) rfl rfl ?_
  refine e_getfield (pc' := 4) (dAt D39 1 rfl) rfl rfl hO hf ?_
  exact e_ifnonnullR (t := 18) (dAt D39 2 rfl) ⟨by decide, by decide⟩ h
theorem nw39_18 {d b x c n : Nat} {m : mMem} {Q : Option Value → mMem → Prop} (hT : mWT m) (hO : m.1 x = some (.inr 0) ∧ x ≠ 0) (hC : m.1 c = some (.inr 3) ∧ c ≠ 0) (hf : m.2.1 x 9 = .ref c) (ht : m.2.1 x 1 = .ref n)
    (h1 : iF m c 0 = iF m x 8 → Q (some (.ref c)) m) (h2 : ¬ iF m c 0 = iF m x 8 → mEv d 41 [.ref c, .ref n, .ref (64 * x + 4)] m (fun r m' => mEs d 39 b g39 (47, [some (.ref x)], r.toList ++ [], m') Q)) : mEs d 39 b g39 (18, [some (.ref x)], [], m) Q := by
  refine e_aload_n (pc' := 19) (dAt D39 8 rfl) rfl rfl ?_
  refine e_getfield (pc' := 22) (dAt D39 9 rfl) rfl rfl hO hf ?_
  refine e_getfield (pc' := 25) (dAt D39 10 rfl) rfl rfl hC (hT.int hC 0 (by decide)) ?_
  refine e_aload_n (pc' := 26) (dAt D39 11 rfl) rfl rfl ?_
  refine e_getfield (pc' := 29) (dAt D39 12 rfl) rfl rfl hO (hT.int hO 8 (by decide)) ?_
  refine e_icmp_eq (t := 58) (pc' := 32) (dAt D39 13 rfl) ⟨by decide, by decide⟩ rfl (fun q => ?_) (fun q => ?_)
  · refine e_aload_n (pc' := 59) (dAt D39 26 rfl) rfl rfl ?_
    refine e_getfield (pc' := 62) (dAt D39 27 rfl) rfl rfl hO hf ?_
    exact e_areturn (dAt D39 28 rfl) rfl (h1 q)
  · refine e_aload_n (pc' := 33) (dAt D39 14 rfl) rfl rfl ?_
    refine e_getfield (pc' := 36) (dAt D39 15 rfl) rfl rfl hO hf ?_
    refine e_aload_n (pc' := 37) (dAt D39 16 rfl) rfl rfl ?_
    refine e_getfield (pc' := 40) (dAt D39 17 rfl) rfl rfl hO ht ?_
    refine e_aload_n (pc' := 41) (dAt D39 18 rfl) rfl rfl ?_
    refine e_getfield (pc' := 44) (dAt D39 19 rfl) rfl rfl hO (hT.own hO 0 rfl) ?_
    exact e_call2 (As := [.ref c, .ref n, .ref (64 * x + 4)]) (rest := []) (h2 q) (dAt D39 20 rfl) (hi0 rfl) rfl G41 (by decide) rfl (Nat.le_of_ble_eq_true rfl) (kV hC rfl rfl) rfl rfl
theorem nw39_bld {d b x c : Nat} {m : mMem} {Q : Option Value → mMem → Prop} (hT : mWT m) (hO : m.1 x = some (.inr 0) ∧ x ≠ 0) (hC : m.1 c = some (.inr 3) ∧ c ≠ 0) (hf : m.2.1 x 9 = .ref c) (h : Q (some (.ref c)) (mSetF m c 0 (.int (iF m x 8)))) : mEs d 39 b g39 (47, [some (.ref x)], [], m) Q := by
  have hxc : x ≠ c := fun e => by rw [← e, hO.1] at hC; cases hC.1
  refine e_aload_n (pc' := 48) (dAt D39 21 rfl) rfl rfl ?_
  refine e_getfield (pc' := 51) (dAt D39 22 rfl) rfl rfl hO hf ?_
  refine e_aload_n (pc' := 52) (dAt D39 23 rfl) rfl rfl ?_
  refine e_getfield (pc' := 55) (dAt D39 24 rfl) rfl rfl hO (hT.int hO 8 (by decide)) ?_
  refine e_putfield (pc' := 58) (dAt D39 25 rfl) rfl rfl hC rfl rfl (fun z => by cases z) ?_
  refine e_aload_n (pc' := 59) (dAt D39 26 rfl) rfl rfl ?_
  refine e_getfield (pc' := 62) (v := .ref c) (dAt D39 27 rfl) rfl rfl hO (by rw [rdF_nk hxc]; exact hf) ?_
  exact e_areturn (dAt D39 28 rfl) rfl h
set_option maxRecDepth 20000 in
theorem nw58_new {d b x c : Nat} {m : mMem} {Q : Option Value → mMem → Prop} (hO : m.1 x = some (.inr 0) ∧ x ≠ 0) (hd : 2 ≤ d) (hb : b = x) (hc : 64 * x + 8 = c) (hf : m.2.1 x 10 = .null) (h0 : m.1 c = none) (h1 : ∀ r ∈ ow59, m.1 (64 * c + r.2.1) = none)
    (h : mEs d 58 b g58 (18, [some (.ref x)], [], (mSetF (ctM (mNewO m c 5) c ow59) x 10 (.ref c))) Q) : mEs d 58 b g58 (0, [some (.ref x)], [], m) Q := by
  have hx0 := hO.2
  refine e_aload_n (pc' := 1) (dAt D58 0 rfl) rfl rfl ?_
  refine e_getfield (pc' := 4) (dAt D58 1 rfl) rfl rfl hO hf ?_
  refine e_ifnonnullN (pc' := 7) (dAt D58 2 rfl) rfl ?_
  refine e_aload_n (pc' := 8) (dAt D58 3 rfl) rfl rfl ?_
  refine e_new (pc' := 11) (x := c) (dAt D58 4 rfl) rfl rfl rfl (by rw [hb]; exact hc) ⟨h0, by omega⟩ ?_
  refine e_dup (pc' := 12) (dAt D58 5 rfl) rfl rfl ?_
  have hN : (mNewO m c 5).1 c = some (.inr 5) ∧ c ≠ 0 := ⟨mRow_eq, by omega⟩
  refine e_call2 (As := [.ref c]) (rest := [.ref c, .ref x]) (ct59 hd hN (fun r hr => by show mRow m.1 c _ (64 * c + r.2.1) = none; rw [mRow_ne (by omega)]; exact h1 r hr) ?_) (dAt D58 6 rfl) (hi1 rfl) rfl G59 (by decide) rfl (Nat.le_of_ble_eq_true rfl) rfl rfl rfl
  have hX : (ctM (mNewO m c 5) c ow59).1 x = some (.inr 0) ∧ x ≠ 0 := ⟨by rw [ctM_1 ow59 _ (fun r _ => by omega)]; show mRow m.1 c _ x = _; rw [mRow_ne (by omega)]; exact hO.1, hx0⟩
  exact e_putfield (pc' := 18) (dAt D58 7 rfl) rfl rfl hX rfl rfl (fun z => by cases z) h
theorem nw58_old {d b x c : Nat} {m : mMem} {Q : Option Value → mMem → Prop} (hO : m.1 x = some (.inr 0) ∧ x ≠ 0) (hf : m.2.1 x 10 = .ref c) (h : mEs d 58 b g58 (18, [some (.ref x)], [], m) Q) : mEs d 58 b g58 (0, [some (.ref x)], [], m) Q := by
  refine e_aload_n (pc' := 1) (dAt D58 0 rfl) rfl rfl ?_
  refine e_getfield (pc' := 4) (dAt D58 1 rfl) rfl rfl hO hf ?_
  exact e_ifnonnullR (t := 18) (dAt D58 2 rfl) ⟨by decide, by decide⟩ h
theorem nw58_18 {d b x c n : Nat} {m : mMem} {Q : Option Value → mMem → Prop} (hT : mWT m) (hO : m.1 x = some (.inr 0) ∧ x ≠ 0) (hC : m.1 c = some (.inr 5) ∧ c ≠ 0) (hf : m.2.1 x 10 = .ref c) (ht : m.2.1 x 1 = .ref n)
    (h1 : iF m c 0 = iF m x 8 → Q (some (.ref c)) m) (h2 : ¬ iF m c 0 = iF m x 8 → mEv d 60 [.ref c, .ref n, .ref (64 * x + 4)] m (fun r m' => mEs d 58 b g58 (47, [some (.ref x)], r.toList ++ [], m') Q)) : mEs d 58 b g58 (18, [some (.ref x)], [], m) Q := by
  refine e_aload_n (pc' := 19) (dAt D58 8 rfl) rfl rfl ?_
  refine e_getfield (pc' := 22) (dAt D58 9 rfl) rfl rfl hO hf ?_
  refine e_getfield (pc' := 25) (dAt D58 10 rfl) rfl rfl hC (hT.int hC 0 (by decide)) ?_
  refine e_aload_n (pc' := 26) (dAt D58 11 rfl) rfl rfl ?_
  refine e_getfield (pc' := 29) (dAt D58 12 rfl) rfl rfl hO (hT.int hO 8 (by decide)) ?_
  refine e_icmp_eq (t := 58) (pc' := 32) (dAt D58 13 rfl) ⟨by decide, by decide⟩ rfl (fun q => ?_) (fun q => ?_)
  · refine e_aload_n (pc' := 59) (dAt D58 26 rfl) rfl rfl ?_
    refine e_getfield (pc' := 62) (dAt D58 27 rfl) rfl rfl hO hf ?_
    exact e_areturn (dAt D58 28 rfl) rfl (h1 q)
  · refine e_aload_n (pc' := 33) (dAt D58 14 rfl) rfl rfl ?_
    refine e_getfield (pc' := 36) (dAt D58 15 rfl) rfl rfl hO hf ?_
    refine e_aload_n (pc' := 37) (dAt D58 16 rfl) rfl rfl ?_
    refine e_getfield (pc' := 40) (dAt D58 17 rfl) rfl rfl hO ht ?_
    refine e_aload_n (pc' := 41) (dAt D58 18 rfl) rfl rfl ?_
    refine e_getfield (pc' := 44) (dAt D58 19 rfl) rfl rfl hO (hT.own hO 0 rfl) ?_
    exact e_call2 (As := [.ref c, .ref n, .ref (64 * x + 4)]) (rest := []) (h2 q) (dAt D58 20 rfl) (hi0 rfl) rfl G60 (by decide) rfl (Nat.le_of_ble_eq_true rfl) (kV hC rfl rfl) rfl rfl
theorem nw58_bld {d b x c : Nat} {m : mMem} {Q : Option Value → mMem → Prop} (hT : mWT m) (hO : m.1 x = some (.inr 0) ∧ x ≠ 0) (hC : m.1 c = some (.inr 5) ∧ c ≠ 0) (hf : m.2.1 x 10 = .ref c) (h : Q (some (.ref c)) (mSetF m c 0 (.int (iF m x 8)))) : mEs d 58 b g58 (47, [some (.ref x)], [], m) Q := by
  have hxc : x ≠ c := fun e => by rw [← e, hO.1] at hC; cases hC.1
  refine e_aload_n (pc' := 48) (dAt D58 21 rfl) rfl rfl ?_
  refine e_getfield (pc' := 51) (dAt D58 22 rfl) rfl rfl hO hf ?_
  refine e_aload_n (pc' := 52) (dAt D58 23 rfl) rfl rfl ?_
  refine e_getfield (pc' := 55) (dAt D58 24 rfl) rfl rfl hO (hT.int hO 8 (by decide)) ?_
  refine e_putfield (pc' := 58) (dAt D58 25 rfl) rfl rfl hC rfl rfl (fun z => by cases z) ?_
  refine e_aload_n (pc' := 59) (dAt D58 26 rfl) rfl rfl ?_
  refine e_getfield (pc' := 62) (v := .ref c) (dAt D58 27 rfl) rfl rfl hO (by rw [rdF_nk hxc]; exact hf) ?_
  exact e_areturn (dAt D58 28 rfl) rfl h
set_option maxRecDepth 20000 in
theorem nw79_new {d b x c : Nat} {m : mMem} {Q : Option Value → mMem → Prop} (hO : m.1 x = some (.inr 0) ∧ x ≠ 0) (hd : 2 ≤ d) (hb : b = x) (hc : 64 * x + 9 = c) (hf : m.2.1 x 11 = .null) (h0 : m.1 c = none) (h1 : ∀ r ∈ ow80, m.1 (64 * c + r.2.1) = none)
    (h : mEs d 79 b g79 (19, [some (.ref x)], [], (mSetF (mSetF (ctM (mNewO m c 4) c ow80) c 3 (.int 1)) x 11 (.ref c))) Q) : mEs d 79 b g79 (0, [some (.ref x)], [], m) Q := by
  have hx0 := hO.2
  refine e_aload_n (pc' := 1) (dAt D79 0 rfl) rfl rfl ?_
  refine e_getfield (pc' := 4) (dAt D79 1 rfl) rfl rfl hO hf ?_
  refine e_ifnonnullN (pc' := 7) (dAt D79 2 rfl) rfl ?_
  refine e_aload_n (pc' := 8) (dAt D79 3 rfl) rfl rfl ?_
  refine e_new (pc' := 11) (x := c) (dAt D79 4 rfl) rfl rfl rfl (by rw [hb]; exact hc) ⟨h0, by omega⟩ ?_
  refine e_dup (pc' := 12) (dAt D79 5 rfl) rfl rfl ?_
  refine e_iconst (pc' := 13) (v := 1) (dAt D79 6 rfl) rfl (by decide) ?_
  have hN : (mNewO m c 4).1 c = some (.inr 4) ∧ c ≠ 0 := ⟨mRow_eq, by omega⟩
  refine e_call2 (As := [.ref c, .int 1]) (rest := [.ref c, .ref x]) (ct80 hd hN (fun r hr => by show mRow m.1 c _ (64 * c + r.2.1) = none; rw [mRow_ne (by omega)]; exact h1 r hr) (Or.inr rfl) ?_) (dAt D79 7 rfl) (hi1 rfl) rfl G80 (by decide) rfl (Nat.le_of_ble_eq_true rfl) rfl rfl rfl
  have hX : (ctM (mNewO m c 4) c ow80).1 x = some (.inr 0) ∧ x ≠ 0 := ⟨by rw [ctM_1 ow80 _ (fun r _ => by omega)]; show mRow m.1 c _ x = _; rw [mRow_ne (by omega)]; exact hO.1, hx0⟩
  exact e_putfield (pc' := 19) (dAt D79 8 rfl) rfl rfl hX rfl rfl (fun z => by cases z) h
theorem nw79_old {d b x c : Nat} {m : mMem} {Q : Option Value → mMem → Prop} (hO : m.1 x = some (.inr 0) ∧ x ≠ 0) (hf : m.2.1 x 11 = .ref c) (h : mEs d 79 b g79 (19, [some (.ref x)], [], m) Q) : mEs d 79 b g79 (0, [some (.ref x)], [], m) Q := by
  refine e_aload_n (pc' := 1) (dAt D79 0 rfl) rfl rfl ?_
  refine e_getfield (pc' := 4) (dAt D79 1 rfl) rfl rfl hO hf ?_
  exact e_ifnonnullR (t := 19) (dAt D79 2 rfl) ⟨by decide, by decide⟩ h
theorem nw79_18 {d b x c n : Nat} {m : mMem} {Q : Option Value → mMem → Prop} (hT : mWT m) (hO : m.1 x = some (.inr 0) ∧ x ≠ 0) (hC : m.1 c = some (.inr 4) ∧ c ≠ 0) (hf : m.2.1 x 11 = .ref c) (ht : m.2.1 x 1 = .ref n)
    (h1 : iF m c 0 = iF m x 7 → Q (some (.ref c)) m) (h2 : ¬ iF m c 0 = iF m x 7 → mEv d 81 [.ref c, .ref n] m (fun r m' => mEs d 79 b g79 (44, [some (.ref x)], r.toList ++ [], m') Q)) : mEs d 79 b g79 (19, [some (.ref x)], [], m) Q := by
  refine e_aload_n (pc' := 20) (dAt D79 9 rfl) rfl rfl ?_
  refine e_getfield (pc' := 23) (dAt D79 10 rfl) rfl rfl hO hf ?_
  refine e_getfield (pc' := 26) (dAt D79 11 rfl) rfl rfl hC (hT.int hC 0 (by decide)) ?_
  refine e_aload_n (pc' := 27) (dAt D79 12 rfl) rfl rfl ?_
  refine e_getfield (pc' := 30) (dAt D79 13 rfl) rfl rfl hO (hT.int hO 7 (by decide)) ?_
  refine e_icmp_eq (t := 55) (pc' := 33) (dAt D79 14 rfl) ⟨by decide, by decide⟩ rfl (fun q => ?_) (fun q => ?_)
  · refine e_aload_n (pc' := 56) (dAt D79 25 rfl) rfl rfl ?_
    refine e_getfield (pc' := 59) (dAt D79 26 rfl) rfl rfl hO hf ?_
    exact e_areturn (dAt D79 27 rfl) rfl (h1 q)
  · refine e_aload_n (pc' := 34) (dAt D79 15 rfl) rfl rfl ?_
    refine e_getfield (pc' := 37) (dAt D79 16 rfl) rfl rfl hO hf ?_
    refine e_aload_n (pc' := 38) (dAt D79 17 rfl) rfl rfl ?_
    refine e_getfield (pc' := 41) (dAt D79 18 rfl) rfl rfl hO ht ?_
    exact e_call2 (As := [.ref c, .ref n]) (rest := []) (h2 q) (dAt D79 19 rfl) (hi0 rfl) rfl G81 (by decide) rfl (Nat.le_of_ble_eq_true rfl) (kV hC rfl rfl) rfl rfl
theorem nw79_bld {d b x c : Nat} {m : mMem} {Q : Option Value → mMem → Prop} (hT : mWT m) (hO : m.1 x = some (.inr 0) ∧ x ≠ 0) (hC : m.1 c = some (.inr 4) ∧ c ≠ 0) (hf : m.2.1 x 11 = .ref c) (h : Q (some (.ref c)) (mSetF m c 0 (.int (iF m x 7)))) : mEs d 79 b g79 (44, [some (.ref x)], [], m) Q := by
  have hxc : x ≠ c := fun e => by rw [← e, hO.1] at hC; cases hC.1
  refine e_aload_n (pc' := 45) (dAt D79 20 rfl) rfl rfl ?_
  refine e_getfield (pc' := 48) (dAt D79 21 rfl) rfl rfl hO hf ?_
  refine e_aload_n (pc' := 49) (dAt D79 22 rfl) rfl rfl ?_
  refine e_getfield (pc' := 52) (dAt D79 23 rfl) rfl rfl hO (hT.int hO 7 (by decide)) ?_
  refine e_putfield (pc' := 55) (dAt D79 24 rfl) rfl rfl hC rfl rfl (fun z => by cases z) ?_
  refine e_aload_n (pc' := 56) (dAt D79 25 rfl) rfl rfl ?_
  refine e_getfield (pc' := 59) (v := .ref c) (dAt D79 26 rfl) rfl rfl hO (by rw [rdF_nk hxc]; exact hf) ?_
  exact e_areturn (dAt D79 27 rfl) rfl h
set_option maxRecDepth 20000 in
theorem nw92_new {d b x c : Nat} {m : mMem} {Q : Option Value → mMem → Prop} (hO : m.1 x = some (.inr 0) ∧ x ≠ 0) (hd : 2 ≤ d) (hb : b = x) (hc : 64 * x + 10 = c) (hf : m.2.1 x 12 = .null) (h0 : m.1 c = none) (h1 : ∀ r ∈ ow80, m.1 (64 * c + r.2.1) = none)
    (h : mEs d 92 b g92 (19, [some (.ref x)], [], (mSetF (mSetF (ctM (mNewO m c 4) c ow80) c 3 (.int 0)) x 12 (.ref c))) Q) : mEs d 92 b g92 (0, [some (.ref x)], [], m) Q := by
  have hx0 := hO.2
  refine e_aload_n (pc' := 1) (dAt D92 0 rfl) rfl rfl ?_
  refine e_getfield (pc' := 4) (dAt D92 1 rfl) rfl rfl hO hf ?_
  refine e_ifnonnullN (pc' := 7) (dAt D92 2 rfl) rfl ?_
  refine e_aload_n (pc' := 8) (dAt D92 3 rfl) rfl rfl ?_
  refine e_new (pc' := 11) (x := c) (dAt D92 4 rfl) rfl rfl rfl (by rw [hb]; exact hc) ⟨h0, by omega⟩ ?_
  refine e_dup (pc' := 12) (dAt D92 5 rfl) rfl rfl ?_
  refine e_iconst (pc' := 13) (v := 0) (dAt D92 6 rfl) rfl (by decide) ?_
  have hN : (mNewO m c 4).1 c = some (.inr 4) ∧ c ≠ 0 := ⟨mRow_eq, by omega⟩
  refine e_call2 (As := [.ref c, .int 0]) (rest := [.ref c, .ref x]) (ct80 hd hN (fun r hr => by show mRow m.1 c _ (64 * c + r.2.1) = none; rw [mRow_ne (by omega)]; exact h1 r hr) (Or.inl rfl) ?_) (dAt D92 7 rfl) (hi1 rfl) rfl G80 (by decide) rfl (Nat.le_of_ble_eq_true rfl) rfl rfl rfl
  have hX : (ctM (mNewO m c 4) c ow80).1 x = some (.inr 0) ∧ x ≠ 0 := ⟨by rw [ctM_1 ow80 _ (fun r _ => by omega)]; show mRow m.1 c _ x = _; rw [mRow_ne (by omega)]; exact hO.1, hx0⟩
  exact e_putfield (pc' := 19) (dAt D92 8 rfl) rfl rfl hX rfl rfl (fun z => by cases z) h
theorem nw92_old {d b x c : Nat} {m : mMem} {Q : Option Value → mMem → Prop} (hO : m.1 x = some (.inr 0) ∧ x ≠ 0) (hf : m.2.1 x 12 = .ref c) (h : mEs d 92 b g92 (19, [some (.ref x)], [], m) Q) : mEs d 92 b g92 (0, [some (.ref x)], [], m) Q := by
  refine e_aload_n (pc' := 1) (dAt D92 0 rfl) rfl rfl ?_
  refine e_getfield (pc' := 4) (dAt D92 1 rfl) rfl rfl hO hf ?_
  exact e_ifnonnullR (t := 19) (dAt D92 2 rfl) ⟨by decide, by decide⟩ h
theorem nw92_18 {d b x c n : Nat} {m : mMem} {Q : Option Value → mMem → Prop} (hT : mWT m) (hO : m.1 x = some (.inr 0) ∧ x ≠ 0) (hC : m.1 c = some (.inr 4) ∧ c ≠ 0) (hf : m.2.1 x 12 = .ref c) (ht : m.2.1 x 1 = .ref n)
    (h1 : iF m c 0 = iF m x 7 → Q (some (.ref c)) m) (h2 : ¬ iF m c 0 = iF m x 7 → mEv d 81 [.ref c, .ref n] m (fun r m' => mEs d 92 b g92 (44, [some (.ref x)], r.toList ++ [], m') Q)) : mEs d 92 b g92 (19, [some (.ref x)], [], m) Q := by
  refine e_aload_n (pc' := 20) (dAt D92 9 rfl) rfl rfl ?_
  refine e_getfield (pc' := 23) (dAt D92 10 rfl) rfl rfl hO hf ?_
  refine e_getfield (pc' := 26) (dAt D92 11 rfl) rfl rfl hC (hT.int hC 0 (by decide)) ?_
  refine e_aload_n (pc' := 27) (dAt D92 12 rfl) rfl rfl ?_
  refine e_getfield (pc' := 30) (dAt D92 13 rfl) rfl rfl hO (hT.int hO 7 (by decide)) ?_
  refine e_icmp_eq (t := 55) (pc' := 33) (dAt D92 14 rfl) ⟨by decide, by decide⟩ rfl (fun q => ?_) (fun q => ?_)
  · refine e_aload_n (pc' := 56) (dAt D92 25 rfl) rfl rfl ?_
    refine e_getfield (pc' := 59) (dAt D92 26 rfl) rfl rfl hO hf ?_
    exact e_areturn (dAt D92 27 rfl) rfl (h1 q)
  · refine e_aload_n (pc' := 34) (dAt D92 15 rfl) rfl rfl ?_
    refine e_getfield (pc' := 37) (dAt D92 16 rfl) rfl rfl hO hf ?_
    refine e_aload_n (pc' := 38) (dAt D92 17 rfl) rfl rfl ?_
    refine e_getfield (pc' := 41) (dAt D92 18 rfl) rfl rfl hO ht ?_
    exact e_call2 (As := [.ref c, .ref n]) (rest := []) (h2 q) (dAt D92 19 rfl) (hi0 rfl) rfl G81 (by decide) rfl (Nat.le_of_ble_eq_true rfl) (kV hC rfl rfl) rfl rfl
theorem nw92_bld {d b x c : Nat} {m : mMem} {Q : Option Value → mMem → Prop} (hT : mWT m) (hO : m.1 x = some (.inr 0) ∧ x ≠ 0) (hC : m.1 c = some (.inr 4) ∧ c ≠ 0) (hf : m.2.1 x 12 = .ref c) (h : Q (some (.ref c)) (mSetF m c 0 (.int (iF m x 7)))) : mEs d 92 b g92 (44, [some (.ref x)], [], m) Q := by
  have hxc : x ≠ c := fun e => by rw [← e, hO.1] at hC; cases hC.1
  refine e_aload_n (pc' := 45) (dAt D92 20 rfl) rfl rfl ?_
  refine e_getfield (pc' := 48) (dAt D92 21 rfl) rfl rfl hO hf ?_
  refine e_aload_n (pc' := 49) (dAt D92 22 rfl) rfl rfl ?_
  refine e_getfield (pc' := 52) (dAt D92 23 rfl) rfl rfl hO (hT.int hO 7 (by decide)) ?_
  refine e_putfield (pc' := 55) (dAt D92 24 rfl) rfl rfl hC rfl rfl (fun z => by cases z) ?_
  refine e_aload_n (pc' := 56) (dAt D92 25 rfl) rfl rfl ?_
  refine e_getfield (pc' := 59) (v := .ref c) (dAt D92 26 rfl) rfl rfl hO (by rw [rdF_nk hxc]; exact hf) ?_
  exact e_areturn (dAt D92 27 rfl) rfl h
set_option maxRecDepth 20000 in
theorem nw97_new {d b x c : Nat} {m : mMem} {Q : Option Value → mMem → Prop} (hO : m.1 x = some (.inr 0) ∧ x ≠ 0) (hd : 2 ≤ d) (hb : b = x) (hc : 64 * x + 11 = c) (hf : m.2.1 x 13 = .null) (h0 : m.1 c = none) (h1 : ∀ r ∈ ow98, m.1 (64 * c + r.2.1) = none)
    (h : mEs d 97 b g97 (18, [some (.ref x)], [], (mSetF (ctM (mNewO m c 6) c ow98) x 13 (.ref c))) Q) : mEs d 97 b g97 (0, [some (.ref x)], [], m) Q := by
  have hx0 := hO.2
  refine e_aload_n (pc' := 1) (dAt D97 0 rfl) rfl rfl ?_
  refine e_getfield (pc' := 4) (dAt D97 1 rfl) rfl rfl hO hf ?_
  refine e_ifnonnullN (pc' := 7) (dAt D97 2 rfl) rfl ?_
  refine e_aload_n (pc' := 8) (dAt D97 3 rfl) rfl rfl ?_
  refine e_new (pc' := 11) (x := c) (dAt D97 4 rfl) rfl rfl rfl (by rw [hb]; exact hc) ⟨h0, by omega⟩ ?_
  refine e_dup (pc' := 12) (dAt D97 5 rfl) rfl rfl ?_
  have hN : (mNewO m c 6).1 c = some (.inr 6) ∧ c ≠ 0 := ⟨mRow_eq, by omega⟩
  refine e_call2 (As := [.ref c]) (rest := [.ref c, .ref x]) (ct98 hd hN (fun r hr => by show mRow m.1 c _ (64 * c + r.2.1) = none; rw [mRow_ne (by omega)]; exact h1 r hr) ?_) (dAt D97 6 rfl) (hi1 rfl) rfl G98 (by decide) rfl (Nat.le_of_ble_eq_true rfl) rfl rfl rfl
  have hX : (ctM (mNewO m c 6) c ow98).1 x = some (.inr 0) ∧ x ≠ 0 := ⟨by rw [ctM_1 ow98 _ (fun r _ => by omega)]; show mRow m.1 c _ x = _; rw [mRow_ne (by omega)]; exact hO.1, hx0⟩
  exact e_putfield (pc' := 18) (dAt D97 7 rfl) rfl rfl hX rfl rfl (fun z => by cases z) h
theorem nw97_old {d b x c : Nat} {m : mMem} {Q : Option Value → mMem → Prop} (hO : m.1 x = some (.inr 0) ∧ x ≠ 0) (hf : m.2.1 x 13 = .ref c) (h : mEs d 97 b g97 (18, [some (.ref x)], [], m) Q) : mEs d 97 b g97 (0, [some (.ref x)], [], m) Q := by
  refine e_aload_n (pc' := 1) (dAt D97 0 rfl) rfl rfl ?_
  refine e_getfield (pc' := 4) (dAt D97 1 rfl) rfl rfl hO hf ?_
  exact e_ifnonnullR (t := 18) (dAt D97 2 rfl) ⟨by decide, by decide⟩ h
theorem nw97_18 {d b x c n : Nat} {m : mMem} {Q : Option Value → mMem → Prop} (hT : mWT m) (hO : m.1 x = some (.inr 0) ∧ x ≠ 0) (hC : m.1 c = some (.inr 6) ∧ c ≠ 0) (hf : m.2.1 x 13 = .ref c) (ht : m.2.1 x 1 = .ref n)
    (h1 : iF m c 0 = iF m x 7 → Q (some (.ref c)) m) (h2 : ¬ iF m c 0 = iF m x 7 → mEv d 99 [.ref c, .ref n] m (fun r m' => mEs d 97 b g97 (43, [some (.ref x)], r.toList ++ [], m') Q)) : mEs d 97 b g97 (18, [some (.ref x)], [], m) Q := by
  refine e_aload_n (pc' := 19) (dAt D97 8 rfl) rfl rfl ?_
  refine e_getfield (pc' := 22) (dAt D97 9 rfl) rfl rfl hO hf ?_
  refine e_getfield (pc' := 25) (dAt D97 10 rfl) rfl rfl hC (hT.int hC 0 (by decide)) ?_
  refine e_aload_n (pc' := 26) (dAt D97 11 rfl) rfl rfl ?_
  refine e_getfield (pc' := 29) (dAt D97 12 rfl) rfl rfl hO (hT.int hO 7 (by decide)) ?_
  refine e_icmp_eq (t := 54) (pc' := 32) (dAt D97 13 rfl) ⟨by decide, by decide⟩ rfl (fun q => ?_) (fun q => ?_)
  · refine e_aload_n (pc' := 55) (dAt D97 24 rfl) rfl rfl ?_
    refine e_getfield (pc' := 58) (dAt D97 25 rfl) rfl rfl hO hf ?_
    exact e_areturn (dAt D97 26 rfl) rfl (h1 q)
  · refine e_aload_n (pc' := 33) (dAt D97 14 rfl) rfl rfl ?_
    refine e_getfield (pc' := 36) (dAt D97 15 rfl) rfl rfl hO hf ?_
    refine e_aload_n (pc' := 37) (dAt D97 16 rfl) rfl rfl ?_
    refine e_getfield (pc' := 40) (dAt D97 17 rfl) rfl rfl hO ht ?_
    exact e_call2 (As := [.ref c, .ref n]) (rest := []) (h2 q) (dAt D97 18 rfl) (hi0 rfl) rfl G99 (by decide) rfl (Nat.le_of_ble_eq_true rfl) (kV hC rfl rfl) rfl rfl
theorem nw97_bld {d b x c : Nat} {m : mMem} {Q : Option Value → mMem → Prop} (hT : mWT m) (hO : m.1 x = some (.inr 0) ∧ x ≠ 0) (hC : m.1 c = some (.inr 6) ∧ c ≠ 0) (hf : m.2.1 x 13 = .ref c) (h : Q (some (.ref c)) (mSetF m c 0 (.int (iF m x 7)))) : mEs d 97 b g97 (43, [some (.ref x)], [], m) Q := by
  have hxc : x ≠ c := fun e => by rw [← e, hO.1] at hC; cases hC.1
  refine e_aload_n (pc' := 44) (dAt D97 19 rfl) rfl rfl ?_
  refine e_getfield (pc' := 47) (dAt D97 20 rfl) rfl rfl hO hf ?_
  refine e_aload_n (pc' := 48) (dAt D97 21 rfl) rfl rfl ?_
  refine e_getfield (pc' := 51) (dAt D97 22 rfl) rfl rfl hO (hT.int hO 7 (by decide)) ?_
  refine e_putfield (pc' := 54) (dAt D97 23 rfl) rfl rfl hC rfl rfl (fun z => by cases z) ?_
  refine e_aload_n (pc' := 55) (dAt D97 24 rfl) rfl rfl ?_
  refine e_getfield (pc' := 58) (v := .ref c) (dAt D97 25 rfl) rfl rfl hO (by rw [rdF_nk hxc]; exact hf) ?_
  exact e_areturn (dAt D97 26 rfl) rfl h
set_option maxRecDepth 20000 in
theorem nw121_new {d b x c : Nat} {m : mMem} {Q : Option Value → mMem → Prop} (hO : m.1 x = some (.inr 0) ∧ x ≠ 0) (hd : 2 ≤ d) (hb : b = x) (hc : 64 * x + 12 = c) (hf : m.2.1 x 14 = .null) (h0 : m.1 c = none) (h1 : ∀ r ∈ ow122, m.1 (64 * c + r.2.1) = none)
    (h : mEs d 121 b g121 (18, [some (.ref x)], [], (mSetF (ctM (mNewO m c 7) c ow122) x 14 (.ref c))) Q) : mEs d 121 b g121 (0, [some (.ref x)], [], m) Q := by
  have hx0 := hO.2
  refine e_aload_n (pc' := 1) (dAt D121 0 rfl) rfl rfl ?_
  refine e_getfield (pc' := 4) (dAt D121 1 rfl) rfl rfl hO hf ?_
  refine e_ifnonnullN (pc' := 7) (dAt D121 2 rfl) rfl ?_
  refine e_aload_n (pc' := 8) (dAt D121 3 rfl) rfl rfl ?_
  refine e_new (pc' := 11) (x := c) (dAt D121 4 rfl) rfl rfl rfl (by rw [hb]; exact hc) ⟨h0, by omega⟩ ?_
  refine e_dup (pc' := 12) (dAt D121 5 rfl) rfl rfl ?_
  have hN : (mNewO m c 7).1 c = some (.inr 7) ∧ c ≠ 0 := ⟨mRow_eq, by omega⟩
  refine e_call2 (As := [.ref c]) (rest := [.ref c, .ref x]) (ct122 hd hN (fun r hr => by show mRow m.1 c _ (64 * c + r.2.1) = none; rw [mRow_ne (by omega)]; exact h1 r hr) ?_) (dAt D121 6 rfl) (hi1 rfl) rfl G122 (by decide) rfl (Nat.le_of_ble_eq_true rfl) rfl rfl rfl
  have hX : (ctM (mNewO m c 7) c ow122).1 x = some (.inr 0) ∧ x ≠ 0 := ⟨by rw [ctM_1 ow122 _ (fun r _ => by omega)]; show mRow m.1 c _ x = _; rw [mRow_ne (by omega)]; exact hO.1, hx0⟩
  exact e_putfield (pc' := 18) (dAt D121 7 rfl) rfl rfl hX rfl rfl (fun z => by cases z) h
theorem nw121_old {d b x c : Nat} {m : mMem} {Q : Option Value → mMem → Prop} (hO : m.1 x = some (.inr 0) ∧ x ≠ 0) (hf : m.2.1 x 14 = .ref c) (h : mEs d 121 b g121 (18, [some (.ref x)], [], m) Q) : mEs d 121 b g121 (0, [some (.ref x)], [], m) Q := by
  refine e_aload_n (pc' := 1) (dAt D121 0 rfl) rfl rfl ?_
  refine e_getfield (pc' := 4) (dAt D121 1 rfl) rfl rfl hO hf ?_
  exact e_ifnonnullR (t := 18) (dAt D121 2 rfl) ⟨by decide, by decide⟩ h
theorem nw121_18 {d b x c n : Nat} {m : mMem} {Q : Option Value → mMem → Prop} (hT : mWT m) (hO : m.1 x = some (.inr 0) ∧ x ≠ 0) (hC : m.1 c = some (.inr 7) ∧ c ≠ 0) (hf : m.2.1 x 14 = .ref c) (ht : m.2.1 x 1 = .ref n)
    (h1 : iF m c 0 = iF m x 8 → Q (some (.ref c)) m) (h2 : ¬ iF m c 0 = iF m x 8 → mEv d 123 [.ref c, .ref n, .ref (64 * x + 4)] m (fun r m' => mEs d 121 b g121 (47, [some (.ref x)], r.toList ++ [], m') Q)) : mEs d 121 b g121 (18, [some (.ref x)], [], m) Q := by
  refine e_aload_n (pc' := 19) (dAt D121 8 rfl) rfl rfl ?_
  refine e_getfield (pc' := 22) (dAt D121 9 rfl) rfl rfl hO hf ?_
  refine e_getfield (pc' := 25) (dAt D121 10 rfl) rfl rfl hC (hT.int hC 0 (by decide)) ?_
  refine e_aload_n (pc' := 26) (dAt D121 11 rfl) rfl rfl ?_
  refine e_getfield (pc' := 29) (dAt D121 12 rfl) rfl rfl hO (hT.int hO 8 (by decide)) ?_
  refine e_icmp_eq (t := 58) (pc' := 32) (dAt D121 13 rfl) ⟨by decide, by decide⟩ rfl (fun q => ?_) (fun q => ?_)
  · refine e_aload_n (pc' := 59) (dAt D121 26 rfl) rfl rfl ?_
    refine e_getfield (pc' := 62) (dAt D121 27 rfl) rfl rfl hO hf ?_
    exact e_areturn (dAt D121 28 rfl) rfl (h1 q)
  · refine e_aload_n (pc' := 33) (dAt D121 14 rfl) rfl rfl ?_
    refine e_getfield (pc' := 36) (dAt D121 15 rfl) rfl rfl hO hf ?_
    refine e_aload_n (pc' := 37) (dAt D121 16 rfl) rfl rfl ?_
    refine e_getfield (pc' := 40) (dAt D121 17 rfl) rfl rfl hO ht ?_
    refine e_aload_n (pc' := 41) (dAt D121 18 rfl) rfl rfl ?_
    refine e_getfield (pc' := 44) (dAt D121 19 rfl) rfl rfl hO (hT.own hO 0 rfl) ?_
    exact e_call2 (As := [.ref c, .ref n, .ref (64 * x + 4)]) (rest := []) (h2 q) (dAt D121 20 rfl) (hi0 rfl) rfl G123 (by decide) rfl (Nat.le_of_ble_eq_true rfl) (kV hC rfl rfl) rfl rfl
theorem nw121_bld {d b x c : Nat} {m : mMem} {Q : Option Value → mMem → Prop} (hT : mWT m) (hO : m.1 x = some (.inr 0) ∧ x ≠ 0) (hC : m.1 c = some (.inr 7) ∧ c ≠ 0) (hf : m.2.1 x 14 = .ref c) (h : Q (some (.ref c)) (mSetF m c 0 (.int (iF m x 8)))) : mEs d 121 b g121 (47, [some (.ref x)], [], m) Q := by
  have hxc : x ≠ c := fun e => by rw [← e, hO.1] at hC; cases hC.1
  refine e_aload_n (pc' := 48) (dAt D121 21 rfl) rfl rfl ?_
  refine e_getfield (pc' := 51) (dAt D121 22 rfl) rfl rfl hO hf ?_
  refine e_aload_n (pc' := 52) (dAt D121 23 rfl) rfl rfl ?_
  refine e_getfield (pc' := 55) (dAt D121 24 rfl) rfl rfl hO (hT.int hO 8 (by decide)) ?_
  refine e_putfield (pc' := 58) (dAt D121 25 rfl) rfl rfl hC rfl rfl (fun z => by cases z) ?_
  refine e_aload_n (pc' := 59) (dAt D121 26 rfl) rfl rfl ?_
  refine e_getfield (pc' := 62) (v := .ref c) (dAt D121 27 rfl) rfl rfl hO (by rw [rdF_nk hxc]; exact hf) ?_
  exact e_areturn (dAt D121 28 rfl) rfl h
