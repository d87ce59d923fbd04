-- methods
def mCd (p : Nat × Nat × Nat × Nat) : Option Cond := lw_tbl[p.1]?
def mCg (g : mG) : Option Cond := some (Cond.code g.1 g.2.1 g.2.2.1 g.2.2.2.1)
set_option maxRecDepth 100000 in
theorem t_gc0 : ((mGmP.tail.drop 0).take 20).map mCd = ((mGm.tail.drop 0).take 20).map mCg := by rfl
set_option maxRecDepth 100000 in
theorem t_gc1 : ((mGmP.tail.drop 20).take 20).map mCd = ((mGm.tail.drop 20).take 20).map mCg := by rfl
set_option maxRecDepth 100000 in
theorem t_gc2 : ((mGmP.tail.drop 40).take 20).map mCd = ((mGm.tail.drop 40).take 20).map mCg := by rfl
set_option maxRecDepth 100000 in
theorem t_gc3 : ((mGmP.tail.drop 60).take 20).map mCd = ((mGm.tail.drop 60).take 20).map mCg := by rfl
set_option maxRecDepth 100000 in
theorem t_gc4 : ((mGmP.tail.drop 80).take 20).map mCd = ((mGm.tail.drop 80).take 20).map mCg := by rfl
set_option maxRecDepth 100000 in
theorem t_gc5 : ((mGmP.tail.drop 100).take 20).map mCd = ((mGm.tail.drop 100).take 20).map mCg := by rfl
set_option maxRecDepth 100000 in
theorem t_gc6 : ((mGmP.tail.drop 120).take 20).map mCd = ((mGm.tail.drop 120).take 20).map mCg := by rfl
set_option maxRecDepth 100000 in
theorem t_gc7 : ((mGmP.tail.drop 140).take 20).map mCd = ((mGm.tail.drop 140).take 20).map mCg := by rfl
set_option maxRecDepth 100000 in
theorem t_gc8 : ((mGmP.tail.drop 160).take 20).map mCd = ((mGm.tail.drop 160).take 20).map mCg := by rfl
set_option maxRecDepth 100000 in
theorem t_gc9 : ((mGmP.tail.drop 180).take 20).map mCd = ((mGm.tail.drop 180).take 20).map mCg := by rfl
set_option maxRecDepth 100000 in
theorem t_gc10 : ((mGmP.tail.drop 200).take 20).map mCd = ((mGm.tail.drop 200).take 20).map mCg := by rfl
set_option maxRecDepth 100000 in
theorem t_gc11 : ((mGmP.tail.drop 220).take 20).map mCd = ((mGm.tail.drop 220).take 20).map mCg := by rfl
def mCkG (g : mG) (p : Nat × Nat × Nat × Nat) : Bool :=
  mAt p.2.1 (.initialized g.1.cls) && plainName g.1.cls && decide (mOw g.2.2.2.2.1 = g.1.cls) && decide (g.2.2.2.2.1 < 12) && decide (g.2.2.1 ≤ 40) && decide (g.1.cls ≠ "java/lang/invoke/MethodHandle" ∧ g.1.cls ≠ "java/lang/invoke/VarHandle") &&
  (if g.2.2.2.2.2.2.1 = 99 then mAt p.2.2.1 (.static g.1) && !g.2.2.2.2.2.2.2
   else mAt p.2.2.1 (.instanceMethod g.1) && decide ((mCl[g.2.2.2.2.2.2.1]?).map (fun q => q.1) = some g.1.cls) &&
    (if g.2.2.2.2.2.2.2 then decide (g.1.name = "<init>") && decide (g.2.2.2.1 = none) else mAt p.2.2.2 (.selects g.1.cls g.1 g.1)))
set_option maxRecDepth 100000 in
theorem t_Gall : (mGm.zip mGmP).tail.all (fun r => mCkG r.1 r.2) = true := by decide +kernel
