/-! Words of the builtins: Object's constructor, arraycopy, Math. -/
def mAtP (i : Nat) (w : Cond) : Prop := lw_tbl[i]? = some w
theorem mAtP.mem {i : Nat} {w : Cond} (h : mAtP i w) : w ∈ lw_tbl := List.mem_of_getElem? h
set_option maxRecDepth 100000 in
theorem t_b1a : mAtP 137 (.instanceMethod objectInit) := by rfl
set_option maxRecDepth 100000 in
theorem t_b1b : mAtP 138 (.code objectInit ⟨#[0xb1]⟩ 1 none) := by rfl
set_option maxRecDepth 100000 in
theorem t_b2a : mAtP 312 (.native arraycopyName) := by rfl
set_option maxRecDepth 100000 in
theorem t_b2b : mAtP 311 (.static arraycopyName) := by rfl
set_option maxRecDepth 100000 in
theorem t_b2c : mAtP 120 (.initialized "java/lang/System") := by rfl
set_option maxRecDepth 100000 in
theorem t_b3 : mAtP 119 (.initialized "java/lang/Math") := by rfl
set_option maxRecDepth 100000 in
theorem t_b3a : mAtP 304 (.static Lib.Math.max.name) := by rfl
set_option maxRecDepth 100000 in
theorem t_b3b : mAtP 305 (.code Lib.Math.max.name Lib.Math.max.code 2 (some .int)) := by rfl
set_option maxRecDepth 100000 in
theorem t_b4a : mAtP 730 (.static Lib.MathLoose.min_long.x) := by rfl
set_option maxRecDepth 100000 in
theorem t_b4b : mAtP 731 (.code Lib.MathLoose.min_long.x Lib.MathLoose.min_long.code 4 (some .long)) := by rfl
set_option maxRecDepth 100000 in
theorem t_b5a : mAtP 738 (.static Lib.MathLoose.abs_long.x) := by rfl
set_option maxRecDepth 100000 in
theorem t_b5b : mAtP 739 (.code Lib.MathLoose.abs_long.x Lib.MathLoose.abs_long.code 2 (some .long)) := by rfl
