/-! THE MAKING: the constructors, and what the reference begins with -/
theorem ycal_I {P : YP} {l : Launch} {Rf Rl fr : Nat} {own : String} {y : MethodName} {b : ByteArray} {maxL idx tg mc n : Nat} {F : YF} (h : CtrY P l y b maxL none fr mc F) (hm : ymk mc F) (h1 : Cond.code y b maxL none ∈ xG) (h2 : Cond.initialized y.cls ∈ xG) (h3 : y.cls ≠ "java/lang/invoke/MethodHandle" ∧ y.cls ≠ "java/lang/invoke/VarHandle") (h4 : Cond.instanceMethod y ∈ xG) (h5 : fr + 1 ≤ Rf ∧ 8 + (maxL + 11) + (40 * fr + 100) ≤ Rl) (h6 : (xcl[tg]?).map (fun q => q.1) = some y.cls) (h7 : (parseMethodDescriptor y.desc).map (fun d => d.parameters.length) = some n) (h8 : idx < 100000) (h9 : y.name = "<init>") (h10 : Cond.methodLink own idx y ∈ xG ∨ (own, idx, y) ∈ ynk) : ycal P l Rf Rl own (idx, n + 1, tg, mc, F) :=
  ⟨y, b, maxL, none, fr, n, h, hm, h1, h2, h3, h4, h5, h6, rfl, h7, .inl ⟨h8, h9, rfl, h10⟩⟩
theorem ycal_V {P : YP} {l : Launch} {Rf Rl fr : Nat} {own : String} {y : MethodName} {b : ByteArray} {maxL idx tg mc n : Nat} {ret : Option FieldType} {F : YF} (h : CtrY P l y b maxL ret fr mc F) (hm : ymk mc F) (h1 : Cond.code y b maxL ret ∈ xG) (h2 : Cond.initialized y.cls ∈ xG) (h3 : y.cls ≠ "java/lang/invoke/MethodHandle" ∧ y.cls ≠ "java/lang/invoke/VarHandle") (h4 : Cond.instanceMethod y ∈ xG) (h5 : fr + 1 ≤ Rf ∧ 8 + (maxL + 11) + (40 * fr + 100) ≤ Rl) (h6 : (xcl[tg]?).map (fun q => q.1) = some y.cls) (h7 : (parseMethodDescriptor y.desc).map (fun d => d.parameters.length) = some n) (h9 : Cond.methodLink own idx y ∈ xG) (h10 : Cond.selects y.cls y y ∈ xG) : ycal P l Rf Rl own (idx + 100000, n + 1, tg, mc, F) :=
  ⟨y, b, maxL, ret, fr, n, h, hm, h1, h2, h3, h4, h5, h6, rfl, h7, .inr ⟨idx, rfl, h9, h10⟩⟩
def ty10_init : List XE := [(0, .aload_n 0, 0, 0, 0, 0, []), (1, .invokespecial 1, 0, 98, 0, 0, []), (4, .aload_n 0, 0, 0, 0, 0, []), (5, .sipush 1000, 0, 0, 1000, 0, []), (8, .newarray .char, 2, 0, 0, 0, []), (10, .putfield 9, 10, 0, 0, 0, []), (13, .return_, 0, 0, 0, 0, [])]
noncomputable def ey10_init : YN := []
noncomputable def yF10_init : YF := yrun ty10_init ey10_init 0 1 3000 1
def oy10_init : List Nat := [1]
def fy10_init : List (Nat × Nat × Nat) := [(9, 10, 0)]
def ly10_init : List (Nat × Int64) := []
def ny10_init : List (Nat × Nat) := []
def qy10_init : List (Nat × Nat) := []
set_option maxRecDepth 20000 in
theorem oyk10_init : ∀ i ∈ oy10_init, Cond.methodLink xR10 i Lib.objectInit ∈ xG := List.forall_mem_cons.mpr ⟨xG_k xT_1 39 rfl rfl, fun _ h => absurd h List.not_mem_nil⟩
set_option maxRecDepth 20000 in
theorem fyk10_init : ∀ q ∈ fy10_init, xfl xR10 q := List.forall_mem_cons.mpr ⟨⟨xR10, xT10, 8, rfl, by decide, xG_k xT_1 40 rfl rfl⟩, fun _ h => absurd h List.not_mem_nil⟩
set_option maxRecDepth 20000 in
theorem lyk10_init : ∀ q ∈ ly10_init, Cond.constantLong xR10 q.1 q.2 ∈ xG := fun _ h => absurd h List.not_mem_nil
set_option maxRecDepth 20000 in
theorem nyk10_init : ∀ q ∈ ny10_init, ynw xR10 q.1 q.2 := fun _ h => absurd h List.not_mem_nil
set_option maxRecDepth 20000 in
theorem qyk10_init : ∀ q ∈ qy10_init, Cond.classLink xR10 q.1 (yqr q.2) ∈ xG := fun _ h => absurd h List.not_mem_nil
set_option maxRecDepth 20000 in
theorem cy10_init (P : YP) (l : Launch) : CtrY P l (⟨xR10, "<init>", "()V"⟩ : MethodName) prog_12_method_1_code 1 none 1 1 yF10_init :=
  CtrY_of (tab := ty10_init) (env := ey10_init) (K := 3000) (oc := 10) (ol := oy10_init) (fl := fy10_init) (ll := ly10_init) (nl := ny10_init) (ql := qy10_init) (by decide +kernel) ⟨by decide +kernel, oyk10_init, fyk10_init, lyk10_init, nyk10_init, qyk10_init, fun _ => ⟨rfl, rfl⟩⟩ (by decide) (fun _ h => absurd h List.not_mem_nil) (by decide) ⟨_, _, rfl, rfl⟩ (.inl rfl)
def ty4_init : List XE := [(0, .aload_n 0, 0, 0, 0, 0, []), (1, .invokespecial 1, 0, 98, 0, 0, []), (4, .aload_n 0, 0, 0, 0, 0, []), (5, .sipush 1000, 0, 0, 1000, 0, []), (8, .newarray .int, 0, 0, 0, 0, []), (10, .putfield 9, 4, 0, 0, 0, []), (13, .aload_n 0, 0, 0, 0, 0, []), (14, .bipush 32, 0, 0, 32, 0, []), (16, .newarray .int, 0, 0, 0, 0, []), (18, .putfield 15, 4, 2, 0, 0, []), (21, .return_, 0, 0, 0, 0, [])]
noncomputable def ey4_init : YN := []
noncomputable def yF4_init : YF := yrun ty4_init ey4_init 0 2 3000 1
def oy4_init : List Nat := [1]
def fy4_init : List (Nat × Nat × Nat) := [(9, 4, 0), (15, 4, 2)]
def ly4_init : List (Nat × Int64) := []
def ny4_init : List (Nat × Nat) := []
def qy4_init : List (Nat × Nat) := []
set_option maxRecDepth 20000 in
theorem oyk4_init : ∀ i ∈ oy4_init, Cond.methodLink xR4 i Lib.objectInit ∈ xG := List.forall_mem_cons.mpr ⟨xG_k xT_1 85 rfl rfl, fun _ h => absurd h List.not_mem_nil⟩
set_option maxRecDepth 20000 in
theorem fyk4_init : ∀ q ∈ fy4_init, xfl xR4 q := List.forall_mem_cons.mpr ⟨⟨xR4, xT4, 4, rfl, by decide, xG_k xT_1 86 rfl rfl⟩, List.forall_mem_cons.mpr ⟨⟨xR4, xT4, 4, rfl, by decide, xG_k xT_1 88 rfl rfl⟩, fun _ h => absurd h List.not_mem_nil⟩⟩
set_option maxRecDepth 20000 in
theorem lyk4_init : ∀ q ∈ ly4_init, Cond.constantLong xR4 q.1 q.2 ∈ xG := fun _ h => absurd h List.not_mem_nil
set_option maxRecDepth 20000 in
theorem nyk4_init : ∀ q ∈ ny4_init, ynw xR4 q.1 q.2 := fun _ h => absurd h List.not_mem_nil
set_option maxRecDepth 20000 in
theorem qyk4_init : ∀ q ∈ qy4_init, Cond.classLink xR4 q.1 (yqr q.2) ∈ xG := fun _ h => absurd h List.not_mem_nil
set_option maxRecDepth 20000 in
theorem cy4_init (P : YP) (l : Launch) : CtrY P l (⟨xR4, "<init>", "()V"⟩ : MethodName) prog_6_method_1_code 1 none 1 2 yF4_init :=
  CtrY_of (tab := ty4_init) (env := ey4_init) (K := 3000) (oc := 4) (ol := oy4_init) (fl := fy4_init) (ll := ly4_init) (nl := ny4_init) (ql := qy4_init) (by decide +kernel) ⟨by decide +kernel, oyk4_init, fyk4_init, lyk4_init, nyk4_init, qyk4_init, fun _ => ⟨rfl, rfl⟩⟩ (by decide) (fun _ h => absurd h List.not_mem_nil) (by decide) ⟨_, _, rfl, rfl⟩ (.inl rfl)
def ty2_init : List XE := [(0, .aload_n 0, 0, 0, 0, 0, []), (1, .invokespecial 3, 0, 98, 0, 0, []), (4, .aload_n 0, 0, 0, 0, 0, []), (5, .bipush 6, 0, 0, 6, 0, []), (7, .newarray .long, 1, 0, 0, 0, []), (9, .putfield 9, 2, 5, 0, 0, []), (12, .aload_n 0, 0, 0, 0, 0, []), (13, .bipush 6, 0, 0, 6, 0, []), (15, .newarray .int, 0, 0, 0, 0, []), (17, .putfield 15, 2, 6, 0, 0, []), (20, .aload_n 0, 0, 0, 0, 0, []), (21, .bipush 6, 0, 0, 6, 0, []), (23, .newarray .int, 0, 0, 0, 0, []), (25, .putfield 19, 2, 7, 0, 0, []), (28, .aload_n 0, 0, 0, 0, 0, []), (29, .bipush 6, 0, 0, 6, 0, []), (31, .newarray .int, 0, 0, 0, 0, []), (33, .putfield 22, 2, 8, 0, 0, []), (36, .aload_n 0, 0, 0, 0, 0, []), (37, .bipush 6, 0, 0, 6, 0, []), (39, .newarray .int, 0, 0, 0, 0, []), (41, .putfield 25, 2, 9, 0, 0, []), (44, .aload_n 0, 0, 0, 0, 0, []), (45, .bipush 6, 0, 0, 6, 0, []), (47, .newarray .int, 0, 0, 0, 0, []), (49, .putfield 28, 2, 10, 0, 0, []), (52, .aload_n 0, 0, 0, 0, 0, []), (53, .iconst 5, 0, 0, 5, 0, []), (54, .newarray .long, 1, 0, 0, 0, []), (56, .putfield 31, 2, 11, 0, 0, []), (59, .aload_n 0, 0, 0, 0, 0, []), (60, .iconst 5, 0, 0, 5, 0, []), (61, .newarray .int, 0, 0, 0, 0, []), (63, .putfield 34, 2, 12, 0, 0, []), (66, .aload_n 0, 0, 0, 0, 0, []), (67, .iconst 3, 0, 0, 3, 0, []), (68, .newarray .long, 1, 0, 0, 0, []), (70, .putfield 37, 2, 13, 0, 0, []), (73, .aload_n 0, 0, 0, 0, 0, []), (74, .iconst 3, 0, 0, 3, 0, []), (75, .newarray .int, 0, 0, 0, 0, []), (77, .putfield 40, 2, 14, 0, 0, []), (80, .aload_n 0, 0, 0, 0, 0, []), (81, .iconst 3, 0, 0, 3, 0, []), (82, .newarray .int, 0, 0, 0, 0, []), (84, .putfield 43, 2, 15, 0, 0, []), (87, .aload_n 0, 0, 0, 0, 0, []), (88, .new 46, 4, 0, 0, 0, []), (91, .dup, 0, 0, 0, 0, []), (92, .invokespecial 48, 1, 4, 0, 0, []), (95, .putfield 49, 2, 16, 0, 0, []), (98, .return_, 0, 0, 0, 0, [])]
noncomputable def ey2_init : YN := [(48, 1, 4, 2, yF4_init)]
noncomputable def yF2_init : YF := yrun ty2_init ey2_init 0 14 3000 1
def oy2_init : List Nat := [3]
def fy2_init : List (Nat × Nat × Nat) := [(9, 2, 5), (15, 2, 6), (19, 2, 7), (22, 2, 8), (25, 2, 9), (28, 2, 10), (31, 2, 11), (34, 2, 12), (37, 2, 13), (40, 2, 14), (43, 2, 15), (49, 2, 16)]
def ly2_init : List (Nat × Int64) := []
def ny2_init : List (Nat × Nat) := [(46, 4)]
def qy2_init : List (Nat × Nat) := []
set_option maxRecDepth 20000 in
theorem oyk2_init : ∀ i ∈ oy2_init, Cond.methodLink xR2 i Lib.objectInit ∈ xG := List.forall_mem_cons.mpr ⟨xG_k xT_1 79 rfl rfl, fun _ h => absurd h List.not_mem_nil⟩
set_option maxRecDepth 20000 in
theorem fyk2_init : ∀ q ∈ fy2_init, xfl xR2 q := List.forall_mem_cons.mpr ⟨⟨xR2, xT2, 17, rfl, by decide, xG_k xT_1 124 rfl rfl⟩, List.forall_mem_cons.mpr ⟨⟨xR2, xT2, 17, rfl, by decide, xG_k xT_1 127 rfl rfl⟩, List.forall_mem_cons.mpr ⟨⟨xR2, xT2, 17, rfl, by decide, xG_k xT_1 130 rfl rfl⟩, List.forall_mem_cons.mpr ⟨⟨xR2, xT2, 17, rfl, by decide, xG_k xT_1 133 rfl rfl⟩, List.forall_mem_cons.mpr ⟨⟨xR2, xT2, 17, rfl, by decide, xG_k xT_1 137 rfl rfl⟩, List.forall_mem_cons.mpr ⟨⟨xR2, xT2, 17, rfl, by decide, xG_k xT_1 140 rfl rfl⟩, List.forall_mem_cons.mpr ⟨⟨xR2, xT2, 17, rfl, by decide, xG_k xT_1 143 rfl rfl⟩, List.forall_mem_cons.mpr ⟨⟨xR2, xT2, 17, rfl, by decide, xG_k xT_1 146 rfl rfl⟩, List.forall_mem_cons.mpr ⟨⟨xR2, xT2, 17, rfl, by decide, xG_k xT_1 149 rfl rfl⟩, List.forall_mem_cons.mpr ⟨⟨xR2, xT2, 17, rfl, by decide, xG_k xT_1 152 rfl rfl⟩, List.forall_mem_cons.mpr ⟨⟨xR2, xT2, 17, rfl, by decide, xG_k xT_1 156 rfl rfl⟩, List.forall_mem_cons.mpr ⟨⟨xR2, xT2, 17, rfl, by decide, xG_k xT_1 160 rfl rfl⟩, fun _ h => absurd h List.not_mem_nil⟩⟩⟩⟩⟩⟩⟩⟩⟩⟩⟩⟩
set_option maxRecDepth 20000 in
theorem lyk2_init : ∀ q ∈ ly2_init, Cond.constantLong xR2 q.1 q.2 ∈ xG := fun _ h => absurd h List.not_mem_nil
set_option maxRecDepth 20000 in
theorem nyk2_init : ∀ q ∈ ny2_init, ynw xR2 q.1 q.2 := List.forall_mem_cons.mpr ⟨⟨xR4, xT4, 4, rfl, xG_k xT_1 80 rfl rfl, xG_k xT_1 81 rfl rfl, xG_k xT_1 4 rfl rfl⟩, fun _ h => absurd h List.not_mem_nil⟩
set_option maxRecDepth 20000 in
theorem qyk2_init : ∀ q ∈ qy2_init, Cond.classLink xR2 q.1 (yqr q.2) ∈ xG := fun _ h => absurd h List.not_mem_nil
set_option maxRecDepth 20000 in
theorem cy2_init (P : YP) (l : Launch) : CtrY P l (⟨xR2, "<init>", "()V"⟩ : MethodName) prog_4_method_1_code 1 none 2 14 yF2_init :=
  CtrY_of (tab := ty2_init) (env := ey2_init) (K := 3000) (oc := 2) (ol := oy2_init) (fl := fy2_init) (ll := ly2_init) (nl := ny2_init) (ql := qy2_init) (by decide +kernel) ⟨by decide +kernel, oyk2_init, fyk2_init, lyk2_init, nyk2_init, qyk2_init, fun _ => ⟨rfl, rfl⟩⟩ (by decide) (List.forall_mem_cons.mpr ⟨ycal_I (y := ⟨xR4, "<init>", "()V"⟩) (b := prog_6_method_1_code) (maxL := 1) (n := 0) (cy4_init P l) (yrun_mk _ _ _ _ _ _) (xG_k xT_1 84 rfl rfl) (xG_k xT_1 4 rfl rfl) ⟨by decide +kernel, by decide +kernel⟩ (xG_k xT_1 83 rfl rfl) ⟨by decide, by decide⟩ rfl (by decide +kernel) (by decide) rfl (.inr (List.mem_of_getElem? (i := 2) rfl)), fun _ h => absurd h List.not_mem_nil⟩) (by decide) ⟨_, _, rfl, rfl⟩ (.inl rfl)
def ty7_init : List XE := [(0, .aload_n 0, 0, 0, 0, 0, []), (1, .invokespecial 3, 0, 98, 0, 0, []), (4, .aload_n 0, 0, 0, 0, 0, []), (5, .new 9, 2, 0, 0, 0, []), (8, .dup, 0, 0, 0, 0, []), (9, .invokespecial 11, 1, 2, 0, 0, []), (12, .putfield 12, 7, 0, 0, 0, []), (15, .aload_n 0, 0, 0, 0, 0, []), (16, .aload_n 1, 1, 0, 0, 0, []), (17, .putfield 18, 7, 1, 0, 0, []), (20, .return_, 0, 0, 0, 0, [])]
noncomputable def ey7_init : YN := [(11, 1, 2, 14, yF2_init)]
noncomputable def yF7_init : YF := yrun ty7_init ey7_init 0 15 3000 2
def oy7_init : List Nat := [3]
def fy7_init : List (Nat × Nat × Nat) := [(12, 7, 0), (18, 7, 1)]
def ly7_init : List (Nat × Int64) := []
def ny7_init : List (Nat × Nat) := [(9, 2)]
def qy7_init : List (Nat × Nat) := []
set_option maxRecDepth 20000 in
theorem oyk7_init : ∀ i ∈ oy7_init, Cond.methodLink xR7 i Lib.objectInit ∈ xG := List.forall_mem_cons.mpr ⟨xG_k xT_1 203 rfl rfl, fun _ h => absurd h List.not_mem_nil⟩
set_option maxRecDepth 20000 in
theorem fyk7_init : ∀ q ∈ fy7_init, xfl xR7 q := List.forall_mem_cons.mpr ⟨⟨xR7, xT7, 5, rfl, by decide, xG_k xT_1 206 rfl rfl⟩, List.forall_mem_cons.mpr ⟨⟨xR7, xT7, 5, rfl, by decide, xG_k xT_1 208 rfl rfl⟩, fun _ h => absurd h List.not_mem_nil⟩⟩
set_option maxRecDepth 20000 in
theorem lyk7_init : ∀ q ∈ ly7_init, Cond.constantLong xR7 q.1 q.2 ∈ xG := fun _ h => absurd h List.not_mem_nil
set_option maxRecDepth 20000 in
theorem nyk7_init : ∀ q ∈ ny7_init, ynw xR7 q.1 q.2 := List.forall_mem_cons.mpr ⟨⟨xR2, xT2, 17, rfl, xG_k xT_1 204 rfl rfl, xG_k xT_1 75 rfl rfl, xG_k xT_1 3 rfl rfl⟩, fun _ h => absurd h List.not_mem_nil⟩
set_option maxRecDepth 20000 in
theorem qyk7_init : ∀ q ∈ qy7_init, Cond.classLink xR7 q.1 (yqr q.2) ∈ xG := fun _ h => absurd h List.not_mem_nil
set_option maxRecDepth 20000 in
theorem cy7_init (P : YP) (l : Launch) : CtrY P l (⟨xR7, "<init>", "(LSilenceBall$Tape;)V"⟩ : MethodName) prog_9_method_1_code 2 none 3 15 yF7_init :=
  CtrY_of (tab := ty7_init) (env := ey7_init) (K := 3000) (oc := 7) (ol := oy7_init) (fl := fy7_init) (ll := ly7_init) (nl := ny7_init) (ql := qy7_init) (by decide +kernel) ⟨by decide +kernel, oyk7_init, fyk7_init, lyk7_init, nyk7_init, qyk7_init, fun _ => ⟨rfl, rfl⟩⟩ (by decide) (List.forall_mem_cons.mpr ⟨ycal_I (y := ⟨xR2, "<init>", "()V"⟩) (b := prog_4_method_1_code) (maxL := 1) (n := 0) (cy2_init P l) (yrun_mk _ _ _ _ _ _) (xG_k xT_1 78 rfl rfl) (xG_k xT_1 3 rfl rfl) ⟨by decide +kernel, by decide +kernel⟩ (xG_k xT_1 77 rfl rfl) ⟨by decide, by decide⟩ rfl (by decide +kernel) (by decide) rfl (.inr (List.mem_of_getElem? (i := 3) rfl)), fun _ h => absurd h List.not_mem_nil⟩) (by decide) ⟨_, _, rfl, rfl⟩ (.inl rfl)
def ty1_init : List XE := [(0, .aload_n 0, 0, 0, 0, 0, []), (1, .invokespecial 3, 0, 98, 0, 0, []), (4, .aload_n 0, 0, 0, 0, 0, []), (5, .bipush 40, 0, 0, 40, 0, []), (7, .newarray .int, 0, 0, 0, 0, []), (9, .putfield 11, 1, 1, 0, 0, []), (12, .aload_n 0, 0, 0, 0, 0, []), (13, .bipush 40, 0, 0, 40, 0, []), (15, .newarray .int, 0, 0, 0, 0, []), (17, .putfield 15, 1, 2, 0, 0, []), (20, .aload_n 0, 0, 0, 0, 0, []), (21, .bipush 40, 0, 0, 40, 0, []), (23, .newarray .int, 0, 0, 0, 0, []), (25, .putfield 18, 1, 3, 0, 0, []), (28, .aload_n 0, 0, 0, 0, 0, []), (29, .bipush 40, 0, 0, 40, 0, []), (31, .newarray .int, 0, 0, 0, 0, []), (33, .putfield 21, 1, 4, 0, 0, []), (36, .return_, 0, 0, 0, 0, [])]
noncomputable def ey1_init : YN := []
noncomputable def yF1_init : YF := yrun ty1_init ey1_init 0 4 3000 1
def oy1_init : List Nat := [3]
def fy1_init : List (Nat × Nat × Nat) := [(11, 1, 1), (15, 1, 2), (18, 1, 3), (21, 1, 4)]
def ly1_init : List (Nat × Int64) := []
def ny1_init : List (Nat × Nat) := []
def qy1_init : List (Nat × Nat) := []
set_option maxRecDepth 20000 in
theorem oyk1_init : ∀ i ∈ oy1_init, Cond.methodLink xR1 i Lib.objectInit ∈ xG := List.forall_mem_cons.mpr ⟨xG_k xT_1 228 rfl rfl, fun _ h => absurd h List.not_mem_nil⟩
set_option maxRecDepth 20000 in
theorem fyk1_init : ∀ q ∈ fy1_init, xfl xR1 q := List.forall_mem_cons.mpr ⟨⟨xR1, xT1, 5, rfl, by decide, xG_k xT_1 231 rfl rfl⟩, List.forall_mem_cons.mpr ⟨⟨xR1, xT1, 5, rfl, by decide, xG_k xT_1 232 rfl rfl⟩, List.forall_mem_cons.mpr ⟨⟨xR1, xT1, 5, rfl, by decide, xG_k xT_1 233 rfl rfl⟩, List.forall_mem_cons.mpr ⟨⟨xR1, xT1, 5, rfl, by decide, xG_k xT_1 234 rfl rfl⟩, fun _ h => absurd h List.not_mem_nil⟩⟩⟩⟩
set_option maxRecDepth 20000 in
theorem lyk1_init : ∀ q ∈ ly1_init, Cond.constantLong xR1 q.1 q.2 ∈ xG := fun _ h => absurd h List.not_mem_nil
set_option maxRecDepth 20000 in
theorem nyk1_init : ∀ q ∈ ny1_init, ynw xR1 q.1 q.2 := fun _ h => absurd h List.not_mem_nil
set_option maxRecDepth 20000 in
theorem qyk1_init : ∀ q ∈ qy1_init, Cond.classLink xR1 q.1 (yqr q.2) ∈ xG := fun _ h => absurd h List.not_mem_nil
set_option maxRecDepth 20000 in
theorem cy1_init (P : YP) (l : Launch) : CtrY P l (⟨xR1, "<init>", "()V"⟩ : MethodName) prog_3_method_1_code 1 none 1 4 yF1_init :=
  CtrY_of (tab := ty1_init) (env := ey1_init) (K := 3000) (oc := 1) (ol := oy1_init) (fl := fy1_init) (ll := ly1_init) (nl := ny1_init) (ql := qy1_init) (by decide +kernel) ⟨by decide +kernel, oyk1_init, fyk1_init, lyk1_init, nyk1_init, qyk1_init, fun _ => ⟨rfl, rfl⟩⟩ (by decide) (fun _ h => absurd h List.not_mem_nil) (by decide) ⟨_, _, rfl, rfl⟩ (.inl rfl)
def ty8_init : List XE := [(0, .aload_n 0, 0, 0, 0, 0, []), (1, .invokespecial 3, 0, 98, 0, 0, []), (4, .aload_n 0, 0, 0, 0, 0, []), (5, .bipush 6, 0, 0, 6, 0, []), (7, .newarray .int, 0, 0, 0, 0, []), (9, .putfield 9, 8, 1, 0, 0, []), (12, .aload_n 0, 0, 0, 0, 0, []), (13, .bipush 6, 0, 0, 6, 0, []), (15, .newarray .int, 0, 0, 0, 0, []), (17, .putfield 15, 8, 2, 0, 0, []), (20, .aload_n 0, 0, 0, 0, 0, []), (21, .bipush 6, 0, 0, 6, 0, []), (23, .newarray .int, 0, 0, 0, 0, []), (25, .putfield 18, 8, 3, 0, 0, []), (28, .aload_n 0, 0, 0, 0, 0, []), (29, .bipush 6, 0, 0, 6, 0, []), (31, .newarray .int, 0, 0, 0, 0, []), (33, .putfield 21, 8, 4, 0, 0, []), (36, .aload_n 0, 0, 0, 0, 0, []), (37, .aload_n 1, 1, 0, 0, 0, []), (38, .putfield 24, 8, 0, 0, 0, []), (41, .return_, 0, 0, 0, 0, [])]
noncomputable def ey8_init : YN := []
noncomputable def yF8_init : YF := yrun ty8_init ey8_init 0 4 3000 2
def oy8_init : List Nat := [3]
def fy8_init : List (Nat × Nat × Nat) := [(9, 8, 1), (15, 8, 2), (18, 8, 3), (21, 8, 4), (24, 8, 0)]
def ly8_init : List (Nat × Int64) := []
def ny8_init : List (Nat × Nat) := []
def qy8_init : List (Nat × Nat) := []
set_option maxRecDepth 20000 in
theorem oyk8_init : ∀ i ∈ oy8_init, Cond.methodLink xR8 i Lib.objectInit ∈ xG := List.forall_mem_cons.mpr ⟨xG_k xT_2 11 rfl rfl, fun _ h => absurd h List.not_mem_nil⟩
set_option maxRecDepth 20000 in
theorem fyk8_init : ∀ q ∈ fy8_init, xfl xR8 q := List.forall_mem_cons.mpr ⟨⟨xR8, xT8, 9, rfl, by decide, xG_k xT_2 13 rfl rfl⟩, List.forall_mem_cons.mpr ⟨⟨xR8, xT8, 9, rfl, by decide, xG_k xT_2 15 rfl rfl⟩, List.forall_mem_cons.mpr ⟨⟨xR8, xT8, 9, rfl, by decide, xG_k xT_2 17 rfl rfl⟩, List.forall_mem_cons.mpr ⟨⟨xR8, xT8, 9, rfl, by decide, xG_k xT_2 19 rfl rfl⟩, List.forall_mem_cons.mpr ⟨⟨xR8, xT8, 9, rfl, by decide, xG_k xT_2 12 rfl rfl⟩, fun _ h => absurd h List.not_mem_nil⟩⟩⟩⟩⟩
set_option maxRecDepth 20000 in
theorem lyk8_init : ∀ q ∈ ly8_init, Cond.constantLong xR8 q.1 q.2 ∈ xG := fun _ h => absurd h List.not_mem_nil
set_option maxRecDepth 20000 in
theorem nyk8_init : ∀ q ∈ ny8_init, ynw xR8 q.1 q.2 := fun _ h => absurd h List.not_mem_nil
set_option maxRecDepth 20000 in
theorem qyk8_init : ∀ q ∈ qy8_init, Cond.classLink xR8 q.1 (yqr q.2) ∈ xG := fun _ h => absurd h List.not_mem_nil
set_option maxRecDepth 20000 in
theorem cy8_init (P : YP) (l : Launch) : CtrY P l (⟨xR8, "<init>", "(LSilenceBall$House;)V"⟩ : MethodName) prog_10_method_1_code 2 none 1 4 yF8_init :=
  CtrY_of (tab := ty8_init) (env := ey8_init) (K := 3000) (oc := 8) (ol := oy8_init) (fl := fy8_init) (ll := ly8_init) (nl := ny8_init) (ql := qy8_init) (by decide +kernel) ⟨by decide +kernel, oyk8_init, fyk8_init, lyk8_init, nyk8_init, qyk8_init, fun _ => ⟨rfl, rfl⟩⟩ (by decide) (fun _ h => absurd h List.not_mem_nil) (by decide) ⟨_, _, rfl, rfl⟩ (.inl rfl)
def ty0_init : List XE := [(0, .aload_n 0, 0, 0, 0, 0, []), (1, .invokespecial 1, 0, 98, 0, 0, []), (4, .aload_n 0, 0, 0, 0, 0, []), (5, .bipush 16, 0, 0, 16, 0, []), (7, .anewarray 9, 4, 0, 0, 0, []), (10, .putfield 11, 0, 0, 0, 0, []), (13, .iconst 0, 0, 0, 0, 0, []), (14, .istore_n 2, 2, 0, 0, 0, []), (15, .iload_n 2, 2, 0, 0, 0, []), (16, .bipush 16, 0, 0, 16, 0, []), (18, .if_icmp .ge 23, 41, 0, 0, 0, []), (21, .aload_n 0, 0, 0, 0, 0, []), (22, .getfield 11, 0, 0, 0, 0, []), (25, .iload_n 2, 2, 0, 0, 0, []), (26, .new 9, 8, 0, 0, 0, []), (29, .dup, 0, 0, 0, 0, []), (30, .aload_n 1, 1, 0, 0, 0, []), (31, .invokespecial 15, 2, 8, 0, 0, []), (34, .aastore, 0, 0, 0, 0, []), (35, .iinc 2 1, 2, 0, 1, 0, []), (38, .goto (-23), 15, 0, 0, 0, []), (41, .return_, 0, 0, 0, 0, [])]
noncomputable def ey0_init : YN := [(15, 2, 8, 4, yF8_init)]
noncomputable def yF0_init : YF := yrun ty0_init ey0_init 0 81 3000 3
def oy0_init : List Nat := [1]
def fy0_init : List (Nat × Nat × Nat) := [(11, 0, 0)]
def ly0_init : List (Nat × Int64) := []
def ny0_init : List (Nat × Nat) := [(9, 8)]
def qy0_init : List (Nat × Nat) := [(9, 4)]
set_option maxRecDepth 20000 in
theorem oyk0_init : ∀ i ∈ oy0_init, Cond.methodLink xR0 i Lib.objectInit ∈ xG := List.forall_mem_cons.mpr ⟨xG_k xT_2 54 rfl rfl, fun _ h => absurd h List.not_mem_nil⟩
set_option maxRecDepth 20000 in
theorem fyk0_init : ∀ q ∈ fy0_init, xfl xR0 q := List.forall_mem_cons.mpr ⟨⟨xR0, xT0, 3, rfl, by decide, xG_k xT_2 58 rfl rfl⟩, fun _ h => absurd h List.not_mem_nil⟩
set_option maxRecDepth 20000 in
theorem lyk0_init : ∀ q ∈ ly0_init, Cond.constantLong xR0 q.1 q.2 ∈ xG := fun _ h => absurd h List.not_mem_nil
set_option maxRecDepth 20000 in
theorem nyk0_init : ∀ q ∈ ny0_init, ynw xR0 q.1 q.2 := List.forall_mem_cons.mpr ⟨⟨xR8, xT8, 9, rfl, xG_k xT_2 55 rfl rfl, xG_k xT_2 7 rfl rfl, xG_k xT_1 7 rfl rfl⟩, fun _ h => absurd h List.not_mem_nil⟩
set_option maxRecDepth 20000 in
theorem qyk0_init : ∀ q ∈ qy0_init, Cond.classLink xR0 q.1 (yqr q.2) ∈ xG := List.forall_mem_cons.mpr ⟨xG_k xT_2 55 rfl rfl, fun _ h => absurd h List.not_mem_nil⟩
set_option maxRecDepth 20000 in
theorem cy0_init (P : YP) (l : Launch) : CtrY P l (⟨xR0, "<init>", "(LSilenceBall$House;)V"⟩ : MethodName) prog_2_method_1_code 3 none 2 81 yF0_init :=
  CtrY_of (tab := ty0_init) (env := ey0_init) (K := 3000) (oc := 0) (ol := oy0_init) (fl := fy0_init) (ll := ly0_init) (nl := ny0_init) (ql := qy0_init) (by decide +kernel) ⟨by decide +kernel, oyk0_init, fyk0_init, lyk0_init, nyk0_init, qyk0_init, fun _ => ⟨rfl, rfl⟩⟩ (by decide) (List.forall_mem_cons.mpr ⟨ycal_I (y := ⟨xR8, "<init>", "(LSilenceBall$House;)V"⟩) (b := prog_10_method_1_code) (maxL := 2) (n := 1) (cy8_init P l) (yrun_mk _ _ _ _ _ _) (xG_k xT_2 10 rfl rfl) (xG_k xT_1 7 rfl rfl) ⟨by decide +kernel, by decide +kernel⟩ (xG_k xT_2 9 rfl rfl) ⟨by decide, by decide⟩ rfl (by decide +kernel) (by decide) rfl (.inl (xG_k xT_2 57 rfl rfl)), fun _ h => absurd h List.not_mem_nil⟩) (by decide) ⟨_, _, rfl, rfl⟩ (.inl rfl)
def ty9_init : List XE := [(0, .aload_n 0, 0, 0, 0, 0, []), (1, .invokespecial 1, 0, 98, 0, 0, []), (4, .aload_n 0, 0, 0, 0, 0, []), (5, .bipush 8, 0, 0, 8, 0, []), (7, .newarray .int, 0, 0, 0, 0, []), (9, .putfield 9, 9, 1, 0, 0, []), (12, .aload_n 0, 0, 0, 0, 0, []), (13, .bipush 8, 0, 0, 8, 0, []), (15, .newarray .int, 0, 0, 0, 0, []), (17, .putfield 13, 9, 2, 0, 0, []), (20, .return_, 0, 0, 0, 0, [])]
noncomputable def ey9_init : YN := []
noncomputable def yF9_init : YF := yrun ty9_init ey9_init 0 2 3000 1
def oy9_init : List Nat := [1]
def fy9_init : List (Nat × Nat × Nat) := [(9, 9, 1), (13, 9, 2)]
def ly9_init : List (Nat × Int64) := []
def ny9_init : List (Nat × Nat) := []
def qy9_init : List (Nat × Nat) := []
set_option maxRecDepth 20000 in
theorem oyk9_init : ∀ i ∈ oy9_init, Cond.methodLink xR9 i Lib.objectInit ∈ xG := List.forall_mem_cons.mpr ⟨xG_k xT_2 81 rfl rfl, fun _ h => absurd h List.not_mem_nil⟩
set_option maxRecDepth 20000 in
theorem fyk9_init : ∀ q ∈ fy9_init, xfl xR9 q := List.forall_mem_cons.mpr ⟨⟨xR9, xT9, 3, rfl, by decide, xG_k xT_2 84 rfl rfl⟩, List.forall_mem_cons.mpr ⟨⟨xR9, xT9, 3, rfl, by decide, xG_k xT_2 85 rfl rfl⟩, fun _ h => absurd h List.not_mem_nil⟩⟩
set_option maxRecDepth 20000 in
theorem lyk9_init : ∀ q ∈ ly9_init, Cond.constantLong xR9 q.1 q.2 ∈ xG := fun _ h => absurd h List.not_mem_nil
set_option maxRecDepth 20000 in
theorem nyk9_init : ∀ q ∈ ny9_init, ynw xR9 q.1 q.2 := fun _ h => absurd h List.not_mem_nil
set_option maxRecDepth 20000 in
theorem qyk9_init : ∀ q ∈ qy9_init, Cond.classLink xR9 q.1 (yqr q.2) ∈ xG := fun _ h => absurd h List.not_mem_nil
set_option maxRecDepth 20000 in
theorem cy9_init (P : YP) (l : Launch) : CtrY P l (⟨xR9, "<init>", "()V"⟩ : MethodName) prog_11_method_1_code 1 none 1 2 yF9_init :=
  CtrY_of (tab := ty9_init) (env := ey9_init) (K := 3000) (oc := 9) (ol := oy9_init) (fl := fy9_init) (ll := ly9_init) (nl := ny9_init) (ql := qy9_init) (by decide +kernel) ⟨by decide +kernel, oyk9_init, fyk9_init, lyk9_init, nyk9_init, qyk9_init, fun _ => ⟨rfl, rfl⟩⟩ (by decide) (fun _ h => absurd h List.not_mem_nil) (by decide) ⟨_, _, rfl, rfl⟩ (.inl rfl)
def ty5_init : List XE := [(0, .aload_n 0, 0, 0, 0, 0, []), (1, .invokespecial 1, 0, 98, 0, 0, []), (4, .aload_n 0, 0, 0, 0, 0, []), (5, .new 7, 9, 0, 0, 0, []), (8, .dup, 0, 0, 0, 0, []), (9, .invokespecial 9, 1, 9, 0, 0, []), (12, .putfield 10, 5, 2, 0, 0, []), (15, .aload_n 0, 0, 0, 0, 0, []), (16, .new 16, 8, 0, 0, 0, []), (19, .dup, 0, 0, 0, 0, []), (20, .aload_n 1, 1, 0, 0, 0, []), (21, .invokespecial 18, 2, 8, 0, 0, []), (24, .putfield 21, 5, 1, 0, 0, []), (27, .return_, 0, 0, 0, 0, [])]
noncomputable def ey5_init : YN := [(9, 1, 9, 2, yF9_init), (18, 2, 8, 4, yF8_init)]
noncomputable def yF5_init : YF := yrun ty5_init ey5_init 0 8 3000 2
def oy5_init : List Nat := [1]
def fy5_init : List (Nat × Nat × Nat) := [(10, 5, 2), (21, 5, 1)]
def ly5_init : List (Nat × Int64) := []
def ny5_init : List (Nat × Nat) := [(7, 9), (16, 8)]
def qy5_init : List (Nat × Nat) := []
set_option maxRecDepth 20000 in
theorem oyk5_init : ∀ i ∈ oy5_init, Cond.methodLink xR5 i Lib.objectInit ∈ xG := List.forall_mem_cons.mpr ⟨xG_k xT_2 75 rfl rfl, fun _ h => absurd h List.not_mem_nil⟩
set_option maxRecDepth 20000 in
theorem fyk5_init : ∀ q ∈ fy5_init, xfl xR5 q := List.forall_mem_cons.mpr ⟨⟨xR5, xT5, 3, rfl, by decide, xG_k xT_2 97 rfl rfl⟩, List.forall_mem_cons.mpr ⟨⟨xR5, xT5, 3, rfl, by decide, xG_k xT_2 96 rfl rfl⟩, fun _ h => absurd h List.not_mem_nil⟩⟩
set_option maxRecDepth 20000 in
theorem lyk5_init : ∀ q ∈ ly5_init, Cond.constantLong xR5 q.1 q.2 ∈ xG := fun _ h => absurd h List.not_mem_nil
set_option maxRecDepth 20000 in
theorem nyk5_init : ∀ q ∈ ny5_init, ynw xR5 q.1 q.2 := List.forall_mem_cons.mpr ⟨⟨xR9, xT9, 3, rfl, xG_k xT_2 76 rfl rfl, xG_k xT_2 77 rfl rfl, xG_k xT_1 10 rfl rfl⟩, List.forall_mem_cons.mpr ⟨⟨xR8, xT8, 9, rfl, xG_k xT_2 93 rfl rfl, xG_k xT_2 7 rfl rfl, xG_k xT_1 7 rfl rfl⟩, fun _ h => absurd h List.not_mem_nil⟩⟩
set_option maxRecDepth 20000 in
theorem qyk5_init : ∀ q ∈ qy5_init, Cond.classLink xR5 q.1 (yqr q.2) ∈ xG := fun _ h => absurd h List.not_mem_nil
set_option maxRecDepth 20000 in
theorem cy5_init (P : YP) (l : Launch) : CtrY P l (⟨xR5, "<init>", "(LSilenceBall$House;)V"⟩ : MethodName) prog_7_method_1_code 2 none 2 8 yF5_init :=
  CtrY_of (tab := ty5_init) (env := ey5_init) (K := 3000) (oc := 5) (ol := oy5_init) (fl := fy5_init) (ll := ly5_init) (nl := ny5_init) (ql := qy5_init) (by decide +kernel) ⟨by decide +kernel, oyk5_init, fyk5_init, lyk5_init, nyk5_init, qyk5_init, fun _ => ⟨rfl, rfl⟩⟩ (by decide) (List.forall_mem_cons.mpr ⟨ycal_I (y := ⟨xR9, "<init>", "()V"⟩) (b := prog_11_method_1_code) (maxL := 1) (n := 0) (cy9_init P l) (yrun_mk _ _ _ _ _ _) (xG_k xT_2 80 rfl rfl) (xG_k xT_1 10 rfl rfl) ⟨by decide +kernel, by decide +kernel⟩ (xG_k xT_2 79 rfl rfl) ⟨by decide, by decide⟩ rfl (by decide +kernel) (by decide) rfl (.inr (List.mem_of_getElem? (i := 5) rfl)), List.forall_mem_cons.mpr ⟨ycal_I (y := ⟨xR8, "<init>", "(LSilenceBall$House;)V"⟩) (b := prog_10_method_1_code) (maxL := 2) (n := 1) (cy8_init P l) (yrun_mk _ _ _ _ _ _) (xG_k xT_2 10 rfl rfl) (xG_k xT_1 7 rfl rfl) ⟨by decide +kernel, by decide +kernel⟩ (xG_k xT_2 9 rfl rfl) ⟨by decide, by decide⟩ rfl (by decide +kernel) (by decide) rfl (.inl (xG_k xT_2 94 rfl rfl)), fun _ h => absurd h List.not_mem_nil⟩⟩) (by decide) ⟨_, _, rfl, rfl⟩ (.inl rfl)
def ty3_init : List XE := [(0, .aload_n 0, 0, 0, 0, 0, []), (1, .invokespecial 5, 0, 98, 0, 0, []), (4, .aload_n 0, 0, 0, 0, 0, []), (5, .sipush 210, 0, 0, 210, 0, []), (8, .newarray .int, 0, 0, 0, 0, []), (10, .putfield 13, 3, 0, 0, 0, []), (13, .return_, 0, 0, 0, 0, [])]
noncomputable def ey3_init : YN := []
noncomputable def yF3_init : YF := yrun ty3_init ey3_init 0 1 3000 1
def oy3_init : List Nat := [5]
def fy3_init : List (Nat × Nat × Nat) := [(13, 3, 0)]
def ly3_init : List (Nat × Int64) := []
def ny3_init : List (Nat × Nat) := []
def qy3_init : List (Nat × Nat) := []
set_option maxRecDepth 20000 in
theorem oyk3_init : ∀ i ∈ oy3_init, Cond.methodLink xR3 i Lib.objectInit ∈ xG := List.forall_mem_cons.mpr ⟨xG_k xT_2 112 rfl rfl, fun _ h => absurd h List.not_mem_nil⟩
set_option maxRecDepth 20000 in
theorem fyk3_init : ∀ q ∈ fy3_init, xfl xR3 q := List.forall_mem_cons.mpr ⟨⟨xR3, xT3, 1, rfl, by decide, xG_k xT_2 113 rfl rfl⟩, fun _ h => absurd h List.not_mem_nil⟩
set_option maxRecDepth 20000 in
theorem lyk3_init : ∀ q ∈ ly3_init, Cond.constantLong xR3 q.1 q.2 ∈ xG := fun _ h => absurd h List.not_mem_nil
set_option maxRecDepth 20000 in
theorem nyk3_init : ∀ q ∈ ny3_init, ynw xR3 q.1 q.2 := fun _ h => absurd h List.not_mem_nil
set_option maxRecDepth 20000 in
theorem qyk3_init : ∀ q ∈ qy3_init, Cond.classLink xR3 q.1 (yqr q.2) ∈ xG := fun _ h => absurd h List.not_mem_nil
set_option maxRecDepth 20000 in
theorem cy3_init (P : YP) (l : Launch) : CtrY P l (⟨xR3, "<init>", "()V"⟩ : MethodName) prog_5_method_1_code 1 none 1 1 yF3_init :=
  CtrY_of (tab := ty3_init) (env := ey3_init) (K := 3000) (oc := 3) (ol := oy3_init) (fl := fy3_init) (ll := ly3_init) (nl := ny3_init) (ql := qy3_init) (by decide +kernel) ⟨by decide +kernel, oyk3_init, fyk3_init, lyk3_init, nyk3_init, qyk3_init, fun _ => ⟨rfl, rfl⟩⟩ (by decide) (fun _ h => absurd h List.not_mem_nil) (by decide) ⟨_, _, rfl, rfl⟩ (.inl rfl)
def ty6_init : List XE := [(0, .aload_n 0, 0, 0, 0, 0, []), (1, .invokespecial 3, 0, 98, 0, 0, []), (4, .aload_n 0, 0, 0, 0, 0, []), (5, .iconst 3, 0, 0, 3, 0, []), (6, .newarray .int, 0, 0, 0, 0, []), (8, .putfield 9, 6, 3, 0, 0, []), (11, .aload_n 0, 0, 0, 0, 0, []), (12, .iconst 3, 0, 0, 3, 0, []), (13, .newarray .int, 0, 0, 0, 0, []), (15, .putfield 15, 6, 4, 0, 0, []), (18, .aload_n 0, 0, 0, 0, 0, []), (19, .iconst 3, 0, 0, 3, 0, []), (20, .newarray .int, 0, 0, 0, 0, []), (22, .putfield 18, 6, 5, 0, 0, []), (25, .aload_n 0, 0, 0, 0, 0, []), (26, .iconst 3, 0, 0, 3, 0, []), (27, .newarray .int, 0, 0, 0, 0, []), (29, .putfield 21, 6, 6, 0, 0, []), (32, .aload_n 0, 0, 0, 0, 0, []), (33, .aload_n 1, 1, 0, 0, 0, []), (34, .putfield 24, 6, 0, 0, 0, []), (37, .aload_n 0, 0, 0, 0, 0, []), (38, .aload_n 2, 2, 0, 0, 0, []), (39, .putfield 28, 6, 1, 0, 0, []), (42, .return_, 0, 0, 0, 0, [])]
noncomputable def ey6_init : YN := []
noncomputable def yF6_init : YF := yrun ty6_init ey6_init 0 4 3000 3
def oy6_init : List Nat := [3]
def fy6_init : List (Nat × Nat × Nat) := [(9, 6, 3), (15, 6, 4), (18, 6, 5), (21, 6, 6), (24, 6, 0), (28, 6, 1)]
def ly6_init : List (Nat × Int64) := []
def ny6_init : List (Nat × Nat) := []
def qy6_init : List (Nat × Nat) := []
set_option maxRecDepth 20000 in
theorem oyk6_init : ∀ i ∈ oy6_init, Cond.methodLink xR6 i Lib.objectInit ∈ xG := List.forall_mem_cons.mpr ⟨xG_k xT_2 122 rfl rfl, fun _ h => absurd h List.not_mem_nil⟩
set_option maxRecDepth 20000 in
theorem fyk6_init : ∀ q ∈ fy6_init, xfl xR6 q := List.forall_mem_cons.mpr ⟨⟨xR6, xT6, 7, rfl, by decide, xG_k xT_2 127 rfl rfl⟩, List.forall_mem_cons.mpr ⟨⟨xR6, xT6, 7, rfl, by decide, xG_k xT_2 129 rfl rfl⟩, List.forall_mem_cons.mpr ⟨⟨xR6, xT6, 7, rfl, by decide, xG_k xT_2 131 rfl rfl⟩, List.forall_mem_cons.mpr ⟨⟨xR6, xT6, 7, rfl, by decide, xG_k xT_2 132 rfl rfl⟩, List.forall_mem_cons.mpr ⟨⟨xR6, xT6, 7, rfl, by decide, xG_k xT_2 123 rfl rfl⟩, List.forall_mem_cons.mpr ⟨⟨xR6, xT6, 7, rfl, by decide, xG_k xT_2 124 rfl rfl⟩, fun _ h => absurd h List.not_mem_nil⟩⟩⟩⟩⟩⟩
set_option maxRecDepth 20000 in
theorem lyk6_init : ∀ q ∈ ly6_init, Cond.constantLong xR6 q.1 q.2 ∈ xG := fun _ h => absurd h List.not_mem_nil
set_option maxRecDepth 20000 in
theorem nyk6_init : ∀ q ∈ ny6_init, ynw xR6 q.1 q.2 := fun _ h => absurd h List.not_mem_nil
set_option maxRecDepth 20000 in
theorem qyk6_init : ∀ q ∈ qy6_init, Cond.classLink xR6 q.1 (yqr q.2) ∈ xG := fun _ h => absurd h List.not_mem_nil
set_option maxRecDepth 20000 in
theorem cy6_init (P : YP) (l : Launch) : CtrY P l (⟨xR6, "<init>", "(LSilenceBall$House;LSilenceBall$Scene;)V"⟩ : MethodName) prog_8_method_1_code 3 none 1 4 yF6_init :=
  CtrY_of (tab := ty6_init) (env := ey6_init) (K := 3000) (oc := 6) (ol := oy6_init) (fl := fy6_init) (ll := ly6_init) (nl := ny6_init) (ql := qy6_init) (by decide +kernel) ⟨by decide +kernel, oyk6_init, fyk6_init, lyk6_init, nyk6_init, qyk6_init, fun _ => ⟨rfl, rfl⟩⟩ (by decide) (fun _ h => absurd h List.not_mem_nil) (by decide) ⟨_, _, rfl, rfl⟩ (.inl rfl)
def ty11_init : List XE := [(0, .aload_n 0, 0, 0, 0, 0, []), (1, .invokespecial 1, 0, 98, 0, 0, []), (4, .aload_n 0, 0, 0, 0, 0, []), (5, .new 7, 10, 0, 0, 0, []), (8, .dup, 0, 0, 0, 0, []), (9, .invokespecial 9, 1, 10, 0, 0, []), (12, .putfield 10, 11, 0, 0, 0, []), (15, .aload_n 0, 0, 0, 0, 0, []), (16, .new 16, 2, 0, 0, 0, []), (19, .dup, 0, 0, 0, 0, []), (20, .invokespecial 18, 1, 2, 0, 0, []), (23, .putfield 19, 11, 1, 0, 0, []), (26, .aload_n 0, 0, 0, 0, 0, []), (27, .new 23, 7, 0, 0, 0, []), (30, .dup, 0, 0, 0, 0, []), (31, .aload_n 0, 0, 0, 0, 0, []), (32, .getfield 10, 11, 0, 0, 0, []), (35, .invokespecial 25, 2, 7, 0, 0, []), (38, .putfield 28, 11, 2, 0, 0, []), (41, .aload_n 0, 0, 0, 0, 0, []), (42, .new 32, 1, 0, 0, 0, []), (45, .dup, 0, 0, 0, 0, []), (46, .invokespecial 34, 1, 1, 0, 0, []), (49, .putfield 35, 11, 3, 0, 0, []), (52, .aload_n 0, 0, 0, 0, 0, []), (53, .new 32, 1, 0, 0, 0, []), (56, .dup, 0, 0, 0, 0, []), (57, .invokespecial 34, 1, 1, 0, 0, []), (60, .putfield 39, 11, 4, 0, 0, []), (63, .aload_n 0, 0, 0, 0, 0, []), (64, .new 42, 8, 0, 0, 0, []), (67, .dup, 0, 0, 0, 0, []), (68, .aload_n 0, 0, 0, 0, 0, []), (69, .getfield 19, 11, 1, 0, 0, []), (72, .invokespecial 44, 2, 8, 0, 0, []), (75, .putfield 47, 11, 5, 0, 0, []), (78, .aload_n 0, 0, 0, 0, 0, []), (79, .new 42, 8, 0, 0, 0, []), (82, .dup, 0, 0, 0, 0, []), (83, .aload_n 0, 0, 0, 0, 0, []), (84, .getfield 19, 11, 1, 0, 0, []), (87, .invokespecial 44, 2, 8, 0, 0, []), (90, .putfield 51, 11, 6, 0, 0, []), (93, .aload_n 0, 0, 0, 0, 0, []), (94, .new 54, 0, 0, 0, 0, []), (97, .dup, 0, 0, 0, 0, []), (98, .aload_n 0, 0, 0, 0, 0, []), (99, .getfield 19, 11, 1, 0, 0, []), (102, .invokespecial 56, 2, 0, 0, 0, []), (105, .putfield 57, 11, 7, 0, 0, []), (108, .aload_n 0, 0, 0, 0, 0, []), (109, .iconst 4, 0, 0, 4, 0, []), (110, .anewarray 61, 5, 0, 0, 0, []), (113, .putfield 63, 11, 8, 0, 0, []), (116, .iconst 0, 0, 0, 0, 0, []), (117, .istore_n 1, 1, 0, 0, 0, []), (118, .iload_n 1, 1, 0, 0, 0, []), (119, .aload_n 0, 0, 0, 0, 0, []), (120, .getfield 63, 11, 8, 0, 0, []), (123, .arraylength, 0, 0, 0, 0, []), (124, .if_icmp .ge 26, 150, 0, 0, 0, []), (127, .aload_n 0, 0, 0, 0, 0, []), (128, .getfield 63, 11, 8, 0, 0, []), (131, .iload_n 1, 1, 0, 0, 0, []), (132, .new 61, 5, 0, 0, 0, []), (135, .dup, 0, 0, 0, 0, []), (136, .aload_n 0, 0, 0, 0, 0, []), (137, .getfield 19, 11, 1, 0, 0, []), (140, .invokespecial 67, 2, 5, 0, 0, []), (143, .aastore, 0, 0, 0, 0, []), (144, .iinc 1 1, 1, 0, 1, 0, []), (147, .goto (-29), 118, 0, 0, 0, []), (150, .aload_n 0, 0, 0, 0, 0, []), (151, .new 68, 9, 0, 0, 0, []), (154, .dup, 0, 0, 0, 0, []), (155, .invokespecial 70, 1, 9, 0, 0, []), (158, .putfield 71, 11, 9, 0, 0, []), (161, .aload_n 0, 0, 0, 0, 0, []), (162, .new 75, 3, 0, 0, 0, []), (165, .dup, 0, 0, 0, 0, []), (166, .invokespecial 77, 1, 3, 0, 0, []), (169, .putfield 78, 11, 10, 0, 0, []), (172, .aload_n 0, 0, 0, 0, 0, []), (173, .new 82, 6, 0, 0, 0, []), (176, .dup, 0, 0, 0, 0, []), (177, .aload_n 0, 0, 0, 0, 0, []), (178, .getfield 19, 11, 1, 0, 0, []), (181, .aload_n 0, 0, 0, 0, 0, []), (182, .getfield 47, 11, 5, 0, 0, []), (185, .invokespecial 84, 3, 6, 0, 0, []), (188, .putfield 87, 11, 11, 0, 0, []), (191, .return_, 0, 0, 0, 0, [])]
noncomputable def ey11_init : YN := [(9, 1, 10, 1, yF10_init), (18, 1, 2, 14, yF2_init), (25, 2, 7, 15, yF7_init), (34, 1, 1, 4, yF1_init), (44, 2, 8, 4, yF8_init), (56, 2, 0, 81, yF0_init), (67, 2, 5, 8, yF5_init), (70, 1, 9, 2, yF9_init), (77, 1, 3, 1, yF3_init), (84, 3, 6, 4, yF6_init)]
noncomputable def yF11_init : YF := yrun ty11_init ey11_init 0 182 3000 2
def oy11_init : List Nat := [1]
def fy11_init : List (Nat × Nat × Nat) := [(10, 11, 0), (19, 11, 1), (28, 11, 2), (35, 11, 3), (39, 11, 4), (47, 11, 5), (51, 11, 6), (57, 11, 7), (63, 11, 8), (71, 11, 9), (78, 11, 10), (87, 11, 11)]
def ly11_init : List (Nat × Int64) := []
def ny11_init : List (Nat × Nat) := [(7, 10), (16, 2), (23, 7), (32, 1), (42, 8), (54, 0), (61, 5), (68, 9), (75, 3), (82, 6)]
def qy11_init : List (Nat × Nat) := [(61, 5)]
set_option maxRecDepth 20000 in
theorem oyk11_init : ∀ i ∈ oy11_init, Cond.methodLink xR11 i Lib.objectInit ∈ xG := List.forall_mem_cons.mpr ⟨xG_k xT_1 31 rfl rfl, fun _ h => absurd h List.not_mem_nil⟩
set_option maxRecDepth 20000 in
theorem fyk11_init : ∀ q ∈ fy11_init, xfl xR11 q := List.forall_mem_cons.mpr ⟨⟨xR11, xT11, 12, rfl, by decide, xG_k xT_2 148 rfl rfl⟩, List.forall_mem_cons.mpr ⟨⟨xR11, xT11, 12, rfl, by decide, xG_k xT_2 149 rfl rfl⟩, List.forall_mem_cons.mpr ⟨⟨xR11, xT11, 12, rfl, by decide, xG_k xT_2 150 rfl rfl⟩, List.forall_mem_cons.mpr ⟨⟨xR11, xT11, 12, rfl, by decide, xG_k xT_2 151 rfl rfl⟩, List.forall_mem_cons.mpr ⟨⟨xR11, xT11, 12, rfl, by decide, xG_k xT_2 152 rfl rfl⟩, List.forall_mem_cons.mpr ⟨⟨xR11, xT11, 12, rfl, by decide, xG_k xT_2 153 rfl rfl⟩, List.forall_mem_cons.mpr ⟨⟨xR11, xT11, 12, rfl, by decide, xG_k xT_2 154 rfl rfl⟩, List.forall_mem_cons.mpr ⟨⟨xR11, xT11, 12, rfl, by decide, xG_k xT_2 155 rfl rfl⟩, List.forall_mem_cons.mpr ⟨⟨xR11, xT11, 12, rfl, by decide, xG_k xT_2 156 rfl rfl⟩, List.forall_mem_cons.mpr ⟨⟨xR11, xT11, 12, rfl, by decide, xG_k xT_2 157 rfl rfl⟩, List.forall_mem_cons.mpr ⟨⟨xR11, xT11, 12, rfl, by decide, xG_k xT_2 158 rfl rfl⟩, List.forall_mem_cons.mpr ⟨⟨xR11, xT11, 12, rfl, by decide, xG_k xT_2 159 rfl rfl⟩, fun _ h => absurd h List.not_mem_nil⟩⟩⟩⟩⟩⟩⟩⟩⟩⟩⟩⟩
set_option maxRecDepth 20000 in
theorem lyk11_init : ∀ q ∈ ly11_init, Cond.constantLong xR11 q.1 q.2 ∈ xG := fun _ h => absurd h List.not_mem_nil
set_option maxRecDepth 20000 in
theorem nyk11_init : ∀ q ∈ ny11_init, ynw xR11 q.1 q.2 := List.forall_mem_cons.mpr ⟨⟨xR10, xT10, 8, rfl, xG_k xT_1 34 rfl rfl, xG_k xT_1 35 rfl rfl, xG_k xT_1 2 rfl rfl⟩, List.forall_mem_cons.mpr ⟨⟨xR2, xT2, 17, rfl, xG_k xT_1 74 rfl rfl, xG_k xT_1 75 rfl rfl, xG_k xT_1 3 rfl rfl⟩, List.forall_mem_cons.mpr ⟨⟨xR7, xT7, 5, rfl, xG_k xT_1 198 rfl rfl, xG_k xT_1 199 rfl rfl, xG_k xT_1 5 rfl rfl⟩, List.forall_mem_cons.mpr ⟨⟨xR1, xT1, 5, rfl, xG_k xT_1 223 rfl rfl, xG_k xT_1 224 rfl rfl, xG_k xT_1 6 rfl rfl⟩, List.forall_mem_cons.mpr ⟨⟨xR8, xT8, 9, rfl, xG_k xT_2 6 rfl rfl, xG_k xT_2 7 rfl rfl, xG_k xT_1 7 rfl rfl⟩, List.forall_mem_cons.mpr ⟨⟨xR0, xT0, 3, rfl, xG_k xT_2 49 rfl rfl, xG_k xT_2 50 rfl rfl, xG_k xT_1 8 rfl rfl⟩, List.forall_mem_cons.mpr ⟨⟨xR5, xT5, 3, rfl, xG_k xT_2 69 rfl rfl, xG_k xT_2 71 rfl rfl, xG_k xT_1 9 rfl rfl⟩, List.forall_mem_cons.mpr ⟨⟨xR9, xT9, 3, rfl, xG_k xT_2 105 rfl rfl, xG_k xT_2 77 rfl rfl, xG_k xT_1 10 rfl rfl⟩, List.forall_mem_cons.mpr ⟨⟨xR3, xT3, 1, rfl, xG_k xT_2 107 rfl rfl, xG_k xT_2 108 rfl rfl, xG_k xT_1 11 rfl rfl⟩, List.forall_mem_cons.mpr ⟨⟨xR6, xT6, 7, rfl, xG_k xT_2 117 rfl rfl, xG_k xT_2 118 rfl rfl, xG_k xT_1 12 rfl rfl⟩, fun _ h => absurd h List.not_mem_nil⟩⟩⟩⟩⟩⟩⟩⟩⟩⟩
set_option maxRecDepth 20000 in
theorem qyk11_init : ∀ q ∈ qy11_init, Cond.classLink xR11 q.1 (yqr q.2) ∈ xG := List.forall_mem_cons.mpr ⟨xG_k xT_2 69 rfl rfl, fun _ h => absurd h List.not_mem_nil⟩
set_option maxRecDepth 20000 in
theorem cy11_init (P : YP) (l : Launch) : CtrY P l (⟨xR11, "<init>", "()V"⟩ : MethodName) prog_1_method_1_code 2 none 4 182 yF11_init :=
  CtrY_of (tab := ty11_init) (env := ey11_init) (K := 3000) (oc := 11) (ol := oy11_init) (fl := fy11_init) (ll := ly11_init) (nl := ny11_init) (ql := qy11_init) (by decide +kernel) ⟨by decide +kernel, oyk11_init, fyk11_init, lyk11_init, nyk11_init, qyk11_init, fun _ => ⟨rfl, rfl⟩⟩ (by decide) (List.forall_mem_cons.mpr ⟨ycal_I (y := ⟨xR10, "<init>", "()V"⟩) (b := prog_12_method_1_code) (maxL := 1) (n := 0) (cy10_init P l) (yrun_mk _ _ _ _ _ _) (xG_k xT_1 38 rfl rfl) (xG_k xT_1 2 rfl rfl) ⟨by decide +kernel, by decide +kernel⟩ (xG_k xT_1 37 rfl rfl) ⟨by decide, by decide⟩ rfl (by decide +kernel) (by decide) rfl (.inr (List.mem_of_getElem? (i := 0) rfl)), List.forall_mem_cons.mpr ⟨ycal_I (y := ⟨xR2, "<init>", "()V"⟩) (b := prog_4_method_1_code) (maxL := 1) (n := 0) (cy2_init P l) (yrun_mk _ _ _ _ _ _) (xG_k xT_1 78 rfl rfl) (xG_k xT_1 3 rfl rfl) ⟨by decide +kernel, by decide +kernel⟩ (xG_k xT_1 77 rfl rfl) ⟨by decide, by decide⟩ rfl (by decide +kernel) (by decide) rfl (.inr (List.mem_of_getElem? (i := 1) rfl)), List.forall_mem_cons.mpr ⟨ycal_I (y := ⟨xR7, "<init>", "(LSilenceBall$Tape;)V"⟩) (b := prog_9_method_1_code) (maxL := 2) (n := 1) (cy7_init P l) (yrun_mk _ _ _ _ _ _) (xG_k xT_1 202 rfl rfl) (xG_k xT_1 5 rfl rfl) ⟨by decide +kernel, by decide +kernel⟩ (xG_k xT_1 201 rfl rfl) ⟨by decide, by decide⟩ rfl (by decide +kernel) (by decide) rfl (.inl (xG_k xT_1 200 rfl rfl)), List.forall_mem_cons.mpr ⟨ycal_I (y := ⟨xR1, "<init>", "()V"⟩) (b := prog_3_method_1_code) (maxL := 1) (n := 0) (cy1_init P l) (yrun_mk _ _ _ _ _ _) (xG_k xT_1 227 rfl rfl) (xG_k xT_1 6 rfl rfl) ⟨by decide +kernel, by decide +kernel⟩ (xG_k xT_1 226 rfl rfl) ⟨by decide, by decide⟩ rfl (by decide +kernel) (by decide) rfl (.inr (List.mem_of_getElem? (i := 4) rfl)), List.forall_mem_cons.mpr ⟨ycal_I (y := ⟨xR8, "<init>", "(LSilenceBall$House;)V"⟩) (b := prog_10_method_1_code) (maxL := 2) (n := 1) (cy8_init P l) (yrun_mk _ _ _ _ _ _) (xG_k xT_2 10 rfl rfl) (xG_k xT_1 7 rfl rfl) ⟨by decide +kernel, by decide +kernel⟩ (xG_k xT_2 9 rfl rfl) ⟨by decide, by decide⟩ rfl (by decide +kernel) (by decide) rfl (.inl (xG_k xT_2 8 rfl rfl)), List.forall_mem_cons.mpr ⟨ycal_I (y := ⟨xR0, "<init>", "(LSilenceBall$House;)V"⟩) (b := prog_2_method_1_code) (maxL := 3) (n := 1) (cy0_init P l) (yrun_mk _ _ _ _ _ _) (xG_k xT_2 53 rfl rfl) (xG_k xT_1 8 rfl rfl) ⟨by decide +kernel, by decide +kernel⟩ (xG_k xT_2 52 rfl rfl) ⟨by decide, by decide⟩ rfl (by decide +kernel) (by decide) rfl (.inl (xG_k xT_2 51 rfl rfl)), List.forall_mem_cons.mpr ⟨ycal_I (y := ⟨xR5, "<init>", "(LSilenceBall$House;)V"⟩) (b := prog_7_method_1_code) (maxL := 2) (n := 1) (cy5_init P l) (yrun_mk _ _ _ _ _ _) (xG_k xT_2 74 rfl rfl) (xG_k xT_1 9 rfl rfl) ⟨by decide +kernel, by decide +kernel⟩ (xG_k xT_2 73 rfl rfl) ⟨by decide, by decide⟩ rfl (by decide +kernel) (by decide) rfl (.inl (xG_k xT_2 72 rfl rfl)), List.forall_mem_cons.mpr ⟨ycal_I (y := ⟨xR9, "<init>", "()V"⟩) (b := prog_11_method_1_code) (maxL := 1) (n := 0) (cy9_init P l) (yrun_mk _ _ _ _ _ _) (xG_k xT_2 80 rfl rfl) (xG_k xT_1 10 rfl rfl) ⟨by decide +kernel, by decide +kernel⟩ (xG_k xT_2 79 rfl rfl) ⟨by decide, by decide⟩ rfl (by decide +kernel) (by decide) rfl (.inr (List.mem_of_getElem? (i := 6) rfl)), List.forall_mem_cons.mpr ⟨ycal_I (y := ⟨xR3, "<init>", "()V"⟩) (b := prog_5_method_1_code) (maxL := 1) (n := 0) (cy3_init P l) (yrun_mk _ _ _ _ _ _) (xG_k xT_2 111 rfl rfl) (xG_k xT_1 11 rfl rfl) ⟨by decide +kernel, by decide +kernel⟩ (xG_k xT_2 110 rfl rfl) ⟨by decide, by decide⟩ rfl (by decide +kernel) (by decide) rfl (.inr (List.mem_of_getElem? (i := 7) rfl)), List.forall_mem_cons.mpr ⟨ycal_I (y := ⟨xR6, "<init>", "(LSilenceBall$House;LSilenceBall$Scene;)V"⟩) (b := prog_8_method_1_code) (maxL := 3) (n := 2) (cy6_init P l) (yrun_mk _ _ _ _ _ _) (xG_k xT_2 121 rfl rfl) (xG_k xT_1 12 rfl rfl) ⟨by decide +kernel, by decide +kernel⟩ (xG_k xT_2 120 rfl rfl) ⟨by decide, by decide⟩ rfl (by decide +kernel) (by decide) rfl (.inl (xG_k xT_2 119 rfl rfl)), fun _ h => absurd h List.not_mem_nil⟩⟩⟩⟩⟩⟩⟩⟩⟩⟩) (by decide) ⟨_, _, rfl, rfl⟩ (.inl rfl)
def ty12_guests : List XE := [(0, .aload_n 0, 0, 0, 0, 0, []), (1, .getfield 91, 12, 10, 0, 0, []), (4, .iconst 0, 0, 0, 0, 0, []), (5, .iaload, 0, 0, 0, 0, []), (6, .ireturn, 0, 0, 0, 0, [])]
noncomputable def ey12_guests : YN := []
noncomputable def yF12_guests : YF := yrun ty12_guests ey12_guests 1 0 3000 1
def oy12_guests : List Nat := []
def fy12_guests : List (Nat × Nat × Nat) := [(91, 12, 10)]
def ly12_guests : List (Nat × Int64) := []
def ny12_guests : List (Nat × Nat) := []
def qy12_guests : List (Nat × Nat) := []
set_option maxRecDepth 20000 in
theorem oyk12_guests : ∀ i ∈ oy12_guests, Cond.methodLink xR12 i Lib.objectInit ∈ xG := fun _ h => absurd h List.not_mem_nil
set_option maxRecDepth 20000 in
theorem fyk12_guests : ∀ q ∈ fy12_guests, xfl xR12 q := List.forall_mem_cons.mpr ⟨⟨xR12, xT12, 34, rfl, by decide, xG_k xT_6 200 rfl rfl⟩, fun _ h => absurd h List.not_mem_nil⟩
set_option maxRecDepth 20000 in
theorem lyk12_guests : ∀ q ∈ ly12_guests, Cond.constantLong xR12 q.1 q.2 ∈ xG := fun _ h => absurd h List.not_mem_nil
set_option maxRecDepth 20000 in
theorem nyk12_guests : ∀ q ∈ ny12_guests, ynw xR12 q.1 q.2 := fun _ h => absurd h List.not_mem_nil
set_option maxRecDepth 20000 in
theorem qyk12_guests : ∀ q ∈ qy12_guests, Cond.classLink xR12 q.1 (yqr q.2) ∈ xG := fun _ h => absurd h List.not_mem_nil
set_option maxRecDepth 20000 in
theorem cy12_guests (P : YP) (l : Launch) : CtrY P l (⟨xR12, "guests", "()I"⟩ : MethodName) prog_14_method_45_code 1 (some .int) 1 0 yF12_guests :=
  CtrY_of (tab := ty12_guests) (env := ey12_guests) (K := 3000) (oc := 99) (ol := oy12_guests) (fl := fy12_guests) (ll := ly12_guests) (nl := ny12_guests) (ql := qy12_guests) (by decide +kernel) ⟨by decide +kernel, oyk12_guests, fyk12_guests, lyk12_guests, nyk12_guests, qyk12_guests, fun z => absurd rfl z⟩ (by decide) (fun _ h => absurd h List.not_mem_nil) (by decide) ⟨_, _, rfl, rfl⟩ (.inr rfl)
def ty12_standsAsAlways : List XE := [(0, .iconst 0, 0, 0, 0, 0, []), (1, .istore_n 2, 2, 0, 0, 0, []), (2, .iload_n 2, 2, 0, 0, 0, []), (3, .bipush 60, 0, 0, 60, 0, []), (5, .if_icmp .ge 18, 23, 0, 0, 0, []), (8, .aload_n 0, 0, 0, 0, 0, []), (9, .getfield 91, 12, 10, 0, 0, []), (12, .iload_n 1, 1, 0, 0, 0, []), (13, .iload_n 2, 2, 0, 0, 0, []), (14, .iadd, 0, 0, 0, 0, []), (15, .iconst 0, 0, 0, 0, 0, []), (16, .iastore, 0, 0, 0, 0, []), (17, .iinc 2 1, 2, 0, 1, 0, []), (20, .goto (-18), 2, 0, 0, 0, []), (23, .aload_n 0, 0, 0, 0, 0, []), (24, .getfield 91, 12, 10, 0, 0, []), (27, .iload_n 1, 1, 0, 0, 0, []), (28, .iconst 5, 0, 0, 5, 0, []), (29, .iadd, 0, 0, 0, 0, []), (30, .iconst (-1), 0, 0, (-1), 0, []), (31, .iastore, 0, 0, 0, 0, []), (32, .return_, 0, 0, 0, 0, [])]
noncomputable def ey12_standsAsAlways : YN := []
noncomputable def yF12_standsAsAlways : YF := yrun ty12_standsAsAlways ey12_standsAsAlways 0 0 3000 3
def oy12_standsAsAlways : List Nat := []
def fy12_standsAsAlways : List (Nat × Nat × Nat) := [(91, 12, 10)]
def ly12_standsAsAlways : List (Nat × Int64) := []
def ny12_standsAsAlways : List (Nat × Nat) := []
def qy12_standsAsAlways : List (Nat × Nat) := []
set_option maxRecDepth 20000 in
theorem oyk12_standsAsAlways : ∀ i ∈ oy12_standsAsAlways, Cond.methodLink xR12 i Lib.objectInit ∈ xG := fun _ h => absurd h List.not_mem_nil
set_option maxRecDepth 20000 in
theorem fyk12_standsAsAlways : ∀ q ∈ fy12_standsAsAlways, xfl xR12 q := List.forall_mem_cons.mpr ⟨⟨xR12, xT12, 34, rfl, by decide, xG_k xT_6 200 rfl rfl⟩, fun _ h => absurd h List.not_mem_nil⟩
set_option maxRecDepth 20000 in
theorem lyk12_standsAsAlways : ∀ q ∈ ly12_standsAsAlways, Cond.constantLong xR12 q.1 q.2 ∈ xG := fun _ h => absurd h List.not_mem_nil
set_option maxRecDepth 20000 in
theorem nyk12_standsAsAlways : ∀ q ∈ ny12_standsAsAlways, ynw xR12 q.1 q.2 := fun _ h => absurd h List.not_mem_nil
set_option maxRecDepth 20000 in
theorem qyk12_standsAsAlways : ∀ q ∈ qy12_standsAsAlways, Cond.classLink xR12 q.1 (yqr q.2) ∈ xG := fun _ h => absurd h List.not_mem_nil
set_option maxRecDepth 20000 in
theorem cy12_standsAsAlways (P : YP) (l : Launch) : CtrY P l (⟨xR12, "standsAsAlways", "(I)V"⟩ : MethodName) prog_14_method_18_code 3 none 1 0 yF12_standsAsAlways :=
  CtrY_of (tab := ty12_standsAsAlways) (env := ey12_standsAsAlways) (K := 3000) (oc := 99) (ol := oy12_standsAsAlways) (fl := fy12_standsAsAlways) (ll := ly12_standsAsAlways) (nl := ny12_standsAsAlways) (ql := qy12_standsAsAlways) (by decide +kernel) ⟨by decide +kernel, oyk12_standsAsAlways, fyk12_standsAsAlways, lyk12_standsAsAlways, nyk12_standsAsAlways, qyk12_standsAsAlways, fun z => absurd rfl z⟩ (by decide) (fun _ h => absurd h List.not_mem_nil) (by decide) ⟨_, _, rfl, rfl⟩ (.inl rfl)
def ty12_starts : List XE := [(0, .iconst 0, 0, 0, 0, 0, []), (1, .istore_n 2, 2, 0, 0, 0, []), (2, .iload_n 2, 2, 0, 0, 0, []), (3, .bipush 30, 0, 0, 30, 0, []), (5, .if_icmp .ge 18, 23, 0, 0, 0, []), (8, .aload_n 0, 0, 0, 0, 0, []), (9, .getfield 121, 12, 24, 0, 0, []), (12, .iload_n 1, 1, 0, 0, 0, []), (13, .iload_n 2, 2, 0, 0, 0, []), (14, .iadd, 0, 0, 0, 0, []), (15, .iconst 0, 0, 0, 0, 0, []), (16, .iastore, 0, 0, 0, 0, []), (17, .iinc 2 1, 2, 0, 1, 0, []), (20, .goto (-18), 2, 0, 0, 0, []), (23, .aload_n 0, 0, 0, 0, 0, []), (24, .getfield 121, 12, 24, 0, 0, []), (27, .iload_n 1, 1, 0, 0, 0, []), (28, .iconst 1, 0, 0, 1, 0, []), (29, .iadd, 0, 0, 0, 0, []), (30, .aload_n 0, 0, 0, 0, 0, []), (31, .getfield 91, 12, 10, 0, 0, []), (34, .iconst 3, 0, 0, 3, 0, []), (35, .iaload, 0, 0, 0, 0, []), (36, .iastore, 0, 0, 0, 0, []), (37, .aload_n 0, 0, 0, 0, 0, []), (38, .getfield 121, 12, 24, 0, 0, []), (41, .iload_n 1, 1, 0, 0, 0, []), (42, .iconst 2, 0, 0, 2, 0, []), (43, .iadd, 0, 0, 0, 0, []), (44, .aload_n 0, 0, 0, 0, 0, []), (45, .getfield 91, 12, 10, 0, 0, []), (48, .iconst 4, 0, 0, 4, 0, []), (49, .iaload, 0, 0, 0, 0, []), (50, .iastore, 0, 0, 0, 0, []), (51, .iconst 0, 0, 0, 0, 0, []), (52, .istore_n 2, 2, 0, 0, 0, []), (53, .iload_n 2, 2, 0, 0, 0, []), (54, .aload_n 0, 0, 0, 0, 0, []), (55, .invokevirtual 282, 1, 12, 0, 0, []), (58, .if_icmp .ge 42, 100, 0, 0, 0, []), (61, .aload_n 0, 0, 0, 0, 0, []), (62, .getfield 121, 12, 24, 0, 0, []), (65, .iload_n 1, 1, 0, 0, 0, []), (66, .iconst 3, 0, 0, 3, 0, []), (67, .iadd, 0, 0, 0, 0, []), (68, .iload_n 2, 2, 0, 0, 0, []), (69, .iadd, 0, 0, 0, 0, []), (70, .aload_n 0, 0, 0, 0, 0, []), (71, .iload_n 2, 2, 0, 0, 0, []), (72, .iconst 1, 0, 0, 1, 0, []), (73, .invokevirtual 286, 3, 12, 0, 0, []), (76, .iastore, 0, 0, 0, 0, []), (77, .aload_n 0, 0, 0, 0, 0, []), (78, .getfield 121, 12, 24, 0, 0, []), (81, .iload_n 1, 1, 0, 0, 0, []), (82, .bipush 9, 0, 0, 9, 0, []), (84, .iadd, 0, 0, 0, 0, []), (85, .iload_n 2, 2, 0, 0, 0, []), (86, .iadd, 0, 0, 0, 0, []), (87, .aload_n 0, 0, 0, 0, 0, []), (88, .iload_n 2, 2, 0, 0, 0, []), (89, .iconst 3, 0, 0, 3, 0, []), (90, .invokevirtual 286, 3, 12, 0, 0, []), (93, .iastore, 0, 0, 0, 0, []), (94, .iinc 2 1, 2, 0, 1, 0, []), (97, .goto (-44), 53, 0, 0, 0, []), (100, .iconst 0, 0, 0, 0, 0, []), (101, .istore_n 2, 2, 0, 0, 0, []), (102, .iload_n 2, 2, 0, 0, 0, []), (103, .bipush 6, 0, 0, 6, 0, []), (105, .if_icmp .ge 21, 126, 0, 0, 0, []), (108, .aload_n 0, 0, 0, 0, 0, []), (109, .getfield 121, 12, 24, 0, 0, []), (112, .iload_n 1, 1, 0, 0, 0, []), (113, .bipush 15, 0, 0, 15, 0, []), (115, .iadd, 0, 0, 0, 0, []), (116, .iload_n 2, 2, 0, 0, 0, []), (117, .iadd, 0, 0, 0, 0, []), (118, .iconst (-1), 0, 0, (-1), 0, []), (119, .iastore, 0, 0, 0, 0, []), (120, .iinc 2 1, 2, 0, 1, 0, []), (123, .goto (-21), 102, 0, 0, 0, []), (126, .return_, 0, 0, 0, 0, [])]
noncomputable def ey12_starts : YN := [(282 + 100000, 1, 12, 0, yF12_guests)]
noncomputable def yF12_starts : YF := yrun ty12_starts ey12_starts 0 0 3000 3
def oy12_starts : List Nat := []
def fy12_starts : List (Nat × Nat × Nat) := [(121, 12, 24), (91, 12, 10)]
def ly12_starts : List (Nat × Int64) := []
def ny12_starts : List (Nat × Nat) := []
def qy12_starts : List (Nat × Nat) := []
set_option maxRecDepth 20000 in
theorem oyk12_starts : ∀ i ∈ oy12_starts, Cond.methodLink xR12 i Lib.objectInit ∈ xG := fun _ h => absurd h List.not_mem_nil
set_option maxRecDepth 20000 in
theorem fyk12_starts : ∀ q ∈ fy12_starts, xfl xR12 q := List.forall_mem_cons.mpr ⟨⟨xR12, xT12, 34, rfl, by decide, xG_k xT_6 214 rfl rfl⟩, List.forall_mem_cons.mpr ⟨⟨xR12, xT12, 34, rfl, by decide, xG_k xT_6 200 rfl rfl⟩, fun _ h => absurd h List.not_mem_nil⟩⟩
set_option maxRecDepth 20000 in
theorem lyk12_starts : ∀ q ∈ ly12_starts, Cond.constantLong xR12 q.1 q.2 ∈ xG := fun _ h => absurd h List.not_mem_nil
set_option maxRecDepth 20000 in
theorem nyk12_starts : ∀ q ∈ ny12_starts, ynw xR12 q.1 q.2 := fun _ h => absurd h List.not_mem_nil
set_option maxRecDepth 20000 in
theorem qyk12_starts : ∀ q ∈ qy12_starts, Cond.classLink xR12 q.1 (yqr q.2) ∈ xG := fun _ h => absurd h List.not_mem_nil
set_option maxRecDepth 20000 in
theorem cy12_starts (P : YP) (l : Launch) : CtrY P l (⟨xR12, "starts", "(I)V"⟩ : MethodName) prog_14_method_42_code 3 none 2 0 yF12_starts :=
  CtrY_of (tab := ty12_starts) (env := ey12_starts) (K := 3000) (oc := 99) (ol := oy12_starts) (fl := fy12_starts) (ll := ly12_starts) (nl := ny12_starts) (ql := qy12_starts) (by decide +kernel) ⟨by decide +kernel, oyk12_starts, fyk12_starts, lyk12_starts, nyk12_starts, qyk12_starts, fun z => absurd rfl z⟩ (by decide) (List.forall_mem_cons.mpr ⟨ycal_V (idx := 282) (y := ⟨xR12, "guests", "()I"⟩) (b := prog_14_method_45_code) (maxL := 1) (n := 0) (cy12_guests P l) (yrun_mk _ _ _ _ _ _) (xG_k xT_6 185 rfl rfl) (xG_k xT_1 13 rfl rfl) ⟨by decide +kernel, by decide +kernel⟩ (xG_k xT_6 184 rfl rfl) ⟨by decide, by decide⟩ rfl (by decide +kernel) (xG_k xT_6 182 rfl rfl) (xG_s xV_3 13 rfl), fun _ h => absurd h List.not_mem_nil⟩) (by decide) ⟨_, _, rfl, rfl⟩ (.inl rfl)
def ty12_begins : List XE := [(0, .aload_n 0, 0, 0, 0, 0, []), (1, .iconst 0, 0, 0, 0, 0, []), (2, .invokevirtual 289, 2, 12, 0, 0, []), (5, .aload_n 0, 0, 0, 0, 0, []), (6, .getfield 121, 12, 24, 0, 0, []), (9, .bipush 30, 0, 0, 30, 0, []), (11, .iconst 0, 0, 0, 0, 0, []), (12, .iastore, 0, 0, 0, 0, []), (13, .aload_n 0, 0, 0, 0, 0, []), (14, .getfield 112, 12, 21, 0, 0, []), (17, .iconst 0, 0, 0, 0, 0, []), (18, .iconst 0, 0, 0, 0, 0, []), (19, .iastore, 0, 0, 0, 0, []), (20, .aload_n 0, 0, 0, 0, 0, []), (21, .iconst 0, 0, 0, 0, 0, []), (22, .putfield 292, 12, 25, 0, 0, []), (25, .iconst 0, 0, 0, 0, 0, []), (26, .istore_n 1, 1, 0, 0, 0, []), (27, .iload_n 1, 1, 0, 0, 0, []), (28, .iconst 4, 0, 0, 4, 0, []), (29, .if_icmp .ge 16, 45, 0, 0, 0, []), (32, .aload_n 0, 0, 0, 0, 0, []), (33, .getfield 124, 12, 26, 0, 0, []), (36, .iload_n 1, 1, 0, 0, 0, []), (37, .iconst 0, 0, 0, 0, 0, []), (38, .bastore, 0, 0, 0, 0, []), (39, .iinc 1 1, 1, 0, 1, 0, []), (42, .goto (-15), 27, 0, 0, 0, []), (45, .return_, 0, 0, 0, 0, [])]
noncomputable def ey12_begins : YN := [(289 + 100000, 2, 12, 0, yF12_starts)]
noncomputable def yF12_begins : YF := yrun ty12_begins ey12_begins 0 0 3000 2
def oy12_begins : List Nat := []
def fy12_begins : List (Nat × Nat × Nat) := [(121, 12, 24), (112, 12, 21), (292, 12, 25), (124, 12, 26)]
def ly12_begins : List (Nat × Int64) := []
def ny12_begins : List (Nat × Nat) := []
def qy12_begins : List (Nat × Nat) := []
set_option maxRecDepth 20000 in
theorem oyk12_begins : ∀ i ∈ oy12_begins, Cond.methodLink xR12 i Lib.objectInit ∈ xG := fun _ h => absurd h List.not_mem_nil
set_option maxRecDepth 20000 in
theorem fyk12_begins : ∀ q ∈ fy12_begins, xfl xR12 q := List.forall_mem_cons.mpr ⟨⟨xR12, xT12, 34, rfl, by decide, xG_k xT_6 214 rfl rfl⟩, List.forall_mem_cons.mpr ⟨⟨xR12, xT12, 34, rfl, by decide, xG_k xT_6 211 rfl rfl⟩, List.forall_mem_cons.mpr ⟨⟨xR12, xT12, 34, rfl, by decide, xG_k xT_6 215 rfl rfl⟩, List.forall_mem_cons.mpr ⟨⟨xR12, xT12, 34, rfl, by decide, xG_k xT_6 216 rfl rfl⟩, fun _ h => absurd h List.not_mem_nil⟩⟩⟩⟩
set_option maxRecDepth 20000 in
theorem lyk12_begins : ∀ q ∈ ly12_begins, Cond.constantLong xR12 q.1 q.2 ∈ xG := fun _ h => absurd h List.not_mem_nil
set_option maxRecDepth 20000 in
theorem nyk12_begins : ∀ q ∈ ny12_begins, ynw xR12 q.1 q.2 := fun _ h => absurd h List.not_mem_nil
set_option maxRecDepth 20000 in
theorem qyk12_begins : ∀ q ∈ qy12_begins, Cond.classLink xR12 q.1 (yqr q.2) ∈ xG := fun _ h => absurd h List.not_mem_nil
set_option maxRecDepth 20000 in
theorem cy12_begins (P : YP) (l : Launch) : CtrY P l (⟨xR12, "begins", "()V"⟩ : MethodName) prog_14_method_43_code 2 none 3 0 yF12_begins :=
  CtrY_of (tab := ty12_begins) (env := ey12_begins) (K := 3000) (oc := 99) (ol := oy12_begins) (fl := fy12_begins) (ll := ly12_begins) (nl := ny12_begins) (ql := qy12_begins) (by decide +kernel) ⟨by decide +kernel, oyk12_begins, fyk12_begins, lyk12_begins, nyk12_begins, qyk12_begins, fun z => absurd rfl z⟩ (by decide) (List.forall_mem_cons.mpr ⟨ycal_V (idx := 289) (y := ⟨xR12, "starts", "(I)V"⟩) (b := prog_14_method_42_code) (maxL := 3) (n := 1) (cy12_starts P l) (yrun_mk _ _ _ _ _ _) (xG_k xT_6 181 rfl rfl) (xG_k xT_1 13 rfl rfl) ⟨by decide +kernel, by decide +kernel⟩ (xG_k xT_6 180 rfl rfl) ⟨by decide, by decide⟩ rfl (by decide +kernel) (xG_k xT_6 178 rfl rfl) (xG_s xV_3 12 rfl), fun _ h => absurd h List.not_mem_nil⟩) (by decide) ⟨_, _, rfl, rfl⟩ (.inl rfl)
def ty12_init : List XE := [(0, .aload_n 0, 0, 0, 0, 0, []), (1, .invokespecial 18, 0, 98, 0, 0, []), (4, .aload_n 0, 0, 0, 0, 0, []), (5, .sipush 1000, 0, 0, 1000, 0, []), (8, .newarray .int, 0, 0, 0, 0, []), (10, .putfield 14, 12, 1, 0, 0, []), (13, .aload_n 0, 0, 0, 0, 0, []), (14, .sipush 1002, 0, 0, 1002, 0, []), (17, .newarray .int, 0, 0, 0, 0, []), (19, .putfield 24, 12, 4, 0, 0, []), (22, .aload_n 0, 0, 0, 0, 0, []), (23, .sipush 1002, 0, 0, 1002, 0, []), (26, .newarray .int, 0, 0, 0, 0, []), (28, .putfield 27, 12, 5, 0, 0, []), (31, .aload_n 0, 0, 0, 0, 0, []), (32, .sipush 1002, 0, 0, 1002, 0, []), (35, .newarray .long, 1, 0, 0, 0, []), (37, .putfield 30, 12, 6, 0, 0, []), (40, .aload_n 0, 0, 0, 0, 0, []), (41, .bipush 27, 0, 0, 27, 0, []), (43, .newarray .long, 1, 0, 0, 0, []), (45, .dup, 0, 0, 0, 0, []), (46, .iconst 0, 0, 0, 0, 0, []), (47, .ldc2_w 34, 0, 0, 0, 14190408, []), (50, .lastore, 0, 0, 0, 0, []), (51, .dup, 0, 0, 0, 0, []), (52, .iconst 1, 0, 0, 1, 0, []), (53, .ldc2_w 36, 0, 0, 0, 57, []), (56, .lastore, 0, 0, 0, 0, []), (57, .dup, 0, 0, 0, 0, []), (58, .iconst 2, 0, 0, 2, 0, []), (59, .ldc2_w 38, 0, 0, 0, 163258, []), (62, .lastore, 0, 0, 0, 0, []), (63, .dup, 0, 0, 0, 0, []), (64, .iconst 3, 0, 0, 3, 0, []), (65, .ldc2_w 40, 0, 0, 0, 172678194, []), (68, .lastore, 0, 0, 0, 0, []), (69, .dup, 0, 0, 0, 0, []), (70, .iconst 4, 0, 0, 4, 0, []), (71, .ldc2_w 42, 0, 0, 0, 1604747591, []), (74, .lastore, 0, 0, 0, 0, []), (75, .dup, 0, 0, 0, 0, []), (76, .iconst 5, 0, 0, 5, 0, []), (77, .ldc2_w 44, 0, 0, 0, 108615, []), (80, .lastore, 0, 0, 0, 0, []), (81, .dup, 0, 0, 0, 0, []), (82, .bipush 6, 0, 0, 6, 0, []), (84, .ldc2_w 46, 0, 0, 0, 4003641, []), (87, .lastore, 0, 0, 0, 0, []), (88, .dup, 0, 0, 0, 0, []), (89, .bipush 7, 0, 0, 7, 0, []), (91, .ldc2_w 48, 0, 0, 0, 17848, []), (94, .lastore, 0, 0, 0, 0, []), (95, .dup, 0, 0, 0, 0, []), (96, .bipush 8, 0, 0, 8, 0, []), (98, .ldc2_w 50, 0, 0, 0, 33989651, []), (101, .lastore, 0, 0, 0, 0, []), (102, .dup, 0, 0, 0, 0, []), (103, .bipush 9, 0, 0, 9, 0, []), (105, .ldc2_w 52, 0, 0, 0, 15769715, []), (108, .lastore, 0, 0, 0, 0, []), (109, .dup, 0, 0, 0, 0, []), (110, .bipush 10, 0, 0, 10, 0, []), (112, .ldc2_w 54, 0, 0, 0, 43183939, []), (115, .lastore, 0, 0, 0, 0, []), (116, .dup, 0, 0, 0, 0, []), (117, .bipush 11, 0, 0, 11, 0, []), (119, .ldc2_w 56, 0, 0, 0, 34216990, []), (122, .lastore, 0, 0, 0, 0, []), (123, .dup, 0, 0, 0, 0, []), (124, .bipush 12, 0, 0, 12, 0, []), (126, .ldc2_w 58, 0, 0, 0, 919077526, []), (129, .lastore, 0, 0, 0, 0, []), (130, .dup, 0, 0, 0, 0, []), (131, .bipush 13, 0, 0, 13, 0, []), (133, .ldc2_w 60, 0, 0, 0, 154051, []), (136, .lastore, 0, 0, 0, 0, []), (137, .dup, 0, 0, 0, 0, []), (138, .bipush 14, 0, 0, 14, 0, []), (140, .ldc2_w 62, 0, 0, 0, 2083, []), (143, .lastore, 0, 0, 0, 0, []), (144, .dup, 0, 0, 0, 0, []), (145, .bipush 15, 0, 0, 15, 0, []), (147, .ldc2_w 64, 0, 0, 0, 990358, []), (150, .lastore, 0, 0, 0, 0, []), (151, .dup, 0, 0, 0, 0, []), (152, .bipush 16, 0, 0, 16, 0, []), (154, .ldc2_w 66, 0, 0, 0, 30596128, []), (157, .lastore, 0, 0, 0, 0, []), (158, .dup, 0, 0, 0, 0, []), (159, .bipush 17, 0, 0, 17, 0, []), (161, .ldc2_w 68, 0, 0, 0, 43186677, []), (164, .lastore, 0, 0, 0, 0, []), (165, .dup, 0, 0, 0, 0, []), (166, .bipush 18, 0, 0, 18, 0, []), (168, .ldc2_w 70, 0, 0, 0, 15248761, []), (171, .lastore, 0, 0, 0, 0, []), (172, .dup, 0, 0, 0, 0, []), (173, .bipush 19, 0, 0, 19, 0, []), (175, .ldc2_w 72, 0, 0, 0, 1332581961, []), (178, .lastore, 0, 0, 0, 0, []), (179, .dup, 0, 0, 0, 0, []), (180, .bipush 20, 0, 0, 20, 0, []), (182, .ldc2_w 74, 0, 0, 0, 19741, []), (185, .lastore, 0, 0, 0, 0, []), (186, .dup, 0, 0, 0, 0, []), (187, .bipush 21, 0, 0, 21, 0, []), (189, .ldc2_w 76, 0, 0, 0, 1891, []), (192, .lastore, 0, 0, 0, 0, []), (193, .dup, 0, 0, 0, 0, []), (194, .bipush 22, 0, 0, 22, 0, []), (196, .ldc2_w 78, 0, 0, 0, 573, []), (199, .lastore, 0, 0, 0, 0, []), (200, .dup, 0, 0, 0, 0, []), (201, .bipush 23, 0, 0, 23, 0, []), (203, .ldc2_w 80, 0, 0, 0, 356551, []), (206, .lastore, 0, 0, 0, 0, []), (207, .dup, 0, 0, 0, 0, []), (208, .bipush 24, 0, 0, 24, 0, []), (210, .ldc2_w 82, 0, 0, 0, 7772561, []), (213, .lastore, 0, 0, 0, 0, []), (214, .dup, 0, 0, 0, 0, []), (215, .bipush 25, 0, 0, 25, 0, []), (217, .ldc2_w 84, 0, 0, 0, 1014884, []), (220, .lastore, 0, 0, 0, 0, []), (221, .dup, 0, 0, 0, 0, []), (222, .bipush 26, 0, 0, 26, 0, []), (224, .ldc2_w 86, 0, 0, 0, 21332, []), (227, .lastore, 0, 0, 0, 0, []), (228, .putfield 88, 12, 9, 0, 0, []), (231, .aload_n 0, 0, 0, 0, 0, []), (232, .bipush 120, 0, 0, 120, 0, []), (234, .newarray .int, 0, 0, 0, 0, []), (236, .putfield 91, 12, 10, 0, 0, []), (239, .aload_n 0, 0, 0, 0, 0, []), (240, .sipush 2200, 0, 0, 2200, 0, []), (243, .newarray .int, 0, 0, 0, 0, []), (245, .putfield 94, 12, 11, 0, 0, []), (248, .aload_n 0, 0, 0, 0, 0, []), (249, .sipush 2200, 0, 0, 2200, 0, []), (252, .newarray .int, 0, 0, 0, 0, []), (254, .putfield 97, 12, 12, 0, 0, []), (257, .aload_n 0, 0, 0, 0, 0, []), (258, .bipush 14, 0, 0, 14, 0, []), (260, .newarray .long, 1, 0, 0, 0, []), (262, .putfield 100, 12, 14, 0, 0, []), (265, .aload_n 0, 0, 0, 0, 0, []), (266, .bipush 14, 0, 0, 14, 0, []), (268, .newarray .long, 1, 0, 0, 0, []), (270, .putfield 103, 12, 15, 0, 0, []), (273, .aload_n 0, 0, 0, 0, 0, []), (274, .bipush 14, 0, 0, 14, 0, []), (276, .newarray .int, 0, 0, 0, 0, []), (278, .putfield 106, 12, 16, 0, 0, []), (281, .aload_n 0, 0, 0, 0, 0, []), (282, .bipush 14, 0, 0, 14, 0, []), (284, .newarray .int, 0, 0, 0, 0, []), (286, .putfield 109, 12, 17, 0, 0, []), (289, .aload_n 0, 0, 0, 0, 0, []), (290, .sipush 330, 0, 0, 330, 0, []), (293, .newarray .int, 0, 0, 0, 0, []), (295, .putfield 112, 12, 21, 0, 0, []), (298, .aload_n 0, 0, 0, 0, 0, []), (299, .iconst 4, 0, 0, 4, 0, []), (300, .newarray .int, 0, 0, 0, 0, []), (302, .putfield 115, 12, 22, 0, 0, []), (305, .aload_n 0, 0, 0, 0, 0, []), (306, .sipush 1100, 0, 0, 1100, 0, []), (309, .newarray .int, 0, 0, 0, 0, []), (311, .putfield 118, 12, 23, 0, 0, []), (314, .aload_n 0, 0, 0, 0, 0, []), (315, .sipush 1081, 0, 0, 1081, 0, []), (318, .newarray .int, 0, 0, 0, 0, []), (320, .putfield 121, 12, 24, 0, 0, []), (323, .aload_n 0, 0, 0, 0, 0, []), (324, .iconst 4, 0, 0, 4, 0, []), (325, .newarray .boolean, 3, 0, 0, 0, []), (327, .putfield 124, 12, 26, 0, 0, []), (330, .aload_n 0, 0, 0, 0, 0, []), (331, .iconst 3, 0, 0, 3, 0, []), (332, .newarray .int, 0, 0, 0, 0, []), (334, .putfield 128, 12, 27, 0, 0, []), (337, .aload_n 0, 0, 0, 0, 0, []), (338, .iconst 3, 0, 0, 3, 0, []), (339, .newarray .int, 0, 0, 0, 0, []), (341, .putfield 131, 12, 28, 0, 0, []), (344, .aload_n 0, 0, 0, 0, 0, []), (345, .iconst 3, 0, 0, 3, 0, []), (346, .newarray .int, 0, 0, 0, 0, []), (348, .putfield 134, 12, 29, 0, 0, []), (351, .aload_n 0, 0, 0, 0, 0, []), (352, .iconst 3, 0, 0, 3, 0, []), (353, .newarray .int, 0, 0, 0, 0, []), (355, .putfield 137, 12, 30, 0, 0, []), (358, .aload_n 0, 0, 0, 0, 0, []), (359, .sipush 210, 0, 0, 210, 0, []), (362, .newarray .int, 0, 0, 0, 0, []), (364, .putfield 140, 12, 32, 0, 0, []), (367, .aload_n 0, 0, 0, 0, 0, []), (368, .iconst 0, 0, 0, 0, 0, []), (369, .invokevirtual 143, 2, 12, 0, 0, []), (372, .aload_n 0, 0, 0, 0, 0, []), (373, .invokevirtual 147, 1, 12, 0, 0, []), (376, .return_, 0, 0, 0, 0, [])]
noncomputable def ey12_init : YN := [(143 + 100000, 2, 12, 0, yF12_standsAsAlways), (147 + 100000, 1, 12, 0, yF12_begins)]
noncomputable def yF12_init : YF := yrun ty12_init ey12_init 0 22 3000 1
def oy12_init : List Nat := [18]
def fy12_init : List (Nat × Nat × Nat) := [(14, 12, 1), (24, 12, 4), (27, 12, 5), (30, 12, 6), (88, 12, 9), (91, 12, 10), (94, 12, 11), (97, 12, 12), (100, 12, 14), (103, 12, 15), (106, 12, 16), (109, 12, 17), (112, 12, 21), (115, 12, 22), (118, 12, 23), (121, 12, 24), (124, 12, 26), (128, 12, 27), (131, 12, 28), (134, 12, 29), (137, 12, 30), (140, 12, 32)]
def ly12_init : List (Nat × Int64) := [(34, 14190408), (36, 57), (38, 163258), (40, 172678194), (42, 1604747591), (44, 108615), (46, 4003641), (48, 17848), (50, 33989651), (52, 15769715), (54, 43183939), (56, 34216990), (58, 919077526), (60, 154051), (62, 2083), (64, 990358), (66, 30596128), (68, 43186677), (70, 15248761), (72, 1332581961), (74, 19741), (76, 1891), (78, 573), (80, 356551), (82, 7772561), (84, 1014884), (86, 21332)]
def ny12_init : List (Nat × Nat) := []
def qy12_init : List (Nat × Nat) := []
set_option maxRecDepth 20000 in
theorem oyk12_init : ∀ i ∈ oy12_init, Cond.methodLink xR12 i Lib.objectInit ∈ xG := List.forall_mem_cons.mpr ⟨xG_k xT_6 142 rfl rfl, fun _ h => absurd h List.not_mem_nil⟩
set_option maxRecDepth 20000 in
theorem fyk12_init : ∀ q ∈ fy12_init, xfl xR12 q := List.forall_mem_cons.mpr ⟨⟨xR12, xT12, 34, rfl, by decide, xG_k xT_6 191 rfl rfl⟩, List.forall_mem_cons.mpr ⟨⟨xR12, xT12, 34, rfl, by decide, xG_k xT_6 194 rfl rfl⟩, List.forall_mem_cons.mpr ⟨⟨xR12, xT12, 34, rfl, by decide, xG_k xT_6 195 rfl rfl⟩, List.forall_mem_cons.mpr ⟨⟨xR12, xT12, 34, rfl, by decide, xG_k xT_6 196 rfl rfl⟩, List.forall_mem_cons.mpr ⟨⟨xR12, xT12, 34, rfl, by decide, xG_k xT_6 199 rfl rfl⟩, List.forall_mem_cons.mpr ⟨⟨xR12, xT12, 34, rfl, by decide, xG_k xT_6 200 rfl rfl⟩, List.forall_mem_cons.mpr ⟨⟨xR12, xT12, 34, rfl, by decide, xG_k xT_6 201 rfl rfl⟩, List.forall_mem_cons.mpr ⟨⟨xR12, xT12, 34, rfl, by decide, xG_k xT_6 202 rfl rfl⟩, List.forall_mem_cons.mpr ⟨⟨xR12, xT12, 34, rfl, by decide, xG_k xT_6 204 rfl rfl⟩, List.forall_mem_cons.mpr ⟨⟨xR12, xT12, 34, rfl, by decide, xG_k xT_6 205 rfl rfl⟩, List.forall_mem_cons.mpr ⟨⟨xR12, xT12, 34, rfl, by decide, xG_k xT_6 206 rfl rfl⟩, List.forall_mem_cons.mpr ⟨⟨xR12, xT12, 34, rfl, by decide, xG_k xT_6 207 rfl rfl⟩, List.forall_mem_cons.mpr ⟨⟨xR12, xT12, 34, rfl, by decide, xG_k xT_6 211 rfl rfl⟩, List.forall_mem_cons.mpr ⟨⟨xR12, xT12, 34, rfl, by decide, xG_k xT_6 212 rfl rfl⟩, List.forall_mem_cons.mpr ⟨⟨xR12, xT12, 34, rfl, by decide, xG_k xT_6 213 rfl rfl⟩, List.forall_mem_cons.mpr ⟨⟨xR12, xT12, 34, rfl, by decide, xG_k xT_6 214 rfl rfl⟩, List.forall_mem_cons.mpr ⟨⟨xR12, xT12, 34, rfl, by decide, xG_k xT_6 216 rfl rfl⟩, List.forall_mem_cons.mpr ⟨⟨xR12, xT12, 34, rfl, by decide, xG_k xT_6 217 rfl rfl⟩, List.forall_mem_cons.mpr ⟨⟨xR12, xT12, 34, rfl, by decide, xG_k xT_6 218 rfl rfl⟩, List.forall_mem_cons.mpr ⟨⟨xR12, xT12, 34, rfl, by decide, xG_k xT_6 219 rfl rfl⟩, List.forall_mem_cons.mpr ⟨⟨xR12, xT12, 34, rfl, by decide, xG_k xT_6 220 rfl rfl⟩, List.forall_mem_cons.mpr ⟨⟨xR12, xT12, 34, rfl, by decide, xG_k xT_6 222 rfl rfl⟩, fun _ h => absurd h List.not_mem_nil⟩⟩⟩⟩⟩⟩⟩⟩⟩⟩⟩⟩⟩⟩⟩⟩⟩⟩⟩⟩⟩⟩
set_option maxRecDepth 20000 in
theorem lyk12_init : ∀ q ∈ ly12_init, Cond.constantLong xR12 q.1 q.2 ∈ xG := List.forall_mem_cons.mpr ⟨xG_k xT_6 143 rfl rfl, List.forall_mem_cons.mpr ⟨xG_k xT_6 144 rfl rfl, List.forall_mem_cons.mpr ⟨xG_k xT_6 145 rfl rfl, List.forall_mem_cons.mpr ⟨xG_k xT_6 146 rfl rfl, List.forall_mem_cons.mpr ⟨xG_k xT_6 147 rfl rfl, List.forall_mem_cons.mpr ⟨xG_k xT_6 148 rfl rfl, List.forall_mem_cons.mpr ⟨xG_k xT_6 149 rfl rfl, List.forall_mem_cons.mpr ⟨xG_k xT_6 150 rfl rfl, List.forall_mem_cons.mpr ⟨xG_k xT_6 151 rfl rfl, List.forall_mem_cons.mpr ⟨xG_k xT_6 152 rfl rfl, List.forall_mem_cons.mpr ⟨xG_k xT_6 153 rfl rfl, List.forall_mem_cons.mpr ⟨xG_k xT_6 154 rfl rfl, List.forall_mem_cons.mpr ⟨xG_k xT_6 155 rfl rfl, List.forall_mem_cons.mpr ⟨xG_k xT_6 156 rfl rfl, List.forall_mem_cons.mpr ⟨xG_k xT_6 157 rfl rfl, List.forall_mem_cons.mpr ⟨xG_k xT_6 158 rfl rfl, List.forall_mem_cons.mpr ⟨xG_k xT_6 159 rfl rfl, List.forall_mem_cons.mpr ⟨xG_k xT_6 160 rfl rfl, List.forall_mem_cons.mpr ⟨xG_k xT_6 161 rfl rfl, List.forall_mem_cons.mpr ⟨xG_k xT_6 162 rfl rfl, List.forall_mem_cons.mpr ⟨xG_k xT_6 163 rfl rfl, List.forall_mem_cons.mpr ⟨xG_k xT_6 164 rfl rfl, List.forall_mem_cons.mpr ⟨xG_k xT_6 165 rfl rfl, List.forall_mem_cons.mpr ⟨xG_k xT_6 166 rfl rfl, List.forall_mem_cons.mpr ⟨xG_k xT_6 167 rfl rfl, List.forall_mem_cons.mpr ⟨xG_k xT_6 168 rfl rfl, List.forall_mem_cons.mpr ⟨xG_k xT_6 169 rfl rfl, fun _ h => absurd h List.not_mem_nil⟩⟩⟩⟩⟩⟩⟩⟩⟩⟩⟩⟩⟩⟩⟩⟩⟩⟩⟩⟩⟩⟩⟩⟩⟩⟩⟩
set_option maxRecDepth 20000 in
theorem nyk12_init : ∀ q ∈ ny12_init, ynw xR12 q.1 q.2 := fun _ h => absurd h List.not_mem_nil
set_option maxRecDepth 20000 in
theorem qyk12_init : ∀ q ∈ qy12_init, Cond.classLink xR12 q.1 (yqr q.2) ∈ xG := fun _ h => absurd h List.not_mem_nil
set_option maxRecDepth 20000 in
theorem cy12_init (P : YP) (l : Launch) : CtrY P l (⟨xR12, "<init>", "()V"⟩ : MethodName) prog_14_method_4_code 1 none 4 22 yF12_init :=
  CtrY_of (tab := ty12_init) (env := ey12_init) (K := 3000) (oc := 12) (ol := oy12_init) (fl := fy12_init) (ll := ly12_init) (nl := ny12_init) (ql := qy12_init) (by decide +kernel) ⟨by decide +kernel, oyk12_init, fyk12_init, lyk12_init, nyk12_init, qyk12_init, fun _ => ⟨rfl, rfl⟩⟩ (by decide) (List.forall_mem_cons.mpr ⟨ycal_V (idx := 143) (y := ⟨xR12, "standsAsAlways", "(I)V"⟩) (b := prog_14_method_18_code) (maxL := 3) (n := 1) (cy12_standsAsAlways P l) (yrun_mk _ _ _ _ _ _) (xG_k xT_6 173 rfl rfl) (xG_k xT_1 13 rfl rfl) ⟨by decide +kernel, by decide +kernel⟩ (xG_k xT_6 172 rfl rfl) ⟨by decide, by decide⟩ rfl (by decide +kernel) (xG_k xT_6 170 rfl rfl) (xG_s xV_3 10 rfl), List.forall_mem_cons.mpr ⟨ycal_V (idx := 147) (y := ⟨xR12, "begins", "()V"⟩) (b := prog_14_method_43_code) (maxL := 2) (n := 0) (cy12_begins P l) (yrun_mk _ _ _ _ _ _) (xG_k xT_6 177 rfl rfl) (xG_k xT_1 13 rfl rfl) ⟨by decide +kernel, by decide +kernel⟩ (xG_k xT_6 176 rfl rfl) ⟨by decide, by decide⟩ rfl (by decide +kernel) (xG_k xT_6 174 rfl rfl) (xG_s xV_3 11 rfl), fun _ h => absurd h List.not_mem_nil⟩⟩) (by decide) ⟨_, _, rfl, rfl⟩ (.inl rfl)
