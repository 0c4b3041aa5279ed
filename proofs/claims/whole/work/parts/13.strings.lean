/-! THE STRINGS' METHODS -/
def xstxt (s : Nat) : List Nat := if s = 0 then [103, 117, 101, 115, 116, 32, 98, 101, 108, 116, 32, 109, 97, 110, 32, 104, 111, 108, 101, 115, 32, 119, 97, 116, 101, 114, 32, 114, 105, 115, 101, 115, 32, 97, 116, 32, 99, 104, 105, 110, 32, 98, 114, 101, 97, 116, 104, 32, 119, 101, 105, 103, 104, 115, 32, 98, 101, 97, 114, 115, 32, 114, 101, 97, 99, 104, 32, 112, 108, 97, 105, 110, 32, 119, 97, 118, 101, 114, 32, 104, 101, 97, 118, 121, 32, 115, 104, 97, 98, 98, 121, 32, 109, 105, 110, 117, 116, 101, 32, 99, 97, 115, 116, 32, 97, 115, 107, 32, 115, 116, 111, 112, 32, 110, 111, 116, 32, 97, 110, 100, 32, 111, 114, 32, 103, 97, 112, 115, 32, 100, 101, 112, 116, 104, 32, 116, 97, 108, 107, 32, 111, 117, 116, 32] else [40, 41, 60, 61, 43, 45, 42, 59]
def fS_length (s : Nat) (μ : XM) : XR := xri (nI (xstxt s).length) μ
noncomputable def fS_charAt (s : Nat) (k : Int32) (μ : XM) : XR := xck (xin k (xstxt s).length) (xri (nI ((xstxt s).getD k.toNatClampNeg 0)) μ)
def xidx (c : Int32) : Nat → List Nat → Int32
  | _, [] => -1
  | i, x :: l => if c = nI x then nI i else xidx c (i + 1) l
def fS_indexOf (s : Nat) (c : Int32) (μ : XM) : XR := xri (xidx c 0 (xstxt s)) μ
def FS_length : XF := fun av μ => match av with
  | [.inr (.inr (some (t, i, 0)))] => bif Nat.beq t 15 then fS_length i μ else none
  | _ => none
noncomputable def FS_charAt : XF := fun av μ => match av with
  | [.inr (.inr (some (t, i, 0))), .inl k] => bif Nat.beq t 15 then fS_charAt i k μ else none
  | _ => none
def FS_indexOf : XF := fun av μ => match av with
  | [.inr (.inr (some (t, i, 0))), .inl k] => bif Nat.beq t 15 then fS_indexOf i k μ else none
  | _ => none
theorem cS_length {X : XP} (hX : XOK X) (l : Launch) : Ctr X l yS_length prog_23_method_54_code 1 (some .int) (xrm 8) 0 0 FS_length := sorry
theorem cS_charAt {X : XP} (hX : XOK X) (l : Launch) : Ctr X l yS_charAt prog_23_method_56_code 2 (some .char) (xrm 8) 0 0 FS_charAt := sorry
theorem cS_indexOf {X : XP} (hX : XOK X) (l : Launch) : Ctr X l yS_indexOf prog_23_method_79_code 2 (some .int) (xrm 8) 0 0 FS_indexOf := sorry
