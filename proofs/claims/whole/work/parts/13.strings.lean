/-! THE STRINGS' METHODS -/
theorem cS_length {X : XP} (hX : XOK X) (l : Launch) : Ctr X l yS_length prog_23_method_54_code 1 (some .int) (xrm 8) 0 0 FS_length := hX.2.2.2.2.2.2.2.1 l
theorem cS_charAt {X : XP} (hX : XOK X) (l : Launch) : Ctr X l yS_charAt prog_23_method_56_code 2 (some .char) (xrm 8) 0 0 FS_charAt := hX.2.2.2.2.2.2.2.2.1 l
theorem cS_indexOf {X : XP} (hX : XOK X) (l : Launch) : Ctr X l yS_indexOf prog_23_method_79_code 2 (some .int) (xrm 8) 0 0 FS_indexOf := hX.2.2.2.2.2.2.2.2.2 l
