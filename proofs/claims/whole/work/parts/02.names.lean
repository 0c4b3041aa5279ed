def xR0 : String := "SilenceBall$Acts"
def xT0 : u_T := fun k => match k with
  | 0 => ("SilenceBall$Acts", "ring", "[LSilenceBall$Scene;", true)
  | 1 => ("SilenceBall$Acts", "next", "I", false)
  | _ => ("SilenceBall$Acts", "kept", "I", false)
def xY0 : Nat → FieldType := fun k => match k with
  | 0 => .array (.object "SilenceBall$Scene")
  | 1 => .int
  | _ => .int
theorem xN0 : ∀ a, a < 3 → ∀ b, b < 3 → a ≠ b → (xT0 a).2.1 ≠ (xT0 b).2.1 := by decide +kernel
theorem xP0 : ∀ k, k < 3 → parseFieldDescriptor (xT0 k).2.2.1 = some (xY0 k) := by decide +kernel
theorem xI0 : ∀ w ∈ u_ws xR0 xT0 3, w ∈ xG := by
  show ∀ w ∈ [u_lay xR0 xT0 0, u_lay xR0 xT0 1, u_lay xR0 xT0 2], w ∈ xG
  exact List.forall_mem_cons.mpr ⟨xG_in 420 (by decide +kernel) (by decide +kernel), List.forall_mem_cons.mpr ⟨xG_in 422 (by decide +kernel) (by decide +kernel), List.forall_mem_cons.mpr ⟨xG_in 424 (by decide +kernel) (by decide +kernel), fun _ h => absurd h List.not_mem_nil⟩⟩⟩
def xR1 : String := "SilenceBall$Evening"
def xT1 : u_T := fun k => match k with
  | 0 => ("SilenceBall$Evening", "lines", "I", false)
  | 1 => ("SilenceBall$Evening", "act", "[I", true)
  | 2 => ("SilenceBall$Evening", "man", "[I", true)
  | 3 => ("SilenceBall$Evening", "belt", "[I", true)
  | _ => ("SilenceBall$Evening", "guest", "[I", true)
def xY1 : Nat → FieldType := fun k => match k with
  | 0 => .int
  | 1 => .array .int
  | 2 => .array .int
  | 3 => .array .int
  | _ => .array .int
theorem xN1 : ∀ a, a < 5 → ∀ b, b < 5 → a ≠ b → (xT1 a).2.1 ≠ (xT1 b).2.1 := by decide +kernel
theorem xP1 : ∀ k, k < 5 → parseFieldDescriptor (xT1 k).2.2.1 = some (xY1 k) := by decide +kernel
theorem xI1 : ∀ w ∈ u_ws xR1 xT1 5, w ∈ xG := by
  show ∀ w ∈ [u_lay xR1 xT1 0, u_lay xR1 xT1 1, u_lay xR1 xT1 2, u_lay xR1 xT1 3, u_lay xR1 xT1 4], w ∈ xG
  exact List.forall_mem_cons.mpr ⟨xG_in 353 (by decide +kernel) (by decide +kernel), List.forall_mem_cons.mpr ⟨xG_in 355 (by decide +kernel) (by decide +kernel), List.forall_mem_cons.mpr ⟨xG_in 357 (by decide +kernel) (by decide +kernel), List.forall_mem_cons.mpr ⟨xG_in 359 (by decide +kernel) (by decide +kernel), List.forall_mem_cons.mpr ⟨xG_in 361 (by decide +kernel) (by decide +kernel), fun _ h => absurd h List.not_mem_nil⟩⟩⟩⟩⟩
def xR2 : String := "SilenceBall$House"
def xT2 : u_T := fun k => match k with
  | 0 => ("SilenceBall$House", "guests", "I", false)
  | 1 => ("SilenceBall$House", "belts", "I", false)
  | 2 => ("SilenceBall$House", "men", "I", false)
  | 3 => ("SilenceBall$House", "gaps", "I", false)
  | 4 => ("SilenceBall$House", "water", "I", false)
  | 5 => ("SilenceBall$House", "guestNames", "[J", true)
  | 6 => ("SilenceBall$House", "kind", "[I", true)
  | 7 => ("SilenceBall$House", "place", "[I", true)
  | 8 => ("SilenceBall$House", "chin", "[I", true)
  | 9 => ("SilenceBall$House", "breath", "[I", true)
  | 10 => ("SilenceBall$House", "weight", "[I", true)
  | 11 => ("SilenceBall$House", "beltNames", "[J", true)
  | 12 => ("SilenceBall$House", "bears", "[I", true)
  | 13 => ("SilenceBall$House", "manNames", "[J", true)
  | 14 => ("SilenceBall$House", "post", "[I", true)
  | 15 => ("SilenceBall$House", "reach", "[I", true)
  | _ => ("SilenceBall$House", "law", "LSilenceBall$Law;", true)
def xY2 : Nat → FieldType := fun k => match k with
  | 0 => .int
  | 1 => .int
  | 2 => .int
  | 3 => .int
  | 4 => .int
  | 5 => .array .long
  | 6 => .array .int
  | 7 => .array .int
  | 8 => .array .int
  | 9 => .array .int
  | 10 => .array .int
  | 11 => .array .long
  | 12 => .array .int
  | 13 => .array .long
  | 14 => .array .int
  | 15 => .array .int
  | _ => .object "SilenceBall$Law"
theorem xN2 : ∀ a, a < 17 → ∀ b, b < 17 → a ≠ b → (xT2 a).2.1 ≠ (xT2 b).2.1 := by decide +kernel
theorem xP2 : ∀ k, k < 17 → parseFieldDescriptor (xT2 k).2.2.1 = some (xY2 k) := by decide +kernel
theorem xI2 : ∀ w ∈ u_ws xR2 xT2 17, w ∈ xG := by
  show ∀ w ∈ [u_lay xR2 xT2 0, u_lay xR2 xT2 1, u_lay xR2 xT2 2, u_lay xR2 xT2 3, u_lay xR2 xT2 4, u_lay xR2 xT2 5, u_lay xR2 xT2 6, u_lay xR2 xT2 7, u_lay xR2 xT2 8, u_lay xR2 xT2 9, u_lay xR2 xT2 10, u_lay xR2 xT2 11, u_lay xR2 xT2 12, u_lay xR2 xT2 13, u_lay xR2 xT2 14, u_lay xR2 xT2 15, u_lay xR2 xT2 16], w ∈ xG
  exact List.forall_mem_cons.mpr ⟨xG_in 281 (by decide +kernel) (by decide +kernel), List.forall_mem_cons.mpr ⟨xG_in 283 (by decide +kernel) (by decide +kernel), List.forall_mem_cons.mpr ⟨xG_in 285 (by decide +kernel) (by decide +kernel), List.forall_mem_cons.mpr ⟨xG_in 287 (by decide +kernel) (by decide +kernel), List.forall_mem_cons.mpr ⟨xG_in 289 (by decide +kernel) (by decide +kernel), List.forall_mem_cons.mpr ⟨xG_in 291 (by decide +kernel) (by decide +kernel), List.forall_mem_cons.mpr ⟨xG_in 293 (by decide +kernel) (by decide +kernel), List.forall_mem_cons.mpr ⟨xG_in 295 (by decide +kernel) (by decide +kernel), List.forall_mem_cons.mpr ⟨xG_in 297 (by decide +kernel) (by decide +kernel), List.forall_mem_cons.mpr ⟨xG_in 299 (by decide +kernel) (by decide +kernel), List.forall_mem_cons.mpr ⟨xG_in 301 (by decide +kernel) (by decide +kernel), List.forall_mem_cons.mpr ⟨xG_in 303 (by decide +kernel) (by decide +kernel), List.forall_mem_cons.mpr ⟨xG_in 305 (by decide +kernel) (by decide +kernel), List.forall_mem_cons.mpr ⟨xG_in 307 (by decide +kernel) (by decide +kernel), List.forall_mem_cons.mpr ⟨xG_in 309 (by decide +kernel) (by decide +kernel), List.forall_mem_cons.mpr ⟨xG_in 311 (by decide +kernel) (by decide +kernel), List.forall_mem_cons.mpr ⟨xG_in 313 (by decide +kernel) (by decide +kernel), fun _ h => absurd h List.not_mem_nil⟩⟩⟩⟩⟩⟩⟩⟩⟩⟩⟩⟩⟩⟩⟩⟩⟩
def xR3 : String := "SilenceBall$Inquest"
def xT3 : u_T := fun k => match k with
  | _ => ("SilenceBall$Inquest", "course", "[I", true)
def xY3 : Nat → FieldType := fun k => match k with
  | _ => .array .int
theorem xN3 : ∀ a, a < 1 → ∀ b, b < 1 → a ≠ b → (xT3 a).2.1 ≠ (xT3 b).2.1 := by decide +kernel
theorem xP3 : ∀ k, k < 1 → parseFieldDescriptor (xT3 k).2.2.1 = some (xY3 k) := by decide +kernel
theorem xI3 : ∀ w ∈ u_ws xR3 xT3 1, w ∈ xG := by
  show ∀ w ∈ [u_lay xR3 xT3 0], w ∈ xG
  exact List.forall_mem_cons.mpr ⟨xG_in 472 (by decide +kernel) (by decide +kernel), fun _ h => absurd h List.not_mem_nil⟩
def xR4 : String := "SilenceBall$Law"
def xT4 : u_T := fun k => match k with
  | 0 => ("SilenceBall$Law", "codes", "[I", true)
  | 1 => ("SilenceBall$Law", "length", "I", false)
  | 2 => ("SilenceBall$Law", "pending", "[I", true)
  | _ => ("SilenceBall$Law", "height", "I", false)
def xY4 : Nat → FieldType := fun k => match k with
  | 0 => .array .int
  | 1 => .int
  | 2 => .array .int
  | _ => .int
theorem xN4 : ∀ a, a < 4 → ∀ b, b < 4 → a ≠ b → (xT4 a).2.1 ≠ (xT4 b).2.1 := by decide +kernel
theorem xP4 : ∀ k, k < 4 → parseFieldDescriptor (xT4 k).2.2.1 = some (xY4 k) := by decide +kernel
theorem xI4 : ∀ w ∈ u_ws xR4 xT4 4, w ∈ xG := by
  show ∀ w ∈ [u_lay xR4 xT4 0, u_lay xR4 xT4 1, u_lay xR4 xT4 2, u_lay xR4 xT4 3], w ∈ xG
  exact List.forall_mem_cons.mpr ⟨xG_in 208 (by decide +kernel) (by decide +kernel), List.forall_mem_cons.mpr ⟨xG_in 210 (by decide +kernel) (by decide +kernel), List.forall_mem_cons.mpr ⟨xG_in 212 (by decide +kernel) (by decide +kernel), List.forall_mem_cons.mpr ⟨xG_in 214 (by decide +kernel) (by decide +kernel), fun _ h => absurd h List.not_mem_nil⟩⟩⟩⟩
def xR5 : String := "SilenceBall$Mark"
def xT5 : u_T := fun k => match k with
  | 0 => ("SilenceBall$Mark", "laid", "Z", false)
  | 1 => ("SilenceBall$Mark", "scene", "LSilenceBall$Scene;", true)
  | _ => ("SilenceBall$Mark", "seen", "LSilenceBall$Seen;", true)
def xY5 : Nat → FieldType := fun k => match k with
  | 0 => .boolean
  | 1 => .object "SilenceBall$Scene"
  | _ => .object "SilenceBall$Seen"
theorem xN5 : ∀ a, a < 3 → ∀ b, b < 3 → a ≠ b → (xT5 a).2.1 ≠ (xT5 b).2.1 := by decide +kernel
theorem xP5 : ∀ k, k < 3 → parseFieldDescriptor (xT5 k).2.2.1 = some (xY5 k) := by decide +kernel
theorem xI5 : ∀ w ∈ u_ws xR5 xT5 3, w ∈ xG := by
  show ∀ w ∈ [u_lay xR5 xT5 0, u_lay xR5 xT5 1, u_lay xR5 xT5 2], w ∈ xG
  exact List.forall_mem_cons.mpr ⟨xG_in 456 (by decide +kernel) (by decide +kernel), List.forall_mem_cons.mpr ⟨xG_in 458 (by decide +kernel) (by decide +kernel), List.forall_mem_cons.mpr ⟨xG_in 460 (by decide +kernel) (by decide +kernel), fun _ h => absurd h List.not_mem_nil⟩⟩⟩
def xR6 : String := "SilenceBall$Rescue"
def xT6 : u_T := fun k => match k with
  | 0 => ("SilenceBall$Rescue", "house", "LSilenceBall$House;", true)
  | 1 => ("SilenceBall$Rescue", "scene", "LSilenceBall$Scene;", true)
  | 2 => ("SilenceBall$Rescue", "most", "I", false)
  | 3 => ("SilenceBall$Rescue", "guestOf", "[I", true)
  | 4 => ("SilenceBall$Rescue", "beltOf", "[I", true)
  | 5 => ("SilenceBall$Rescue", "triedGuest", "[I", true)
  | _ => ("SilenceBall$Rescue", "triedBelt", "[I", true)
def xY6 : Nat → FieldType := fun k => match k with
  | 0 => .object "SilenceBall$House"
  | 1 => .object "SilenceBall$Scene"
  | 2 => .int
  | 3 => .array .int
  | 4 => .array .int
  | 5 => .array .int
  | _ => .array .int
theorem xN6 : ∀ a, a < 7 → ∀ b, b < 7 → a ≠ b → (xT6 a).2.1 ≠ (xT6 b).2.1 := by decide +kernel
theorem xP6 : ∀ k, k < 7 → parseFieldDescriptor (xT6 k).2.2.1 = some (xY6 k) := by decide +kernel
theorem xI6 : ∀ w ∈ u_ws xR6 xT6 7, w ∈ xG := by
  show ∀ w ∈ [u_lay xR6 xT6 0, u_lay xR6 xT6 1, u_lay xR6 xT6 2, u_lay xR6 xT6 3, u_lay xR6 xT6 4, u_lay xR6 xT6 5, u_lay xR6 xT6 6], w ∈ xG
  exact List.forall_mem_cons.mpr ⟨xG_in 491 (by decide +kernel) (by decide +kernel), List.forall_mem_cons.mpr ⟨xG_in 493 (by decide +kernel) (by decide +kernel), List.forall_mem_cons.mpr ⟨xG_in 495 (by decide +kernel) (by decide +kernel), List.forall_mem_cons.mpr ⟨xG_in 497 (by decide +kernel) (by decide +kernel), List.forall_mem_cons.mpr ⟨xG_in 499 (by decide +kernel) (by decide +kernel), List.forall_mem_cons.mpr ⟨xG_in 501 (by decide +kernel) (by decide +kernel), List.forall_mem_cons.mpr ⟨xG_in 503 (by decide +kernel) (by decide +kernel), fun _ h => absurd h List.not_mem_nil⟩⟩⟩⟩⟩⟩⟩
def xR7 : String := "SilenceBall$RoomReader"
def xT7 : u_T := fun k => match k with
  | 0 => ("SilenceBall$RoomReader", "draft", "LSilenceBall$House;", true)
  | 1 => ("SilenceBall$RoomReader", "tape", "LSilenceBall$Tape;", true)
  | 2 => ("SilenceBall$RoomReader", "gapsTold", "Z", false)
  | 3 => ("SilenceBall$RoomReader", "waterTold", "Z", false)
  | _ => ("SilenceBall$RoomReader", "lawTold", "Z", false)
def xY7 : Nat → FieldType := fun k => match k with
  | 0 => .object "SilenceBall$House"
  | 1 => .object "SilenceBall$Tape"
  | 2 => .boolean
  | 3 => .boolean
  | _ => .boolean
theorem xN7 : ∀ a, a < 5 → ∀ b, b < 5 → a ≠ b → (xT7 a).2.1 ≠ (xT7 b).2.1 := by decide +kernel
theorem xP7 : ∀ k, k < 5 → parseFieldDescriptor (xT7 k).2.2.1 = some (xY7 k) := by decide +kernel
theorem xI7 : ∀ w ∈ u_ws xR7 xT7 5, w ∈ xG := by
  show ∀ w ∈ [u_lay xR7 xT7 0, u_lay xR7 xT7 1, u_lay xR7 xT7 2, u_lay xR7 xT7 3, u_lay xR7 xT7 4], w ∈ xG
  exact List.forall_mem_cons.mpr ⟨xG_in 330 (by decide +kernel) (by decide +kernel), List.forall_mem_cons.mpr ⟨xG_in 332 (by decide +kernel) (by decide +kernel), List.forall_mem_cons.mpr ⟨xG_in 334 (by decide +kernel) (by decide +kernel), List.forall_mem_cons.mpr ⟨xG_in 336 (by decide +kernel) (by decide +kernel), List.forall_mem_cons.mpr ⟨xG_in 338 (by decide +kernel) (by decide +kernel), fun _ h => absurd h List.not_mem_nil⟩⟩⟩⟩⟩
def xR8 : String := "SilenceBall$Scene"
def xT8 : u_T := fun k => match k with
  | 0 => ("SilenceBall$Scene", "house", "LSilenceBall$House;", true)
  | 1 => ("SilenceBall$Scene", "place", "[I", true)
  | 2 => ("SilenceBall$Scene", "breath", "[I", true)
  | 3 => ("SilenceBall$Scene", "state", "[I", true)
  | 4 => ("SilenceBall$Scene", "belt", "[I", true)
  | 5 => ("SilenceBall$Scene", "busy", "I", false)
  | 6 => ("SilenceBall$Scene", "gaps", "I", false)
  | 7 => ("SilenceBall$Scene", "depth", "I", false)
  | _ => ("SilenceBall$Scene", "minutes", "I", false)
def xY8 : Nat → FieldType := fun k => match k with
  | 0 => .object "SilenceBall$House"
  | 1 => .array .int
  | 2 => .array .int
  | 3 => .array .int
  | 4 => .array .int
  | 5 => .int
  | 6 => .int
  | 7 => .int
  | _ => .int
theorem xN8 : ∀ a, a < 9 → ∀ b, b < 9 → a ≠ b → (xT8 a).2.1 ≠ (xT8 b).2.1 := by decide +kernel
theorem xP8 : ∀ k, k < 9 → parseFieldDescriptor (xT8 k).2.2.1 = some (xY8 k) := by decide +kernel
theorem xI8 : ∀ w ∈ u_ws xR8 xT8 9, w ∈ xG := by
  show ∀ w ∈ [u_lay xR8 xT8 0, u_lay xR8 xT8 1, u_lay xR8 xT8 2, u_lay xR8 xT8 3, u_lay xR8 xT8 4, u_lay xR8 xT8 5, u_lay xR8 xT8 6, u_lay xR8 xT8 7, u_lay xR8 xT8 8], w ∈ xG
  exact List.forall_mem_cons.mpr ⟨xG_in 388 (by decide +kernel) (by decide +kernel), List.forall_mem_cons.mpr ⟨xG_in 390 (by decide +kernel) (by decide +kernel), List.forall_mem_cons.mpr ⟨xG_in 392 (by decide +kernel) (by decide +kernel), List.forall_mem_cons.mpr ⟨xG_in 394 (by decide +kernel) (by decide +kernel), List.forall_mem_cons.mpr ⟨xG_in 396 (by decide +kernel) (by decide +kernel), List.forall_mem_cons.mpr ⟨xG_in 398 (by decide +kernel) (by decide +kernel), List.forall_mem_cons.mpr ⟨xG_in 400 (by decide +kernel) (by decide +kernel), List.forall_mem_cons.mpr ⟨xG_in 402 (by decide +kernel) (by decide +kernel), List.forall_mem_cons.mpr ⟨xG_in 404 (by decide +kernel) (by decide +kernel), fun _ h => absurd h List.not_mem_nil⟩⟩⟩⟩⟩⟩⟩⟩⟩
def xR9 : String := "SilenceBall$Seen"
def xT9 : u_T := fun k => match k with
  | 0 => ("SilenceBall$Seen", "many", "I", false)
  | 1 => ("SilenceBall$Seen", "depth", "[I", true)
  | _ => ("SilenceBall$Seen", "minute", "[I", true)
def xY9 : Nat → FieldType := fun k => match k with
  | 0 => .int
  | 1 => .array .int
  | _ => .array .int
theorem xN9 : ∀ a, a < 3 → ∀ b, b < 3 → a ≠ b → (xT9 a).2.1 ≠ (xT9 b).2.1 := by decide +kernel
theorem xP9 : ∀ k, k < 3 → parseFieldDescriptor (xT9 k).2.2.1 = some (xY9 k) := by decide +kernel
theorem xI9 : ∀ w ∈ u_ws xR9 xT9 3, w ∈ xG := by
  show ∀ w ∈ [u_lay xR9 xT9 0, u_lay xR9 xT9 1, u_lay xR9 xT9 2], w ∈ xG
  exact List.forall_mem_cons.mpr ⟨xG_in 444 (by decide +kernel) (by decide +kernel), List.forall_mem_cons.mpr ⟨xG_in 446 (by decide +kernel) (by decide +kernel), List.forall_mem_cons.mpr ⟨xG_in 448 (by decide +kernel) (by decide +kernel), fun _ h => absurd h List.not_mem_nil⟩⟩⟩
def xR10 : String := "SilenceBall$Tape"
def xT10 : u_T := fun k => match k with
  | 0 => ("SilenceBall$Tape", "signs", "[C", true)
  | 1 => ("SilenceBall$Tape", "length", "I", false)
  | 2 => ("SilenceBall$Tape", "next", "I", false)
  | 3 => ("SilenceBall$Tape", "place", "I", false)
  | 4 => ("SilenceBall$Tape", "kind", "I", false)
  | 5 => ("SilenceBall$Tape", "value", "I", false)
  | 6 => ("SilenceBall$Tape", "letters", "J", false)
  | _ => ("SilenceBall$Tape", "fault", "I", false)
def xY10 : Nat → FieldType := fun k => match k with
  | 0 => .array .char
  | 1 => .int
  | 2 => .int
  | 3 => .int
  | 4 => .int
  | 5 => .int
  | 6 => .long
  | _ => .int
theorem xN10 : ∀ a, a < 8 → ∀ b, b < 8 → a ≠ b → (xT10 a).2.1 ≠ (xT10 b).2.1 := by decide +kernel
theorem xP10 : ∀ k, k < 8 → parseFieldDescriptor (xT10 k).2.2.1 = some (xY10 k) := by decide +kernel
theorem xI10 : ∀ w ∈ u_ws xR10 xT10 8, w ∈ xG := by
  show ∀ w ∈ [u_lay xR10 xT10 0, u_lay xR10 xT10 1, u_lay xR10 xT10 2, u_lay xR10 xT10 3, u_lay xR10 xT10 4, u_lay xR10 xT10 5, u_lay xR10 xT10 6, u_lay xR10 xT10 7], w ∈ xG
  exact List.forall_mem_cons.mpr ⟨xG_in 174 (by decide +kernel) (by decide +kernel), List.forall_mem_cons.mpr ⟨xG_in 176 (by decide +kernel) (by decide +kernel), List.forall_mem_cons.mpr ⟨xG_in 178 (by decide +kernel) (by decide +kernel), List.forall_mem_cons.mpr ⟨xG_in 180 (by decide +kernel) (by decide +kernel), List.forall_mem_cons.mpr ⟨xG_in 182 (by decide +kernel) (by decide +kernel), List.forall_mem_cons.mpr ⟨xG_in 184 (by decide +kernel) (by decide +kernel), List.forall_mem_cons.mpr ⟨xG_in 186 (by decide +kernel) (by decide +kernel), List.forall_mem_cons.mpr ⟨xG_in 188 (by decide +kernel) (by decide +kernel), fun _ h => absurd h List.not_mem_nil⟩⟩⟩⟩⟩⟩⟩⟩
def xR11 : String := "SilenceBall"
def xT11 : u_T := fun k => match k with
  | 0 => ("SilenceBall", "tape", "LSilenceBall$Tape;", true)
  | 1 => ("SilenceBall", "house", "LSilenceBall$House;", true)
  | 2 => ("SilenceBall", "roomReader", "LSilenceBall$RoomReader;", true)
  | 3 => ("SilenceBall", "evening", "LSilenceBall$Evening;", true)
  | 4 => ("SilenceBall", "draftEvening", "LSilenceBall$Evening;", true)
  | 5 => ("SilenceBall", "now", "LSilenceBall$Scene;", true)
  | 6 => ("SilenceBall", "ahead", "LSilenceBall$Scene;", true)
  | 7 => ("SilenceBall", "acts", "LSilenceBall$Acts;", true)
  | 8 => ("SilenceBall", "marks", "[LSilenceBall$Mark;", true)
  | 9 => ("SilenceBall", "seen", "LSilenceBall$Seen;", true)
  | 10 => ("SilenceBall", "inquest", "LSilenceBall$Inquest;", true)
  | _ => ("SilenceBall", "rescue", "LSilenceBall$Rescue;", true)
def xY11 : Nat → FieldType := fun k => match k with
  | 0 => .object "SilenceBall$Tape"
  | 1 => .object "SilenceBall$House"
  | 2 => .object "SilenceBall$RoomReader"
  | 3 => .object "SilenceBall$Evening"
  | 4 => .object "SilenceBall$Evening"
  | 5 => .object "SilenceBall$Scene"
  | 6 => .object "SilenceBall$Scene"
  | 7 => .object "SilenceBall$Acts"
  | 8 => .array (.object "SilenceBall$Mark")
  | 9 => .object "SilenceBall$Seen"
  | 10 => .object "SilenceBall$Inquest"
  | _ => .object "SilenceBall$Rescue"
theorem xN11 : ∀ a, a < 12 → ∀ b, b < 12 → a ≠ b → (xT11 a).2.1 ≠ (xT11 b).2.1 := by decide +kernel
theorem xP11 : ∀ k, k < 12 → parseFieldDescriptor (xT11 k).2.2.1 = some (xY11 k) := by decide +kernel
theorem xI11 : ∀ w ∈ u_ws xR11 xT11 12, w ∈ xG := by
  show ∀ w ∈ [u_lay xR11 xT11 0, u_lay xR11 xT11 1, u_lay xR11 xT11 2, u_lay xR11 xT11 3, u_lay xR11 xT11 4, u_lay xR11 xT11 5, u_lay xR11 xT11 6, u_lay xR11 xT11 7, u_lay xR11 xT11 8, u_lay xR11 xT11 9, u_lay xR11 xT11 10, u_lay xR11 xT11 11], w ∈ xG
  exact List.forall_mem_cons.mpr ⟨xG_in 518 (by decide +kernel) (by decide +kernel), List.forall_mem_cons.mpr ⟨xG_in 520 (by decide +kernel) (by decide +kernel), List.forall_mem_cons.mpr ⟨xG_in 522 (by decide +kernel) (by decide +kernel), List.forall_mem_cons.mpr ⟨xG_in 524 (by decide +kernel) (by decide +kernel), List.forall_mem_cons.mpr ⟨xG_in 526 (by decide +kernel) (by decide +kernel), List.forall_mem_cons.mpr ⟨xG_in 528 (by decide +kernel) (by decide +kernel), List.forall_mem_cons.mpr ⟨xG_in 530 (by decide +kernel) (by decide +kernel), List.forall_mem_cons.mpr ⟨xG_in 532 (by decide +kernel) (by decide +kernel), List.forall_mem_cons.mpr ⟨xG_in 534 (by decide +kernel) (by decide +kernel), List.forall_mem_cons.mpr ⟨xG_in 536 (by decide +kernel) (by decide +kernel), List.forall_mem_cons.mpr ⟨xG_in 538 (by decide +kernel) (by decide +kernel), List.forall_mem_cons.mpr ⟨xG_in 540 (by decide +kernel) (by decide +kernel), fun _ h => absurd h List.not_mem_nil⟩⟩⟩⟩⟩⟩⟩⟩⟩⟩⟩⟩
def xR12 : String := "SilenceBallModel"
def xT12 : u_T := fun k => match k with
  | 0 => ("SilenceBallModel", "thrown", "I", false)
  | 1 => ("SilenceBallModel", "tape", "[I", true)
  | 2 => ("SilenceBallModel", "taped", "I", false)
  | 3 => ("SilenceBallModel", "size", "I", false)
  | 4 => ("SilenceBallModel", "sort", "[I", true)
  | 5 => ("SilenceBallModel", "place", "[I", true)
  | 6 => ("SilenceBallModel", "value", "[J", true)
  | 7 => ("SilenceBallModel", "at", "I", false)
  | 8 => ("SilenceBallModel", "fault", "I", false)
  | 9 => ("SilenceBallModel", "words", "[J", true)
  | 10 => ("SilenceBallModel", "rooms", "[I", true)
  | 11 => ("SilenceBallModel", "op", "[I", true)
  | 12 => ("SilenceBallModel", "arg", "[I", true)
  | 13 => ("SilenceBallModel", "codes", "I", false)
  | 14 => ("SilenceBallModel", "names", "[J", true)
  | 15 => ("SilenceBallModel", "readNames", "[J", true)
  | 16 => ("SilenceBallModel", "nameOf", "[I", true)
  | 17 => ("SilenceBallModel", "readNameOf", "[I", true)
  | 18 => ("SilenceBallModel", "namesMany", "I", false)
  | 19 => ("SilenceBallModel", "readMany", "I", false)
  | 20 => ("SilenceBallModel", "once", "I", false)
  | 21 => ("SilenceBallModel", "lines", "[I", true)
  | 22 => ("SilenceBallModel", "facts", "[I", true)
  | 23 => ("SilenceBallModel", "pile", "[I", true)
  | 24 => ("SilenceBallModel", "state", "[I", true)
  | 25 => ("SilenceBallModel", "undos", "I", false)
  | 26 => ("SilenceBallModel", "isMarked", "[Z", true)
  | 27 => ("SilenceBallModel", "to", "[I", true)
  | 28 => ("SilenceBallModel", "by", "[I", true)
  | 29 => ("SilenceBallModel", "bestTo", "[I", true)
  | 30 => ("SilenceBallModel", "bestBy", "[I", true)
  | 31 => ("SilenceBallModel", "mostCast", "I", false)
  | 32 => ("SilenceBallModel", "depths", "[I", true)
  | _ => ("SilenceBallModel", "g", "J", false)
def xY12 : Nat → FieldType := fun k => match k with
  | 0 => .int
  | 1 => .array .int
  | 2 => .int
  | 3 => .int
  | 4 => .array .int
  | 5 => .array .int
  | 6 => .array .long
  | 7 => .int
  | 8 => .int
  | 9 => .array .long
  | 10 => .array .int
  | 11 => .array .int
  | 12 => .array .int
  | 13 => .int
  | 14 => .array .long
  | 15 => .array .long
  | 16 => .array .int
  | 17 => .array .int
  | 18 => .int
  | 19 => .int
  | 20 => .int
  | 21 => .array .int
  | 22 => .array .int
  | 23 => .array .int
  | 24 => .array .int
  | 25 => .int
  | 26 => .array .boolean
  | 27 => .array .int
  | 28 => .array .int
  | 29 => .array .int
  | 30 => .array .int
  | 31 => .int
  | 32 => .array .int
  | _ => .long
theorem xN12 : ∀ a, a < 34 → ∀ b, b < 34 → a ≠ b → (xT12 a).2.1 ≠ (xT12 b).2.1 := by decide +kernel
theorem xP12 : ∀ k, k < 34 → parseFieldDescriptor (xT12 k).2.2.1 = some (xY12 k) := by decide +kernel
theorem xI12 : ∀ w ∈ u_ws xR12 xT12 34, w ∈ xG := by
  show ∀ w ∈ [u_lay xR12 xT12 0, u_lay xR12 xT12 1, u_lay xR12 xT12 2, u_lay xR12 xT12 3, u_lay xR12 xT12 4, u_lay xR12 xT12 5, u_lay xR12 xT12 6, u_lay xR12 xT12 7, u_lay xR12 xT12 8, u_lay xR12 xT12 9, u_lay xR12 xT12 10, u_lay xR12 xT12 11, u_lay xR12 xT12 12, u_lay xR12 xT12 13, u_lay xR12 xT12 14, u_lay xR12 xT12 15, u_lay xR12 xT12 16, u_lay xR12 xT12 17, u_lay xR12 xT12 18, u_lay xR12 xT12 19, u_lay xR12 xT12 20, u_lay xR12 xT12 21, u_lay xR12 xT12 22, u_lay xR12 xT12 23, u_lay xR12 xT12 24, u_lay xR12 xT12 25, u_lay xR12 xT12 26, u_lay xR12 xT12 27, u_lay xR12 xT12 28, u_lay xR12 xT12 29, u_lay xR12 xT12 30, u_lay xR12 xT12 31, u_lay xR12 xT12 32, u_lay xR12 xT12 33], w ∈ xG
  exact List.forall_mem_cons.mpr ⟨xG_in 1542 (by decide +kernel) (by decide +kernel), List.forall_mem_cons.mpr ⟨xG_in 1544 (by decide +kernel) (by decide +kernel), List.forall_mem_cons.mpr ⟨xG_in 1546 (by decide +kernel) (by decide +kernel), List.forall_mem_cons.mpr ⟨xG_in 1548 (by decide +kernel) (by decide +kernel), List.forall_mem_cons.mpr ⟨xG_in 1550 (by decide +kernel) (by decide +kernel), List.forall_mem_cons.mpr ⟨xG_in 1552 (by decide +kernel) (by decide +kernel), List.forall_mem_cons.mpr ⟨xG_in 1554 (by decide +kernel) (by decide +kernel), List.forall_mem_cons.mpr ⟨xG_in 1556 (by decide +kernel) (by decide +kernel), List.forall_mem_cons.mpr ⟨xG_in 1558 (by decide +kernel) (by decide +kernel), List.forall_mem_cons.mpr ⟨xG_in 1560 (by decide +kernel) (by decide +kernel), List.forall_mem_cons.mpr ⟨xG_in 1562 (by decide +kernel) (by decide +kernel), List.forall_mem_cons.mpr ⟨xG_in 1564 (by decide +kernel) (by decide +kernel), List.forall_mem_cons.mpr ⟨xG_in 1566 (by decide +kernel) (by decide +kernel), List.forall_mem_cons.mpr ⟨xG_in 1568 (by decide +kernel) (by decide +kernel), List.forall_mem_cons.mpr ⟨xG_in 1570 (by decide +kernel) (by decide +kernel), List.forall_mem_cons.mpr ⟨xG_in 1572 (by decide +kernel) (by decide +kernel), List.forall_mem_cons.mpr ⟨xG_in 1574 (by decide +kernel) (by decide +kernel), List.forall_mem_cons.mpr ⟨xG_in 1576 (by decide +kernel) (by decide +kernel), List.forall_mem_cons.mpr ⟨xG_in 1578 (by decide +kernel) (by decide +kernel), List.forall_mem_cons.mpr ⟨xG_in 1580 (by decide +kernel) (by decide +kernel), List.forall_mem_cons.mpr ⟨xG_in 1582 (by decide +kernel) (by decide +kernel), List.forall_mem_cons.mpr ⟨xG_in 1584 (by decide +kernel) (by decide +kernel), List.forall_mem_cons.mpr ⟨xG_in 1586 (by decide +kernel) (by decide +kernel), List.forall_mem_cons.mpr ⟨xG_in 1588 (by decide +kernel) (by decide +kernel), List.forall_mem_cons.mpr ⟨xG_in 1590 (by decide +kernel) (by decide +kernel), List.forall_mem_cons.mpr ⟨xG_in 1592 (by decide +kernel) (by decide +kernel), List.forall_mem_cons.mpr ⟨xG_in 1594 (by decide +kernel) (by decide +kernel), List.forall_mem_cons.mpr ⟨xG_in 1596 (by decide +kernel) (by decide +kernel), List.forall_mem_cons.mpr ⟨xG_in 1598 (by decide +kernel) (by decide +kernel), List.forall_mem_cons.mpr ⟨xG_in 1600 (by decide +kernel) (by decide +kernel), List.forall_mem_cons.mpr ⟨xG_in 1602 (by decide +kernel) (by decide +kernel), List.forall_mem_cons.mpr ⟨xG_in 1604 (by decide +kernel) (by decide +kernel), List.forall_mem_cons.mpr ⟨xG_in 1606 (by decide +kernel) (by decide +kernel), List.forall_mem_cons.mpr ⟨xG_in 1608 (by decide +kernel) (by decide +kernel), fun _ h => absurd h List.not_mem_nil⟩⟩⟩⟩⟩⟩⟩⟩⟩⟩⟩⟩⟩⟩⟩⟩⟩⟩⟩⟩⟩⟩⟩⟩⟩⟩⟩⟩⟩⟩⟩⟩⟩⟩
abbrev xcl : List vw_C := [(xR0, xT0, 3), (xR1, xT1, 5), (xR2, xT2, 17), (xR3, xT3, 1), (xR4, xT4, 4), (xR5, xT5, 3), (xR6, xT6, 7), (xR7, xT7, 5), (xR8, xT8, 9), (xR9, xT9, 3), (xR10, xT10, 8), (xR11, xT11, 12), (xR12, xT12, 34)]
abbrev XQ : Type := Nat × Nat × Nat
/-- the slots of a class: .inl 0 an int, .inl 1 a long, .inl 3 a boolean, .inr f a reference, by the object's number -/
def xlay0 : List (Nat ⊕ (Nat → XQ)) := [.inr (fun i => (0, i, 1)), .inl 0, .inl 0]
def xlay1 : List (Nat ⊕ (Nat → XQ)) := [.inl 0, .inr (fun i => (1, i, 2)), .inr (fun i => (1, i, 3)), .inr (fun i => (1, i, 4)), .inr (fun i => (1, i, 5))]
def xlay2 : List (Nat ⊕ (Nat → XQ)) := [.inl 0, .inl 0, .inl 0, .inl 0, .inl 0, .inr (fun i => (2, i, 6)), .inr (fun i => (2, i, 7)), .inr (fun i => (2, i, 8)), .inr (fun i => (2, i, 9)), .inr (fun i => (2, i, 10)), .inr (fun i => (2, i, 11)), .inr (fun i => (2, i, 12)), .inr (fun i => (2, i, 13)), .inr (fun i => (2, i, 14)), .inr (fun i => (2, i, 15)), .inr (fun i => (2, i, 16)), .inr (fun i => (4, i, 0))]
def xlay3 : List (Nat ⊕ (Nat → XQ)) := [.inr (fun i => (3, i, 1))]
def xlay4 : List (Nat ⊕ (Nat → XQ)) := [.inr (fun i => (4, i, 1)), .inl 0, .inr (fun i => (4, i, 3)), .inl 0]
def xlay5 : List (Nat ⊕ (Nat → XQ)) := [.inl 3, .inr (fun i => (8, 18 + i, 0)), .inr (fun i => (9, 1 + i, 0))]
def xlay6 : List (Nat ⊕ (Nat → XQ)) := [.inr (fun _ => (2, 0, 0)), .inr (fun _ => (8, 0, 0)), .inl 0, .inr (fun i => (6, i, 4)), .inr (fun i => (6, i, 5)), .inr (fun i => (6, i, 6)), .inr (fun i => (6, i, 7))]
def xlay7 : List (Nat ⊕ (Nat → XQ)) := [.inr (fun _ => (2, 1, 0)), .inr (fun _ => (10, 0, 0)), .inl 3, .inl 3, .inl 3]
def xlay8 : List (Nat ⊕ (Nat → XQ)) := [.inr (fun _ => (2, 0, 0)), .inr (fun i => (8, i, 2)), .inr (fun i => (8, i, 3)), .inr (fun i => (8, i, 4)), .inr (fun i => (8, i, 5)), .inl 0, .inl 0, .inl 0, .inl 0]
def xlay9 : List (Nat ⊕ (Nat → XQ)) := [.inl 0, .inr (fun i => (9, i, 2)), .inr (fun i => (9, i, 3))]
def xlay10 : List (Nat ⊕ (Nat → XQ)) := [.inr (fun i => (10, i, 1)), .inl 0, .inl 0, .inl 0, .inl 0, .inl 0, .inl 1, .inl 0]
def xlay11 : List (Nat ⊕ (Nat → XQ)) := [.inr (fun _ => (10, 0, 0)), .inr (fun _ => (2, 0, 0)), .inr (fun _ => (7, 0, 0)), .inr (fun _ => (1, 0, 0)), .inr (fun _ => (1, 1, 0)), .inr (fun _ => (8, 0, 0)), .inr (fun _ => (8, 1, 0)), .inr (fun _ => (0, 0, 0)), .inr (fun i => (11, i, 9)), .inr (fun _ => (9, 0, 0)), .inr (fun _ => (3, 0, 0)), .inr (fun _ => (6, 0, 0))]
def xlay12 : List (Nat ⊕ (Nat → XQ)) := [.inl 0, .inr (fun i => (12, i, 2)), .inl 0, .inl 0, .inr (fun i => (12, i, 5)), .inr (fun i => (12, i, 6)), .inr (fun i => (12, i, 7)), .inl 0, .inl 0, .inr (fun i => (12, i, 10)), .inr (fun i => (12, i, 11)), .inr (fun i => (12, i, 12)), .inr (fun i => (12, i, 13)), .inl 0, .inr (fun i => (12, i, 15)), .inr (fun i => (12, i, 16)), .inr (fun i => (12, i, 17)), .inr (fun i => (12, i, 18)), .inl 0, .inl 0, .inl 0, .inr (fun i => (12, i, 22)), .inr (fun i => (12, i, 23)), .inr (fun i => (12, i, 24)), .inr (fun i => (12, i, 25)), .inl 0, .inr (fun i => (12, i, 27)), .inr (fun i => (12, i, 28)), .inr (fun i => (12, i, 29)), .inr (fun i => (12, i, 30)), .inr (fun i => (12, i, 31)), .inl 0, .inr (fun i => (12, i, 33)), .inl 1]
def xlay (t : Nat) : List (Nat ⊕ (Nat → XQ)) := [xlay0, xlay1, xlay2, xlay3, xlay4, xlay5, xlay6, xlay7, xlay8, xlay9, xlay10, xlay11, xlay12].getD t []
/-- the arrays of a class by the slot that holds them: kind (0 int, 1 long, 2 char, 3 boolean, 4 and 5 references, 8 the script, 9 none), length -/
def xarr (t j : Nat) : Nat × Nat := ([[(4, 16), (9, 0), (9, 0)], [(9, 0), (0, 40), (0, 40), (0, 40), (0, 40)], [(9, 0), (9, 0), (9, 0), (9, 0), (9, 0), (1, 6), (0, 6), (0, 6), (0, 6), (0, 6), (0, 6), (1, 5), (0, 5), (1, 3), (0, 3), (0, 3), (9, 0)], [(0, 210)], [(0, 1000), (9, 0), (0, 32), (9, 0)], [(9, 0), (9, 0), (9, 0)], [(9, 0), (9, 0), (9, 0), (0, 3), (0, 3), (0, 3), (0, 3)], [(9, 0), (9, 0), (9, 0), (9, 0), (9, 0)], [(9, 0), (0, 6), (0, 6), (0, 6), (0, 6), (9, 0), (9, 0), (9, 0), (9, 0)], [(9, 0), (0, 8), (0, 8)], [(2, 1000), (9, 0), (9, 0), (9, 0), (9, 0), (9, 0), (9, 0), (9, 0)], [(9, 0), (9, 0), (9, 0), (9, 0), (9, 0), (9, 0), (9, 0), (9, 0), (5, 4), (9, 0), (9, 0), (9, 0)], [(9, 0), (0, 1000), (9, 0), (9, 0), (0, 1002), (0, 1002), (1, 1002), (9, 0), (9, 0), (1, 27), (0, 120), (0, 2200), (0, 2200), (9, 0), (1, 14), (1, 14), (0, 14), (0, 14), (9, 0), (9, 0), (9, 0), (0, 330), (0, 4), (0, 1100), (0, 1081), (9, 0), (3, 4), (0, 3), (0, 3), (0, 3), (0, 3), (9, 0), (0, 210), (9, 0)], [(8, 0)], [(1, 1)]].getD t []).getD j (9, 0)
def xrow (kind k : Nat) : XQ := if kind = 4 then (8, 2 + k, 0) else (5, k, 0)
/-- all cells: class, number, 0 the object itself or 1 + the slot of its array -/
def xdom : List XQ := [(0, 0, 0), (0, 0, 1), (1, 0, 0), (1, 0, 2), (1, 0, 3), (1, 0, 4), (1, 0, 5), (1, 1, 0), (1, 1, 2), (1, 1, 3), (1, 1, 4), (1, 1, 5), (2, 0, 0), (2, 0, 6), (2, 0, 7), (2, 0, 8), (2, 0, 9), (2, 0, 10), (2, 0, 11), (2, 0, 12), (2, 0, 13), (2, 0, 14), (2, 0, 15), (2, 0, 16), (2, 1, 0), (2, 1, 6), (2, 1, 7), (2, 1, 8), (2, 1, 9), (2, 1, 10), (2, 1, 11), (2, 1, 12), (2, 1, 13), (2, 1, 14), (2, 1, 15), (2, 1, 16), (3, 0, 0), (3, 0, 1), (4, 0, 0), (4, 0, 1), (4, 0, 3), (4, 1, 0), (4, 1, 1), (4, 1, 3), (5, 0, 0), (5, 1, 0), (5, 2, 0), (5, 3, 0), (6, 0, 0), (6, 0, 4), (6, 0, 5), (6, 0, 6), (6, 0, 7), (7, 0, 0), (8, 0, 0), (8, 0, 2), (8, 0, 3), (8, 0, 4), (8, 0, 5), (8, 1, 0), (8, 1, 2), (8, 1, 3), (8, 1, 4), (8, 1, 5), (8, 2, 0), (8, 2, 2), (8, 2, 3), (8, 2, 4), (8, 2, 5), (8, 3, 0), (8, 3, 2), (8, 3, 3), (8, 3, 4), (8, 3, 5), (8, 4, 0), (8, 4, 2), (8, 4, 3), (8, 4, 4), (8, 4, 5), (8, 5, 0), (8, 5, 2), (8, 5, 3), (8, 5, 4), (8, 5, 5), (8, 6, 0), (8, 6, 2), (8, 6, 3), (8, 6, 4), (8, 6, 5), (8, 7, 0), (8, 7, 2), (8, 7, 3), (8, 7, 4), (8, 7, 5), (8, 8, 0), (8, 8, 2), (8, 8, 3), (8, 8, 4), (8, 8, 5), (8, 9, 0), (8, 9, 2), (8, 9, 3), (8, 9, 4), (8, 9, 5), (8, 10, 0), (8, 10, 2), (8, 10, 3), (8, 10, 4), (8, 10, 5), (8, 11, 0), (8, 11, 2), (8, 11, 3), (8, 11, 4), (8, 11, 5), (8, 12, 0), (8, 12, 2), (8, 12, 3), (8, 12, 4), (8, 12, 5), (8, 13, 0), (8, 13, 2), (8, 13, 3), (8, 13, 4), (8, 13, 5), (8, 14, 0), (8, 14, 2), (8, 14, 3), (8, 14, 4), (8, 14, 5), (8, 15, 0), (8, 15, 2), (8, 15, 3), (8, 15, 4), (8, 15, 5), (8, 16, 0), (8, 16, 2), (8, 16, 3), (8, 16, 4), (8, 16, 5), (8, 17, 0), (8, 17, 2), (8, 17, 3), (8, 17, 4), (8, 17, 5), (8, 18, 0), (8, 18, 2), (8, 18, 3), (8, 18, 4), (8, 18, 5), (8, 19, 0), (8, 19, 2), (8, 19, 3), (8, 19, 4), (8, 19, 5), (8, 20, 0), (8, 20, 2), (8, 20, 3), (8, 20, 4), (8, 20, 5), (8, 21, 0), (8, 21, 2), (8, 21, 3), (8, 21, 4), (8, 21, 5), (9, 0, 0), (9, 0, 2), (9, 0, 3), (9, 1, 0), (9, 1, 2), (9, 1, 3), (9, 2, 0), (9, 2, 2), (9, 2, 3), (9, 3, 0), (9, 3, 2), (9, 3, 3), (9, 4, 0), (9, 4, 2), (9, 4, 3), (10, 0, 0), (10, 0, 1), (11, 0, 0), (11, 0, 9), (12, 0, 0), (12, 0, 2), (12, 0, 5), (12, 0, 6), (12, 0, 7), (12, 0, 10), (12, 0, 11), (12, 0, 12), (12, 0, 13), (12, 0, 15), (12, 0, 16), (12, 0, 17), (12, 0, 18), (12, 0, 22), (12, 0, 23), (12, 0, 24), (12, 0, 25), (12, 0, 27), (12, 0, 28), (12, 0, 29), (12, 0, 30), (12, 0, 31), (12, 0, 33), (14, 0, 1)]
