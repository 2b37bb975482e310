/-- the classes: name, fields (name, descriptor, final) -/
def FT : List (String × List (String × String × Bool)) := [
  ("TwoPencils$Cutter", [("part", "[I", true), ("parish", "[I", true), ("digit", "[I", true), ("used", "[I", true), ("hope", "[I", false), ("parishes", "I", false), ("places", "I", false), ("count", "I", false), ("at", "I", false)]),
  ("TwoPencils$Game", [("scout", "LTwoPencils$Cutter;", true), ("joiner", "LTwoPencils$Joiner;", true), ("land", "LTwoPencils$Land;", false), ("protocol", "LTwoPencils$Protocol;", false), ("moves", "[I", true), ("made", "I", false), ("kept", "[I", true), ("keptCount", "I", false), ("open", "I", false), ("toCome", "I", false), ("phase", "I", false), ("onlyOne", "Z", false), ("drawn", "[I", true), ("spare", "[I", true), ("firstCut", "I", false), ("secondCut", "I", false)]),
  ("TwoPencils$Joiner", [("land", "LTwoPencils$Land;", false), ("half", "[I", false), ("seats", "I", false), ("player", "I", false), ("goal", "I", false), ("joined", "[I", true), ("number", "I", false), ("worth", "I", false)]),
  ("TwoPencils$Land", [("parishes", "I", true), ("seats", "I", true), ("least", "I", true), ("greatest", "I", true), ("everyone", "I", true), ("votes", "[I", true), ("beside", "[I", true), ("together", "[I", true), ("totals", "[I", true), ("winner", "[B", true), ("hanging", "[I", true), ("lawful", "[I", true), ("common", "[I", true), ("roll", "LTwoPencils$Roll;", true), ("stale", "Z", false), ("played", "Z", false)]),
  ("TwoPencils$LandText", [("parishes", "I", false), ("seats", "I", false), ("least", "I", false), ("greatest", "I", false), ("votes", "[I", true), ("beside", "[I", true), ("together", "[I", true)]),
  ("TwoPencils$Mind", [("joiner", "LTwoPencils$Joiner;", true), ("cutters", "[LTwoPencils$Cutter;", true), ("worths", "[I", true), ("choices", "[I", true), ("spare", "[I", true), ("land", "LTwoPencils$Land;", false), ("protocol", "LTwoPencils$Protocol;", false), ("changed", "I", false), ("goal", "I", false), ("choice", "I", false)]),
  ("TwoPencils$Protocol", [("kinds", "[I", true), ("drawers", "[I", true)]),
  ("TwoPencils$ProtocolText", [("rounds", "I", false), ("kinds", "[I", true), ("drawers", "[I", true)]),
  ("TwoPencils$Roll", [("cuts", "[I", false), ("wins", "[I", false), ("size", "I", false), ("listed", "Z", false)]),
  ("TwoPencils$Tape", [("signs", "[C", true), ("length", "I", false), ("at", "I", false), ("flaw", "I", false)]),
  ("TwoPencils", [("tape", "LTwoPencils$Tape;", true), ("landText", "LTwoPencils$LandText;", true), ("protocolText", "LTwoPencils$ProtocolText;", true), ("lands", "[LTwoPencils$Land;", true), ("protocols", "[LTwoPencils$Protocol;", true), ("games", "[LTwoPencils$Game;", true), ("landCount", "I", false), ("protocolCount", "I", false), ("gameCount", "I", false), ("nowhere", "LTwoPencils$Land;", true), ("nothing", "LTwoPencils$Protocol;", true), ("scout", "LTwoPencils$Cutter;", true), ("joiner", "LTwoPencils$Joiner;", true), ("mind", "LTwoPencils$Mind;", true), ("trial", "LTwoPencils$Game;", true), ("answers", "[I", true), ("parts", "[I", true), ("otherParts", "[I", true)]),
  ("TwoPencilsModel", [("thrown", "I", false), ("tape", "[I", true), ("size", "I", false), ("at", "I", false), ("wrong", "I", false), ("parishes", "[I", true), ("seats", "[I", true), ("least", "[I", true), ("most", "[I", true), ("votes", "[I", true), ("beside", "[I", true), ("stays", "[I", true), ("lands", "I", false), ("rounds", "[I", true), ("first", "[I", true), ("doing", "[I", true), ("protocols", "I", false), ("fails", "[I", true), ("winner", "[I", true), ("here", "I", false), ("cuts", "[I", true), ("parts", "[I", true), ("found", "I", false), ("name", "[I", true), ("rules", "I", false), ("other", "I", false), ("open", "I", false), ("left", "I", false), ("turnOf", "I", false), ("phase", "I", false), ("drawn", "I", false), ("second", "I", false), ("keptMany", "I", false), ("keptSeats", "[I", true), ("halves", "[I", true), ("seeking", "I", false), ("goal", "I", false), ("seekMax", "I", false), ("halfBest", "I", false), ("halfNumber", "I", false), ("bestValue", "I", false), ("bestNumber", "I", false), ("isFound", "Z", false), ("values", "[I", true), ("isKnown", "[Z", true), ("worths", "[I", true), ("gameLand", "[I", true), ("gameRules", "[I", true), ("moves", "[I", true), ("phases", "[I", true), ("moveMany", "[I", true), ("games", "I", false), ("ups", "[I", true), ("downs", "[I", true)])]
def nmC (ci : Nat) : String := (FT.getD ci ("", [])).1
def fdC (ci k : Nat) : String × String × Bool := (FT.getD ci ("", [])).2.getD k ("", "", false)
def NC (ci : Nat) : Nat := (FT.getD ci ("", [])).2.length
def TC (ci : Nat) : u_T := fun k => (nmC ci, (fdC ci k).1, (fdC ci k).2.1, (fdC ci k).2.2)
def nmX : String := "java/util/NoSuchElementException"
def cls : List vw_C := (List.range 12).map (fun ci => (nmC ci, TC ci, NC ci)) ++ [(nmX, fun _ => ("", "", "", false), 0)]
def tyC (ci k : Nat) : FieldType := (parseFieldDescriptor (fdC ci k).2.1).getD .int
/-- which fields hold references -/
def rfT : List (List Bool) := [
  [true, true, true, true, true, false, false, false, false],
  [true, true, true, true, true, false, true, false, false, false, false, false, true, true, false, false],
  [true, true, false, false, false, true, false, false],
  [false, false, false, false, false, true, true, true, true, true, true, true, true, true, false, false],
  [false, false, false, false, true, true, true],
  [true, true, true, true, true, true, true, false, false, false],
  [true, true],
  [false, true, true],
  [true, true, false, false],
  [true, false, false, false],
  [true, true, true, true, true, true, false, false, false, true, true, true, true, true, true, true, true, true],
  [false, true, false, false, false, true, true, true, true, true, true, true, false, true, true, true, false, true, true, false, true, true, false, true, false, false, false, false, false, false, false, false, false, true, true, false, false, false, false, false, false, false, false, true, true, true, true, true, true, true, true, false, true, true]]
def rfC (ci k : Nat) : Bool := (rfT.getD ci []).getD k false
theorem cls_at {ci : Nat} (h : ci < 12) : cls[ci]? = some (nmC ci, TC ci, NC ci) := by
  unfold cls
  rw [List.getElem?_append_left (by simpa using h)]
  simp [h]
theorem cls_x : cls[12]? = some (nmX, fun _ => ("", "", "", false), 0) := rfl
theorem tyC_ok : ∀ ci, ci < 12 → ∀ k, k < NC ci → parseFieldDescriptor (TC ci k).2.2.1 = some (tyC ci k) := by decide +kernel
theorem nmC_ok : ∀ ci, ci < 12 → ∀ a, a < NC ci → ∀ b, b < NC ci → a ≠ b → (TC ci a).2.1 ≠ (TC ci b).2.1 := by decide +kernel
theorem rfC_ok : ∀ ci, ci < 12 → ∀ k, k < NC ci → (rfC ci k = false → defaultValue (tyC ci k) = .int 0) ∧ (rfC ci k = true → defaultValue (tyC ci k) = .null ∧ (∀ a, narrow (tyC ci k) (.ref a) = .ref a)) := by
  intro ci hc k hk
  constructor
  · revert ci hc k hk; decide +kernel
  · intro h
    have h2 : (match tyC ci k with | .array _ => true | .object _ => true | _ => false) = true := by revert h; revert ci hc k hk; decide +kernel
    revert h2
    cases tyC ci k <;> intro h2 <;> first | (cases h2; done) | exact ⟨rfl, fun _ => rfl⟩
theorem ws_in : ∀ ci, ci < 12 → ∀ w ∈ u_ws (nmC ci) (TC ci) (NC ci), w ∈ lw_tbl := by decide +kernel
