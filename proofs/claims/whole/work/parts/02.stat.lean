def wN : List String := ["OTHER", "HOUSE", "THICK", "WET", "INK", "SHUNS", "GAP", "RAINS", "PRICE", "PRESSES", "PRINTS", "PUT", "ROAD", "RUN", "SELL", "PLAIN", "STOUT", "SHARP", "CAT", "NOT", "AND", "OR", "WIDE", "DAMP", "BETWEEN", "BLACK", "WALL"]
def wL : List Int := [0, 8902245, 21242987, 23732, 9675, 20207059, 7216, 18916819, 17376357, 17789734067, 556055187, 17076, 605220, 19118, 628108, 17171758, 20594356, 20186704, 3124, 14836, 1476, 498, 763013, 132528, 2336986286, 2491499, 755084]
def wK : List Int := [0, 1, 1, 1, 1, 1, 1, 1, 1, 1, 1, 1, 1, 1, 1, 1, 1, 1, 1, 1, 1, 1, 0, 0, 0, 0, 0]
def wS : List Int := [0, 6, 0, 0, 0, 7, 8, 9, 10, 11, 12, 17, 18, 19, 20, 13, 14, 15, 16, 0, 0, 0, 1, 2, 3, 4, 5]
def sB : List Int := [40, 41, 60, 61, 43, 45, 42, 59]
def kd : Nat → List Nat
  | 0 => [5, 2, 2, 0]
  | 1 => [0, 0, 0, 0, 0, 0, 1]
  | 2 => [2, 0, 2, 2, 2, 2, 2]
  | 3 => [0, 0, 0, 2, 2]
  | 4 => [2, 2, 2, 2, 0, 0]
  | 5 => [2, 2, 2, 2, 0, 0, 0, 0, 0]
  | 6 => [2, 0, 0, 0, 0, 0, 4, 1, 0, 0, 0, 0]
  | 7 => [2, 2, 2, 2, 2, 2, 2, 2, 2, 0, 0, 0, 0, 0]
  | 8 => [2, 2, 2, 0]
  | 9 => [2, 3, 3, 2, 2, 2, 2, 2, 2, 2, 0, 0, 2, 2, 2, 2]
  | 10 => [0, 0, 2, 0, 0, 0, 0, 1, 0, 0, 2, 2, 2, 2, 2, 2, 2, 2, 2, 2, 2, 0, 0, 0, 2, 2, 2, 2, 2, 2, 2, 2, 2, 2, 2, 2, 0, 2, 2, 2, 2, 2, 2, 2, 2, 2, 2, 2, 2, 2, 0, 0, 2, 2, 0, 5, 2, 2, 2, 2, 2, 1]
  | _ => []
def ctN : Nat → (String × u_T × Nat × (Nat → FieldType))
  | 0 => (RX1, TX1, 4, tyX1)
  | 1 => (RX2, TX2, 7, tyX2)
  | 2 => (RX3, TX3, 7, tyX3)
  | 3 => (RX4, TX4, 5, tyX4)
  | 4 => (RX5, TX5, 6, tyX5)
  | 5 => (RX6, TX6, 9, tyX6)
  | 6 => (RX7, TX7, 12, tyX7)
  | 7 => (RX8, TX8, 14, tyX8)
  | 8 => (RX10, TX10, 4, tyX10)
  | 9 => (RX11, TX11, 16, tyX11)
  | 10 => (RX12, TX12, 62, tyX12)
  | _ => ("", fun _ => ("", "", "", false), 0, fun _ => .int)
abbrev AV : Type := Int ⊕ Int ⊕ Nat ⊕ Nat
abbrev vi (x : Int) : AV := .inl x
abbrev vl (x : Int) : AV := .inr (.inl x)
abbrev vr (r : Nat) : AV := .inr (.inr (.inl r))
abbrev ve (k : Nat) : AV := .inr (.inr (.inr k))
def zF : List (String × String × String × AV) := (List.range 27).map (fun i => (RX9, wN.getD i "", "LMangleTown$Word;", ve i)) ++ [(RX9, "ALL", "[LMangleTown$Word;", ve 27), (RX0, "$SwitchMap$MangleTown$Word", "[I", ve 28), ("java/lang/String", "COMPACT_STRINGS", "Z", vi 1)]
def oF : List (String × String × String × AV × Nat) := (List.range 27).map (fun (i : Nat) => ("java/lang/Enum", "ordinal", "I", vi (i : Int), i)) ++ ((List.range 27).map (fun i => (RX9, "letters", "J", vl (wL.getD i 0), i)) ++ ((List.range 27).map (fun i => (RX9, "kept", "Z", vi (wK.getD i 0), i)) ++ [("java/lang/String", "coder", "B", vi 0, 29), ("java/lang/String", "value", "[B", ve 30, 29)]))
def oC : List (String × Nat) := (List.range 27).map (fun i => (RX9, i)) ++ [("java/lang/String", 29)]
def tF : List (FieldType × Nat × Nat × (Nat → AV)) := [(.object RX9, 27, 27, fun j => ve j), (.int, 28, 27, fun j => vi (wS.getD j 0)), (.byte, 30, 8, fun j => vi (sB.getD j 0))]
def sF : List (String × Nat × String × Nat) := [("MangleTown$Tape", 60, "()<=+-*;", 29), ("MangleTown", 290, "no such search for a pin", 31), ("MangleTown", 314, "no such rest", 32)]
