def NS : String := "ScythesKeepStep"
def NB : String := "ScythesKeepStep$Best"
def NL : String := "ScythesKeepStep$Law"
def NO : String := "ScythesKeepStep$Orders"
def ND : String := "ScythesKeepStep$Reader"
def NR : String := "ScythesKeepStep$Row"
def NH : String := "ScythesKeepStep$Sheet"
def NM : String := "ScythesKeepStepModel"
def NJS : String := "java/lang/String"
def NJL : String := "java/lang/StringLatin1"
def NJU : String := "java/lang/StringUTF16"
def NJM : String := "java/lang/Math"
def NJI : String := "java/lang/Integer"
def NJC : String := "java/lang/Character"
def NJP : String := "jdk/internal/util/Preconditions"
def NJY : String := "java/lang/System"
def NJO : String := "java/lang/Object"
def R_law : String := "ScythesKeepStepLaw"
def TB : u_T := fun k => match k with
  | 0 => ("ScythesKeepStep$Best", "which", "I", false)
  | _ => ("ScythesKeepStep$Best", "most", "I", false)
def tyB : Nat → FieldType := fun k => match k with
  | 0 => .int
  | _ => .int
theorem tokB : ∀ k, k < 2 → parseFieldDescriptor (TB k).2.2.1 = some (tyB k) := by decide +kernel
theorem nmB : ∀ a, a < 2 → ∀ b, b < 2 → a ≠ b → (TB a).2.1 ≠ (TB b).2.1 := by decide +kernel
def TL : u_T := fun k => match k with
  | 0 => ("ScythesKeepStep$Law", "codes", "[I", true)
  | 1 => ("ScythesKeepStep$Law", "ends", "[I", true)
  | 2 => ("ScythesKeepStep$Law", "stack", "[I", true)
  | _ => ("ScythesKeepStep$Law", "size", "I", false)
def tyL : Nat → FieldType := fun k => match k with
  | 0 => .array .int
  | 1 => .array .int
  | 2 => .array .int
  | _ => .int
theorem tokL : ∀ k, k < 4 → parseFieldDescriptor (TL k).2.2.1 = some (tyL k) := by decide +kernel
theorem nmL : ∀ a, a < 4 → ∀ b, b < 4 → a ≠ b → (TL a).2.1 ≠ (TL b).2.1 := by decide +kernel
def TO : u_T := fun k => match k with
  | 0 => ("ScythesKeepStep$Orders", "places", "[I", true)
  | 1 => ("ScythesKeepStep$Orders", "whoStands", "[I", true)
  | _ => ("ScythesKeepStep$Orders", "size", "I", false)
def tyO : Nat → FieldType := fun k => match k with
  | 0 => .array .int
  | 1 => .array .int
  | _ => .int
theorem tokO : ∀ k, k < 3 → parseFieldDescriptor (TO k).2.2.1 = some (tyO k) := by decide +kernel
theorem nmO : ∀ a, a < 3 → ∀ b, b < 3 → a ≠ b → (TO a).2.1 ≠ (TO b).2.1 := by decide +kernel
def TD : u_T := fun k => match k with
  | 0 => ("ScythesKeepStep$Reader", "draft", "LScythesKeepStep$Law;", true)
  | 1 => ("ScythesKeepStep$Reader", "size", "I", false)
  | 2 => ("ScythesKeepStep$Reader", "bytes", "[I", true)
  | 3 => ("ScythesKeepStep$Reader", "at", "I", false)
  | 4 => ("ScythesKeepStep$Reader", "kind", "I", false)
  | 5 => ("ScythesKeepStep$Reader", "place", "I", false)
  | 6 => ("ScythesKeepStep$Reader", "number", "I", false)
  | _ => ("ScythesKeepStep$Reader", "fault", "I", false)
def tyD : Nat → FieldType := fun k => match k with
  | 0 => .object "ScythesKeepStep$Law"
  | 1 => .int
  | 2 => .array .int
  | 3 => .int
  | 4 => .int
  | 5 => .int
  | 6 => .int
  | _ => .int
theorem tokD : ∀ k, k < 8 → parseFieldDescriptor (TD k).2.2.1 = some (tyD k) := by decide +kernel
theorem nmD : ∀ a, a < 8 → ∀ b, b < 8 → a ≠ b → (TD a).2.1 ≠ (TD b).2.1 := by decide +kernel
def TR : u_T := fun k => match k with
  | 0 => ("ScythesKeepStep$Row", "texts", "[LScythesKeepStep$Law;", true)
  | 1 => ("ScythesKeepStep$Row", "marks", "[I", true)
  | 2 => ("ScythesKeepStep$Row", "facts", "[[I", true)
  | 3 => ("ScythesKeepStep$Row", "mowers", "I", false)
  | 4 => ("ScythesKeepStep$Row", "law", "I", false)
  | 5 => ("ScythesKeepStep$Row", "names", "[I", true)
  | 6 => ("ScythesKeepStep$Row", "who", "I", false)
  | 7 => ("ScythesKeepStep$Row", "far", "[I", true)
  | _ => ("ScythesKeepStep$Row", "tiring", "[I", true)
def tyR : Nat → FieldType := fun k => match k with
  | 0 => .array (.object "ScythesKeepStep$Law")
  | 1 => .array .int
  | 2 => .array (.array .int)
  | 3 => .int
  | 4 => .int
  | 5 => .array .int
  | 6 => .int
  | 7 => .array .int
  | _ => .array .int
theorem tokR : ∀ k, k < 9 → parseFieldDescriptor (TR k).2.2.1 = some (tyR k) := by decide +kernel
theorem nmR : ∀ a, a < 9 → ∀ b, b < 9 → a ≠ b → (TR a).2.1 ≠ (TR b).2.1 := by decide +kernel
def TH : u_T := fun k => match k with
  | 0 => ("ScythesKeepStep$Sheet", "numbers", "[I", true)
  | 1 => ("ScythesKeepStep$Sheet", "sort", "I", false)
  | _ => ("ScythesKeepStep$Sheet", "size", "I", false)
def tyH : Nat → FieldType := fun k => match k with
  | 0 => .array .int
  | 1 => .int
  | _ => .int
theorem tokH : ∀ k, k < 3 → parseFieldDescriptor (TH k).2.2.1 = some (tyH k) := by decide +kernel
theorem nmH : ∀ a, a < 3 → ∀ b, b < 3 → a ≠ b → (TH a).2.1 ≠ (TH b).2.1 := by decide +kernel
def TS : u_T := fun k => match k with
  | 0 => ("ScythesKeepStep", "texts", "[LScythesKeepStep$Law;", true)
  | 1 => ("ScythesKeepStep", "sheets", "[LScythesKeepStep$Sheet;", true)
  | 2 => ("ScythesKeepStep", "reader", "LScythesKeepStep$Reader;", true)
  | 3 => ("ScythesKeepStep", "best", "LScythesKeepStep$Best;", true)
  | 4 => ("ScythesKeepStep", "orders", "LScythesKeepStep$Orders;", true)
  | 5 => ("ScythesKeepStep", "now", "LScythesKeepStep$Row;", true)
  | 6 => ("ScythesKeepStep", "thought", "LScythesKeepStep$Row;", true)
  | 7 => ("ScythesKeepStep", "kept", "LScythesKeepStep$Row;", true)
  | 8 => ("ScythesKeepStep", "textCount", "I", false)
  | _ => ("ScythesKeepStep", "imageKept", "Z", false)
def tyS : Nat → FieldType := fun k => match k with
  | 0 => .array (.object "ScythesKeepStep$Law")
  | 1 => .array (.object "ScythesKeepStep$Sheet")
  | 2 => .object "ScythesKeepStep$Reader"
  | 3 => .object "ScythesKeepStep$Best"
  | 4 => .object "ScythesKeepStep$Orders"
  | 5 => .object "ScythesKeepStep$Row"
  | 6 => .object "ScythesKeepStep$Row"
  | 7 => .object "ScythesKeepStep$Row"
  | 8 => .int
  | _ => .boolean
theorem tokS : ∀ k, k < 10 → parseFieldDescriptor (TS k).2.2.1 = some (tyS k) := by decide +kernel
theorem nmS : ∀ a, a < 10 → ∀ b, b < 10 → a ≠ b → (TS a).2.1 ≠ (TS b).2.1 := by decide +kernel
def TM : u_T := fun k => match k with
  | 0 => ("ScythesKeepStepModel", "mowers", "I", false)
  | 1 => ("ScythesKeepStepModel", "kind", "[I", true)
  | 2 => ("ScythesKeepStepModel", "moreOf", "[I", true)
  | 3 => ("ScythesKeepStepModel", "rows", "[I", true)
  | 4 => ("ScythesKeepStepModel", "row0", "[I", true)
  | 5 => ("ScythesKeepStepModel", "tape", "[I", true)
  | 6 => ("ScythesKeepStepModel", "taped", "I", false)
  | 7 => ("ScythesKeepStepModel", "codes", "[I", true)
  | 8 => ("ScythesKeepStepModel", "starts", "[I", true)
  | 9 => ("ScythesKeepStepModel", "texts", "I", false)
  | 10 => ("ScythesKeepStepModel", "rule", "I", false)
  | 11 => ("ScythesKeepStepModel", "hasImage", "Z", false)
  | 12 => ("ScythesKeepStepModel", "imageRows", "[I", true)
  | 13 => ("ScythesKeepStepModel", "imageHeld", "[I", true)
  | 14 => ("ScythesKeepStepModel", "sheetSort", "[I", true)
  | 15 => ("ScythesKeepStepModel", "sheetSize", "[I", true)
  | 16 => ("ScythesKeepStepModel", "cells", "[I", true)
  | 17 => ("ScythesKeepStepModel", "law", "[I", true)
  | 18 => ("ScythesKeepStepModel", "at", "I", false)
  | 19 => ("ScythesKeepStepModel", "begun", "I", false)
  | 20 => ("ScythesKeepStepModel", "token", "I", false)
  | 21 => ("ScythesKeepStepModel", "value", "I", false)
  | 22 => ("ScythesKeepStepModel", "words", "[I", true)
  | 23 => ("ScythesKeepStepModel", "held", "[I", true)
  | 24 => ("ScythesKeepStepModel", "heldMany", "I", false)
  | 25 => ("ScythesKeepStepModel", "opens", "I", false)
  | 26 => ("ScythesKeepStepModel", "out", "I", false)
  | 27 => ("ScythesKeepStepModel", "stack", "[I", true)
  | 28 => ("ScythesKeepStepModel", "named", "[I", true)
  | 29 => ("ScythesKeepStepModel", "ahead", "[I", true)
  | 30 => ("ScythesKeepStepModel", "kept", "[I", true)
  | 31 => ("ScythesKeepStepModel", "takens", "[I", true)
  | 32 => ("ScythesKeepStepModel", "orderDigits", "I", false)
  | _ => ("ScythesKeepStepModel", "stepThen", "I", false)
def tyM : Nat → FieldType := fun k => match k with
  | 0 => .int
  | 1 => .array .int
  | 2 => .array .int
  | 3 => .array .int
  | 4 => .array .int
  | 5 => .array .int
  | 6 => .int
  | 7 => .array .int
  | 8 => .array .int
  | 9 => .int
  | 10 => .int
  | 11 => .boolean
  | 12 => .array .int
  | 13 => .array .int
  | 14 => .array .int
  | 15 => .array .int
  | 16 => .array .int
  | 17 => .array .int
  | 18 => .int
  | 19 => .int
  | 20 => .int
  | 21 => .int
  | 22 => .array .int
  | 23 => .array .int
  | 24 => .int
  | 25 => .int
  | 26 => .int
  | 27 => .array .int
  | 28 => .array .int
  | 29 => .array .int
  | 30 => .array .int
  | 31 => .array .int
  | 32 => .int
  | _ => .int
theorem tokM : ∀ k, k < 34 → parseFieldDescriptor (TM k).2.2.1 = some (tyM k) := by decide +kernel
theorem nmM : ∀ a, a < 34 → ∀ b, b < 34 → a ≠ b → (TM a).2.1 ≠ (TM b).2.1 := by decide +kernel
abbrev clsG : List vw_C := [(NB, TB, 2), (NL, TL, 4), (NO, TO, 3), (ND, TD, 8), (NR, TR, 9), (NH, TH, 3), (NS, TS, 10), (NM, TM, 34)]
/-- a row of each cell's ints: fields by their places, or what the array holds -/
abbrev Sg : Type := Nat → Nat → Int32
/-- what a world has beside the ints: the classes' numbers and slots; the arrays' classes; the cells' addresses; the two static tables; the string constants and their bytes -/
abbrev GT : Type := va_G × (ClassId × ClassId × ClassId × ClassId) × (Nat → Nat) × (Nat × Nat) × (Nat → Nat) × (Nat → Nat)
def gD (G : GT) : va_G := G.1
def gI (G : GT) : ClassId := G.2.1.1
def gL (G : GT) : ClassId := G.2.1.2.1
def gH (G : GT) : ClassId := G.2.1.2.2.1
def gF (G : GT) : ClassId := G.2.1.2.2.2
def gA (G : GT) : Nat → Nat := G.2.2.1
def gM (G : GT) : Nat := G.2.2.2.1.1
def gK (G : GT) : Nat := G.2.2.2.1.2
def gS (G : GT) : Nat → Nat := G.2.2.2.2.1
def gV (G : GT) : Nat → Nat := G.2.2.2.2.2
def tysG (G : GT) : List (ClassId × FieldType) := [(gI G, .int), (gL G, .object NL), (gH G, .object NH), (gF G, .array .int)]
abbrev eI (G : GT) (n : Nat) (g : Nat → Int32) : va_E := .inl (gI G, n, .inl g)
abbrev eQ (c : ClassId) (n : Nat) (f : Nat → Option Nat) : va_E := .inl (c, n, .inr (.inr (.inr (.inr f))))
def fsB (G : GT) (g : Nat → Int32) : List Value := [.int (g 0), .int (g 1)]
def fsL (G : GT) (b : Nat) (g : Nat → Int32) : List Value := [.ref (gA G (b + 1)), .ref (gA G (b + 2)), .ref (gA G (b + 3)), .int (g 3)]
def fsO (G : GT) (g : Nat → Int32) : List Value := [.ref (gA G 7), .ref (gA G 8), .int (g 2)]
def fsD (G : GT) (g : Nat → Int32) : List Value := [.ref (gA G 66), .int (g 1), .ref (gA G 4), .int (g 3), .int (g 4), .int (g 5), .int (g 6), .int (g 7)]
def fsR (G : GT) (b : Nat) (g : Nat → Int32) : List Value := [.ref (gA G 1), .ref (gA G (b + 1)), .ref (gA G (b + 2)), .int (g 3), .int (g 4), .ref (gA G (b + 8)), .int (g 6), .ref (gA G (b + 9)), .ref (gA G (b + 10))]
def fsH (G : GT) (b : Nat) (g : Nat → Int32) : List Value := [.ref (gA G (b + 1)), .int (g 1), .int (g 2)]
def fsS (G : GT) (g : Nat → Int32) : List Value := [.ref (gA G 1), .ref (gA G 2), .ref (gA G 3), .ref (gA G 5), .ref (gA G 6), .ref (gA G 9), .ref (gA G 20), .ref (gA G 31), .int (g 8), .int (g 9)]
def fsM (G : GT) (g : Nat → Int32) : List Value := [.int (g 0), .ref (gA G 79), .ref (gA G 80), .ref (gA G 81), .ref (gA G 82), .ref (gA G 83), .int (g 6), .ref (gA G 84), .ref (gA G 85), .int (g 9), .int (g 10), .int (g 11), .ref (gA G 86), .ref (gA G 87), .ref (gA G 88), .ref (gA G 89), .ref (gA G 90), .ref (gA G 91), .int (g 18), .int (g 19), .int (g 20), .int (g 21), .ref (gA G 92), .ref (gA G 93), .int (g 24), .int (g 25), .int (g 26), .ref (gA G 94), .ref (gA G 95), .ref (gA G 96), .ref (gA G 97), .ref (gA G 98), .int (g 32), .int (g 33)]
/-- the layout: what each cell is, over its ints -/
def eL (G : GT) (g : Nat → Int32) : List va_E := [.inr (6, fsS G g), eQ (gL G) 6 (fun j => some (gA G (42 + 4 * j))), eQ (gH G) 4 (fun j => some (gA G (70 + 2 * j))), .inr (3, fsD G g), eI G 160 g, .inr (0, fsB G g), .inr (2, fsO G g), eI G 6 g, eI G 6 g, .inr (4, fsR G 9 g), eI G 5 g, eQ (gF G) 5 (fun j => some (gA G (12 + j))), eI G 6 g, eI G 6 g, eI G 6 g, eI G 6 g, eI G 6 g, eI G 6 g, eI G 6 g, eI G 6 g, .inr (4, fsR G 20 g), eI G 5 g, eQ (gF G) 5 (fun j => some (gA G (23 + j))), eI G 6 g, eI G 6 g, eI G 6 g, eI G 6 g, eI G 6 g, eI G 6 g, eI G 6 g, eI G 6 g, .inr (4, fsR G 31 g), eI G 5 g, eQ (gF G) 5 (fun j => some (gA G (34 + j))), eI G 6 g, eI G 6 g, eI G 6 g, eI G 6 g, eI G 6 g, eI G 6 g, eI G 6 g, eI G 6 g, .inr (1, fsL G 42 g), eI G 160 g, eI G 3 g, eI G 160 g, .inr (1, fsL G 46 g), eI G 160 g, eI G 3 g, eI G 160 g, .inr (1, fsL G 50 g), eI G 160 g, eI G 3 g, eI G 160 g, .inr (1, fsL G 54 g), eI G 160 g, eI G 3 g, eI G 160 g, .inr (1, fsL G 58 g), eI G 160 g, eI G 3 g, eI G 160 g, .inr (1, fsL G 62 g), eI G 160 g, eI G 3 g, eI G 160 g, .inr (1, fsL G 66 g), eI G 160 g, eI G 3 g, eI G 160 g, .inr (5, fsH G 70 g), eI G 40 g, .inr (5, fsH G 72 g), eI G 40 g, .inr (5, fsH G 74 g), eI G 40 g, .inr (5, fsH G 76 g), eI G 40 g, .inr (7, fsM G g), eI G 6 g, eI G 6 g, eI G 18 g, eI G 5 g, eI G 160 g, eI G 1200 g, eI G 24 g, eI G 23 g, eI G 2 g, eI G 4 g, eI G 4 g, eI G 160 g, eI G 50 g, eI G 96 g, eI G 200 g, eI G 200 g, eI G 6 g, eI G 12 g, eI G 23 g, eI G 6 g]
def eW (G : GT) (c : Nat) (g : Nat → Int32) : va_E := (eL G g).getD c (eI G 0 g)
def wsI (G : GT) (I : List Nat) (z : Sg) : va_W := I.map (fun c => (gA G c, eW G c (z c)))
def AD (G : GT) (I : List Nat) : Nat → Prop := fun q => ∃ c, c ∈ I ∧ q = gA G c
def ur (z : Sg) (c : Nat) (g : Nat → Int32) : Sg := fun a => if a = c then g else z a
def u2 (z : Sg) (c j : Nat) (v : Int32) : Sg := ur z c (upd (z c) j v)
def ga (z : Sg) (c : Nat) (i : Int32) : Int32 := z c i.toNatClampNeg
def sa (z : Sg) (c : Nat) (i v : Int32) : Sg := u2 z c i.toNatClampNeg v
def isRow (r : Nat) : Prop := r = 9 ∨ r = 20 ∨ r = 31
def isLaw (b : Nat) : Prop := b = 42 ∨ b = 46 ∨ b = 50 ∨ b = 54 ∨ b = 58 ∨ b = 62 ∨ b = 66
def isSheet (b : Nat) : Prop := b = 70 ∨ b = 72 ∨ b = 74 ∨ b = 76
def cI (I : List Nat) : Prop := ∀ c, c < 78 → c ∈ I
def mI (I : List Nat) : Prop := ∀ c, 78 ≤ c → c < 99 → c ∈ I
theorem isRow.lt {r : Nat} (h : isRow r) {k : Nat} (hk : k ≤ 10) : r + k < 78 := by rcases h with rfl | rfl | rfl <;> omega
theorem isLaw.lt {r : Nat} (h : isLaw r) {k : Nat} (hk : k ≤ 3) : r + k < 78 := by rcases h with rfl | rfl | rfl | rfl | rfl | rfl | rfl <;> omega
theorem isSheet.lt {r : Nat} (h : isSheet r) {k : Nat} (hk : k ≤ 1) : r + k < 78 := by rcases h with rfl | rfl | rfl | rfl <;> omega
theorem isRow.lt0 {r : Nat} (h : isRow r) : r < 78 := h.lt (k := 0) (Nat.zero_le _)
theorem isLaw.lt0 {r : Nat} (h : isLaw r) : r < 78 := h.lt (k := 0) (Nat.zero_le _)
theorem isSheet.lt0 {r : Nat} (h : isSheet r) : r < 78 := h.lt (k := 0) (Nat.zero_le _)
/-- an index within 6: the six texts -/
theorem isLaw.of {i : Int32} (h : vp_in i 6) : isLaw (42 + 4 * i.toNatClampNeg) := by
  have : i.toNatClampNeg < 6 := Nat.not_le.mp fun q => h (Or.inr q)
  unfold isLaw; omega
theorem isSheet.of {i : Int32} (h : vp_in i 4) : isSheet (70 + 2 * i.toNatClampNeg) := by
  have : i.toNatClampNeg < 4 := Nat.not_le.mp fun q => h (Or.inr q)
  unfold isSheet; omega
theorem isRow.fact {r : Nat} (h : isRow r) {i : Int32} (hi : vp_in i 5) : r + 3 + i.toNatClampNeg < 78 := by
  have : i.toNatClampNeg < 5 := Nat.not_le.mp fun q => hi (Or.inr q)
  rcases h with rfl | rfl | rfl <;> omega

theorem e_0 {G : GT} : ∀ g, eW G 0 g = .inr (6, fsS G g) := fun _ => rfl
theorem e_1 {G : GT} : ∀ g, eW G 1 g = eQ (gL G) 6 (fun j => some (gA G (42 + 4 * j))) := fun _ => rfl
theorem e_2 {G : GT} : ∀ g, eW G 2 g = eQ (gH G) 4 (fun j => some (gA G (70 + 2 * j))) := fun _ => rfl
theorem e_3 {G : GT} : ∀ g, eW G 3 g = .inr (3, fsD G g) := fun _ => rfl
theorem e_4 {G : GT} : ∀ g, eW G 4 g = eI G 160 g := fun _ => rfl
theorem e_5 {G : GT} : ∀ g, eW G 5 g = .inr (0, fsB G g) := fun _ => rfl
theorem e_6 {G : GT} : ∀ g, eW G 6 g = .inr (2, fsO G g) := fun _ => rfl
theorem e_7 {G : GT} : ∀ g, eW G 7 g = eI G 6 g := fun _ => rfl
theorem e_8 {G : GT} : ∀ g, eW G 8 g = eI G 6 g := fun _ => rfl
theorem e_9 {G : GT} : ∀ g, eW G 9 g = .inr (4, fsR G 9 g) := fun _ => rfl
theorem e_10 {G : GT} : ∀ g, eW G 10 g = eI G 5 g := fun _ => rfl
theorem e_11 {G : GT} : ∀ g, eW G 11 g = eQ (gF G) 5 (fun j => some (gA G (12 + j))) := fun _ => rfl
theorem e_12 {G : GT} : ∀ g, eW G 12 g = eI G 6 g := fun _ => rfl
theorem e_13 {G : GT} : ∀ g, eW G 13 g = eI G 6 g := fun _ => rfl
theorem e_14 {G : GT} : ∀ g, eW G 14 g = eI G 6 g := fun _ => rfl
theorem e_15 {G : GT} : ∀ g, eW G 15 g = eI G 6 g := fun _ => rfl
theorem e_16 {G : GT} : ∀ g, eW G 16 g = eI G 6 g := fun _ => rfl
theorem e_17 {G : GT} : ∀ g, eW G 17 g = eI G 6 g := fun _ => rfl
theorem e_18 {G : GT} : ∀ g, eW G 18 g = eI G 6 g := fun _ => rfl
theorem e_19 {G : GT} : ∀ g, eW G 19 g = eI G 6 g := fun _ => rfl
theorem e_20 {G : GT} : ∀ g, eW G 20 g = .inr (4, fsR G 20 g) := fun _ => rfl
theorem e_21 {G : GT} : ∀ g, eW G 21 g = eI G 5 g := fun _ => rfl
theorem e_22 {G : GT} : ∀ g, eW G 22 g = eQ (gF G) 5 (fun j => some (gA G (23 + j))) := fun _ => rfl
theorem e_23 {G : GT} : ∀ g, eW G 23 g = eI G 6 g := fun _ => rfl
theorem e_24 {G : GT} : ∀ g, eW G 24 g = eI G 6 g := fun _ => rfl
theorem e_25 {G : GT} : ∀ g, eW G 25 g = eI G 6 g := fun _ => rfl
theorem e_26 {G : GT} : ∀ g, eW G 26 g = eI G 6 g := fun _ => rfl
theorem e_27 {G : GT} : ∀ g, eW G 27 g = eI G 6 g := fun _ => rfl
theorem e_28 {G : GT} : ∀ g, eW G 28 g = eI G 6 g := fun _ => rfl
theorem e_29 {G : GT} : ∀ g, eW G 29 g = eI G 6 g := fun _ => rfl
theorem e_30 {G : GT} : ∀ g, eW G 30 g = eI G 6 g := fun _ => rfl
theorem e_31 {G : GT} : ∀ g, eW G 31 g = .inr (4, fsR G 31 g) := fun _ => rfl
theorem e_32 {G : GT} : ∀ g, eW G 32 g = eI G 5 g := fun _ => rfl
theorem e_33 {G : GT} : ∀ g, eW G 33 g = eQ (gF G) 5 (fun j => some (gA G (34 + j))) := fun _ => rfl
theorem e_34 {G : GT} : ∀ g, eW G 34 g = eI G 6 g := fun _ => rfl
theorem e_35 {G : GT} : ∀ g, eW G 35 g = eI G 6 g := fun _ => rfl
theorem e_36 {G : GT} : ∀ g, eW G 36 g = eI G 6 g := fun _ => rfl
theorem e_37 {G : GT} : ∀ g, eW G 37 g = eI G 6 g := fun _ => rfl
theorem e_38 {G : GT} : ∀ g, eW G 38 g = eI G 6 g := fun _ => rfl
theorem e_39 {G : GT} : ∀ g, eW G 39 g = eI G 6 g := fun _ => rfl
theorem e_40 {G : GT} : ∀ g, eW G 40 g = eI G 6 g := fun _ => rfl
theorem e_41 {G : GT} : ∀ g, eW G 41 g = eI G 6 g := fun _ => rfl
theorem e_42 {G : GT} : ∀ g, eW G 42 g = .inr (1, fsL G 42 g) := fun _ => rfl
theorem e_43 {G : GT} : ∀ g, eW G 43 g = eI G 160 g := fun _ => rfl
theorem e_44 {G : GT} : ∀ g, eW G 44 g = eI G 3 g := fun _ => rfl
theorem e_45 {G : GT} : ∀ g, eW G 45 g = eI G 160 g := fun _ => rfl
theorem e_46 {G : GT} : ∀ g, eW G 46 g = .inr (1, fsL G 46 g) := fun _ => rfl
theorem e_47 {G : GT} : ∀ g, eW G 47 g = eI G 160 g := fun _ => rfl
theorem e_48 {G : GT} : ∀ g, eW G 48 g = eI G 3 g := fun _ => rfl
theorem e_49 {G : GT} : ∀ g, eW G 49 g = eI G 160 g := fun _ => rfl
theorem e_50 {G : GT} : ∀ g, eW G 50 g = .inr (1, fsL G 50 g) := fun _ => rfl
theorem e_51 {G : GT} : ∀ g, eW G 51 g = eI G 160 g := fun _ => rfl
theorem e_52 {G : GT} : ∀ g, eW G 52 g = eI G 3 g := fun _ => rfl
theorem e_53 {G : GT} : ∀ g, eW G 53 g = eI G 160 g := fun _ => rfl
theorem e_54 {G : GT} : ∀ g, eW G 54 g = .inr (1, fsL G 54 g) := fun _ => rfl
theorem e_55 {G : GT} : ∀ g, eW G 55 g = eI G 160 g := fun _ => rfl
theorem e_56 {G : GT} : ∀ g, eW G 56 g = eI G 3 g := fun _ => rfl
theorem e_57 {G : GT} : ∀ g, eW G 57 g = eI G 160 g := fun _ => rfl
theorem e_58 {G : GT} : ∀ g, eW G 58 g = .inr (1, fsL G 58 g) := fun _ => rfl
theorem e_59 {G : GT} : ∀ g, eW G 59 g = eI G 160 g := fun _ => rfl
theorem e_60 {G : GT} : ∀ g, eW G 60 g = eI G 3 g := fun _ => rfl
theorem e_61 {G : GT} : ∀ g, eW G 61 g = eI G 160 g := fun _ => rfl
theorem e_62 {G : GT} : ∀ g, eW G 62 g = .inr (1, fsL G 62 g) := fun _ => rfl
theorem e_63 {G : GT} : ∀ g, eW G 63 g = eI G 160 g := fun _ => rfl
theorem e_64 {G : GT} : ∀ g, eW G 64 g = eI G 3 g := fun _ => rfl
theorem e_65 {G : GT} : ∀ g, eW G 65 g = eI G 160 g := fun _ => rfl
theorem e_66 {G : GT} : ∀ g, eW G 66 g = .inr (1, fsL G 66 g) := fun _ => rfl
theorem e_67 {G : GT} : ∀ g, eW G 67 g = eI G 160 g := fun _ => rfl
theorem e_68 {G : GT} : ∀ g, eW G 68 g = eI G 3 g := fun _ => rfl
theorem e_69 {G : GT} : ∀ g, eW G 69 g = eI G 160 g := fun _ => rfl
theorem e_70 {G : GT} : ∀ g, eW G 70 g = .inr (5, fsH G 70 g) := fun _ => rfl
theorem e_71 {G : GT} : ∀ g, eW G 71 g = eI G 40 g := fun _ => rfl
theorem e_72 {G : GT} : ∀ g, eW G 72 g = .inr (5, fsH G 72 g) := fun _ => rfl
theorem e_73 {G : GT} : ∀ g, eW G 73 g = eI G 40 g := fun _ => rfl
theorem e_74 {G : GT} : ∀ g, eW G 74 g = .inr (5, fsH G 74 g) := fun _ => rfl
theorem e_75 {G : GT} : ∀ g, eW G 75 g = eI G 40 g := fun _ => rfl
theorem e_76 {G : GT} : ∀ g, eW G 76 g = .inr (5, fsH G 76 g) := fun _ => rfl
theorem e_77 {G : GT} : ∀ g, eW G 77 g = eI G 40 g := fun _ => rfl
theorem e_78 {G : GT} : ∀ g, eW G 78 g = .inr (7, fsM G g) := fun _ => rfl
theorem e_79 {G : GT} : ∀ g, eW G 79 g = eI G 6 g := fun _ => rfl
theorem e_80 {G : GT} : ∀ g, eW G 80 g = eI G 6 g := fun _ => rfl
theorem e_81 {G : GT} : ∀ g, eW G 81 g = eI G 18 g := fun _ => rfl
theorem e_82 {G : GT} : ∀ g, eW G 82 g = eI G 5 g := fun _ => rfl
theorem e_83 {G : GT} : ∀ g, eW G 83 g = eI G 160 g := fun _ => rfl
theorem e_84 {G : GT} : ∀ g, eW G 84 g = eI G 1200 g := fun _ => rfl
theorem e_85 {G : GT} : ∀ g, eW G 85 g = eI G 24 g := fun _ => rfl
theorem e_86 {G : GT} : ∀ g, eW G 86 g = eI G 23 g := fun _ => rfl
theorem e_87 {G : GT} : ∀ g, eW G 87 g = eI G 2 g := fun _ => rfl
theorem e_88 {G : GT} : ∀ g, eW G 88 g = eI G 4 g := fun _ => rfl
theorem e_89 {G : GT} : ∀ g, eW G 89 g = eI G 4 g := fun _ => rfl
theorem e_90 {G : GT} : ∀ g, eW G 90 g = eI G 160 g := fun _ => rfl
theorem e_91 {G : GT} : ∀ g, eW G 91 g = eI G 50 g := fun _ => rfl
theorem e_92 {G : GT} : ∀ g, eW G 92 g = eI G 96 g := fun _ => rfl
theorem e_93 {G : GT} : ∀ g, eW G 93 g = eI G 200 g := fun _ => rfl
theorem e_94 {G : GT} : ∀ g, eW G 94 g = eI G 200 g := fun _ => rfl
theorem e_95 {G : GT} : ∀ g, eW G 95 g = eI G 6 g := fun _ => rfl
theorem e_96 {G : GT} : ∀ g, eW G 96 g = eI G 12 g := fun _ => rfl
theorem e_97 {G : GT} : ∀ g, eW G 97 g = eI G 23 g := fun _ => rfl
theorem e_98 {G : GT} : ∀ g, eW G 98 g = eI G 6 g := fun _ => rfl
theorem eR_0 {G : GT} {r : Nat} (h : isRow r) : ∀ g, eW G r g = .inr (4, fsR G r g) := by rcases h with rfl | rfl | rfl <;> exact fun _ => rfl
theorem eR_1 {G : GT} {r : Nat} (h : isRow r) : ∀ g, eW G (r + 1) g = eI G 5 g := by rcases h with rfl | rfl | rfl <;> exact fun _ => rfl
theorem eR_2 {G : GT} {r : Nat} (h : isRow r) : ∀ g, eW G (r + 2) g = eQ (gF G) 5 (fun j => some (gA G (r + 3 + j))) := by rcases h with rfl | rfl | rfl <;> exact fun _ => rfl
theorem eR_3 {G : GT} {r : Nat} (h : isRow r) : ∀ g, eW G (r + 3) g = eI G 6 g := by rcases h with rfl | rfl | rfl <;> exact fun _ => rfl
theorem eR_4 {G : GT} {r : Nat} (h : isRow r) : ∀ g, eW G (r + 4) g = eI G 6 g := by rcases h with rfl | rfl | rfl <;> exact fun _ => rfl
theorem eR_5 {G : GT} {r : Nat} (h : isRow r) : ∀ g, eW G (r + 5) g = eI G 6 g := by rcases h with rfl | rfl | rfl <;> exact fun _ => rfl
theorem eR_6 {G : GT} {r : Nat} (h : isRow r) : ∀ g, eW G (r + 6) g = eI G 6 g := by rcases h with rfl | rfl | rfl <;> exact fun _ => rfl
theorem eR_7 {G : GT} {r : Nat} (h : isRow r) : ∀ g, eW G (r + 7) g = eI G 6 g := by rcases h with rfl | rfl | rfl <;> exact fun _ => rfl
theorem eR_8 {G : GT} {r : Nat} (h : isRow r) : ∀ g, eW G (r + 8) g = eI G 6 g := by rcases h with rfl | rfl | rfl <;> exact fun _ => rfl
theorem eR_9 {G : GT} {r : Nat} (h : isRow r) : ∀ g, eW G (r + 9) g = eI G 6 g := by rcases h with rfl | rfl | rfl <;> exact fun _ => rfl
theorem eR_10 {G : GT} {r : Nat} (h : isRow r) : ∀ g, eW G (r + 10) g = eI G 6 g := by rcases h with rfl | rfl | rfl <;> exact fun _ => rfl
theorem eL_0 {G : GT} {b : Nat} (h : isLaw b) : ∀ g, eW G b g = .inr (1, fsL G b g) := by rcases h with rfl | rfl | rfl | rfl | rfl | rfl | rfl <;> exact fun _ => rfl
theorem eL_1 {G : GT} {b : Nat} (h : isLaw b) : ∀ g, eW G (b + 1) g = eI G 160 g := by rcases h with rfl | rfl | rfl | rfl | rfl | rfl | rfl <;> exact fun _ => rfl
theorem eL_2 {G : GT} {b : Nat} (h : isLaw b) : ∀ g, eW G (b + 2) g = eI G 3 g := by rcases h with rfl | rfl | rfl | rfl | rfl | rfl | rfl <;> exact fun _ => rfl
theorem eL_3 {G : GT} {b : Nat} (h : isLaw b) : ∀ g, eW G (b + 3) g = eI G 160 g := by rcases h with rfl | rfl | rfl | rfl | rfl | rfl | rfl <;> exact fun _ => rfl
theorem eH_0 {G : GT} {b : Nat} (h : isSheet b) : ∀ g, eW G b g = .inr (5, fsH G b g) := by rcases h with rfl | rfl | rfl | rfl <;> exact fun _ => rfl
theorem eH_1 {G : GT} {b : Nat} (h : isSheet b) : ∀ g, eW G (b + 1) g = eI G 40 g := by rcases h with rfl | rfl | rfl | rfl <;> exact fun _ => rfl
theorem eR_fact {G : GT} {r : Nat} (h : isRow r) {i : Int32} (hi : vp_in i 5) : ∀ g, eW G (r + 3 + i.toNatClampNeg) g = eI G 6 g := by
  have h5 : i.toNatClampNeg < 5 := Nat.not_le.mp fun q => hi (Or.inr q)
  generalize i.toNatClampNeg = j at h5 ⊢
  rcases (show j = 0 ∨ j = 1 ∨ j = 2 ∨ j = 3 ∨ j = 4 by omega) with rfl | rfl | rfl | rfl | rfl
  · exact eR_3 h
  · exact eR_4 h
  · exact eR_5 h
  · exact eR_6 h
  · exact eR_7 h
