def RX0 : String := "SeenADayLate$Chase"
def TX0 : u_T := fun k => match k with
  | 0 => ("SeenADayLate$Chase", "won", "[I", true)
  | _ => ("SeenADayLate$Chase", "held", "[I", true)
def tyX0 : Nat → FieldType := fun k => match k with
  | 0 => .array .int
  | _ => .array .int
theorem nmX0 : ∀ a, a < 2 → ∀ b, b < 2 → a ≠ b → (TX0 a).2.1 ≠ (TX0 b).2.1 := by decide +kernel
theorem tyX0_ok : ∀ k, k < 2 → parseFieldDescriptor (TX0 k).2.2.1 = some (tyX0 k) := by decide +kernel
def RX1 : String := "SeenADayLate$Dog"
def TX1 : u_T := fun k => match k with
  | 0 => ("SeenADayLate$Walker", "figure", "I", true)
  | _ => ("SeenADayLate$Walker", "plan", "[I", true)
def tyX1 : Nat → FieldType := fun k => match k with
  | 0 => .int
  | _ => .array .int
theorem nmX1 : ∀ a, a < 2 → ∀ b, b < 2 → a ≠ b → (TX1 a).2.1 ≠ (TX1 b).2.1 := by decide +kernel
theorem tyX1_ok : ∀ k, k < 2 → parseFieldDescriptor (TX1 k).2.2.1 = some (tyX1 k) := by decide +kernel
def RX2 : String := "SeenADayLate$Hare"
def TX2 : u_T := fun k => match k with
  | 0 => ("SeenADayLate$Walker", "figure", "I", true)
  | _ => ("SeenADayLate$Walker", "plan", "[I", true)
def tyX2 : Nat → FieldType := fun k => match k with
  | 0 => .int
  | _ => .array .int
theorem nmX2 : ∀ a, a < 2 → ∀ b, b < 2 → a ≠ b → (TX2 a).2.1 ≠ (TX2 b).2.1 := by decide +kernel
theorem tyX2_ok : ∀ k, k < 2 → parseFieldDescriptor (TX2 k).2.2.1 = some (tyX2 k) := by decide +kernel
def RX3 : String := "SeenADayLate$Hunter"
def TX3 : u_T := fun k => match k with
  | 0 => ("SeenADayLate$Walker", "figure", "I", true)
  | _ => ("SeenADayLate$Walker", "plan", "[I", true)
def tyX3 : Nat → FieldType := fun k => match k with
  | 0 => .int
  | _ => .array .int
theorem nmX3 : ∀ a, a < 2 → ∀ b, b < 2 → a ≠ b → (TX3 a).2.1 ≠ (TX3 b).2.1 := by decide +kernel
theorem tyX3_ok : ∀ k, k < 2 → parseFieldDescriptor (TX3 k).2.2.1 = some (tyX3 k) := by decide +kernel
def RX4 : String := "SeenADayLate$Letters"
def TX4 : u_T := fun k => match k with
  | 0 => ("SeenADayLate$Letters", "size", "I", false)
  | 1 => ("SeenADayLate$Letters", "signs", "[I", true)
  | 2 => ("SeenADayLate$Letters", "phase", "I", false)
  | 3 => ("SeenADayLate$Letters", "rowsBefore", "I", false)
  | 4 => ("SeenADayLate$Letters", "width", "I", false)
  | 5 => ("SeenADayLate$Letters", "column", "I", false)
  | _ => ("SeenADayLate$Letters", "planned", "I", false)
def tyX4 : Nat → FieldType := fun k => match k with
  | 0 => .int
  | 1 => .array .int
  | 2 => .int
  | 3 => .int
  | 4 => .int
  | 5 => .int
  | _ => .int
theorem nmX4 : ∀ a, a < 7 → ∀ b, b < 7 → a ≠ b → (TX4 a).2.1 ≠ (TX4 b).2.1 := by decide +kernel
theorem tyX4_ok : ∀ k, k < 7 → parseFieldDescriptor (TX4 k).2.2.1 = some (tyX4 k) := by decide +kernel
def RX5 : String := "SeenADayLate$Moor"
def TX5 : u_T := fun k => match k with
  | 0 => ("SeenADayLate$Moor", "rows", "I", true)
  | 1 => ("SeenADayLate$Moor", "columns", "I", true)
  | 2 => ("SeenADayLate$Moor", "cells", "I", true)
  | 3 => ("SeenADayLate$Moor", "free", "I", true)
  | 4 => ("SeenADayLate$Moor", "rowOf", "[I", true)
  | 5 => ("SeenADayLate$Moor", "columnOf", "[I", true)
  | 6 => ("SeenADayLate$Moor", "next", "[I", true)
  | 7 => ("SeenADayLate$Moor", "around", "[I", true)
  | _ => ("SeenADayLate$Moor", "looks", "[I", true)
def tyX5 : Nat → FieldType := fun k => match k with
  | 0 => .int
  | 1 => .int
  | 2 => .int
  | 3 => .int
  | 4 => .array .int
  | 5 => .array .int
  | 6 => .array .int
  | 7 => .array .int
  | _ => .array .int
theorem nmX5 : ∀ a, a < 9 → ∀ b, b < 9 → a ≠ b → (TX5 a).2.1 ≠ (TX5 b).2.1 := by decide +kernel
theorem tyX5_ok : ∀ k, k < 9 → parseFieldDescriptor (TX5 k).2.2.1 = some (tyX5 k) := by decide +kernel
def RX6 : String := "SeenADayLate$Reckoner"
def TX6 : u_T := fun k => match k with
  | 0 => ("SeenADayLate$Walker", "figure", "I", true)
  | _ => ("SeenADayLate$Walker", "plan", "[I", true)
def tyX6 : Nat → FieldType := fun k => match k with
  | 0 => .int
  | _ => .array .int
theorem nmX6 : ∀ a, a < 2 → ∀ b, b < 2 → a ≠ b → (TX6 a).2.1 ≠ (TX6 b).2.1 := by decide +kernel
theorem tyX6_ok : ∀ k, k < 2 → parseFieldDescriptor (TX6 k).2.2.1 = some (tyX6 k) := by decide +kernel
def RX7 : String := "SeenADayLate$Sights"
def TX7 : u_T := fun k => match k with
  | 0 => ("SeenADayLate$Sights", "size", "I", false)
  | 1 => ("SeenADayLate$Sights", "steps", "[I", true)
  | 2 => ("SeenADayLate$Sights", "cells", "[I", true)
  | 3 => ("SeenADayLate$Sights", "counts", "[I", true)
  | 4 => ("SeenADayLate$Sights", "rest", "[I", true)
  | _ => ("SeenADayLate$Sights", "before", "[I", true)
def tyX7 : Nat → FieldType := fun k => match k with
  | 0 => .int
  | 1 => .array .int
  | 2 => .array .int
  | 3 => .array .int
  | 4 => .array .int
  | _ => .array .int
theorem nmX7 : ∀ a, a < 6 → ∀ b, b < 6 → a ≠ b → (TX7 a).2.1 ≠ (TX7 b).2.1 := by decide +kernel
theorem tyX7_ok : ∀ k, k < 6 → parseFieldDescriptor (TX7 k).2.2.1 = some (tyX7 k) := by decide +kernel
def RX8 : String := "SeenADayLate$Still"
def TX8 : u_T := fun k => match k with
  | 0 => ("SeenADayLate$Walker", "figure", "I", true)
  | _ => ("SeenADayLate$Walker", "plan", "[I", true)
def tyX8 : Nat → FieldType := fun k => match k with
  | 0 => .int
  | _ => .array .int
theorem nmX8 : ∀ a, a < 2 → ∀ b, b < 2 → a ≠ b → (TX8 a).2.1 ≠ (TX8 b).2.1 := by decide +kernel
theorem tyX8_ok : ∀ k, k < 2 → parseFieldDescriptor (TX8 k).2.2.1 = some (tyX8 k) := by decide +kernel
def RX9 : String := "SeenADayLate$Walker"
def TX9 : u_T := fun k => match k with
  | 0 => ("SeenADayLate$Walker", "figure", "I", true)
  | _ => ("SeenADayLate$Walker", "plan", "[I", true)
def tyX9 : Nat → FieldType := fun k => match k with
  | 0 => .int
  | _ => .array .int
theorem nmX9 : ∀ a, a < 2 → ∀ b, b < 2 → a ≠ b → (TX9 a).2.1 ≠ (TX9 b).2.1 := by decide +kernel
theorem tyX9_ok : ∀ k, k < 2 → parseFieldDescriptor (TX9 k).2.2.1 = some (tyX9 k) := by decide +kernel
def RX10 : String := "SeenADayLate$World"
def TX10 : u_T := fun k => match k with
  | 0 => ("SeenADayLate$World", "moor", "LSeenADayLate$Moor;", false)
  | 1 => ("SeenADayLate$World", "lag", "I", false)
  | 2 => ("SeenADayLate$World", "today", "I", false)
  | 3 => ("SeenADayLate$World", "size", "I", false)
  | 4 => ("SeenADayLate$World", "people", "[LSeenADayLate$Walker;", true)
  | _ => ("SeenADayLate$World", "places", "[[I", true)
def tyX10 : Nat → FieldType := fun k => match k with
  | 0 => .object "SeenADayLate$Moor"
  | 1 => .int
  | 2 => .int
  | 3 => .int
  | 4 => .array (.object "SeenADayLate$Walker")
  | _ => .array (.array .int)
theorem nmX10 : ∀ a, a < 6 → ∀ b, b < 6 → a ≠ b → (TX10 a).2.1 ≠ (TX10 b).2.1 := by decide +kernel
theorem tyX10_ok : ∀ k, k < 6 → parseFieldDescriptor (TX10 k).2.2.1 = some (tyX10 k) := by decide +kernel
def RX11 : String := "SeenADayLate"
def TX11 : u_T := fun k => match k with
  | 0 => ("SeenADayLate", "now", "LSeenADayLate$World;", false)
  | 1 => ("SeenADayLate", "spare", "LSeenADayLate$World;", false)
  | 2 => ("SeenADayLate", "kept", "LSeenADayLate$World;", true)
  | 3 => ("SeenADayLate", "hasImage", "Z", false)
  | 4 => ("SeenADayLate", "letters", "LSeenADayLate$Letters;", true)
  | 5 => ("SeenADayLate", "sights", "LSeenADayLate$Sights;", true)
  | 6 => ("SeenADayLate", "chase", "LSeenADayLate$Chase;", true)
  | 7 => ("SeenADayLate", "told", "[I", true)
  | 8 => ("SeenADayLate", "toldSize", "I", false)
  | _ => ("SeenADayLate", "refusals", "[I", true)
def tyX11 : Nat → FieldType := fun k => match k with
  | 0 => .object "SeenADayLate$World"
  | 1 => .object "SeenADayLate$World"
  | 2 => .object "SeenADayLate$World"
  | 3 => .boolean
  | 4 => .object "SeenADayLate$Letters"
  | 5 => .object "SeenADayLate$Sights"
  | 6 => .object "SeenADayLate$Chase"
  | 7 => .array .int
  | 8 => .int
  | _ => .array .int
theorem nmX11 : ∀ a, a < 10 → ∀ b, b < 10 → a ≠ b → (TX11 a).2.1 ≠ (TX11 b).2.1 := by decide +kernel
theorem tyX11_ok : ∀ k, k < 10 → parseFieldDescriptor (TX11 k).2.2.1 = some (tyX11 k) := by decide +kernel
def RX12 : String := "SeenADayLateModel"
def TX12 : u_T := fun k => match k with
  | 0 => ("SeenADayLateModel", "rows", "I", false)
  | 1 => ("SeenADayLateModel", "columns", "I", false)
  | 2 => ("SeenADayLateModel", "hills", "I", false)
  | 3 => ("SeenADayLateModel", "people", "I", false)
  | 4 => ("SeenADayLateModel", "delay", "I", false)
  | 5 => ("SeenADayLateModel", "days", "I", false)
  | 6 => ("SeenADayLateModel", "kinds", "[I", true)
  | 7 => ("SeenADayLateModel", "figures", "[I", true)
  | 8 => ("SeenADayLateModel", "planMany", "[I", true)
  | 9 => ("SeenADayLateModel", "plans", "[I", true)
  | 10 => ("SeenADayLateModel", "came", "[I", true)
  | 11 => ("SeenADayLateModel", "trail", "[I", true)
  | 12 => ("SeenADayLateModel", "thrown", "I", false)
  | 13 => ("SeenADayLateModel", "refusals", "[I", true)
  | 14 => ("SeenADayLateModel", "kept", "[I", true)
  | 15 => ("SeenADayLateModel", "imaged", "[I", true)
  | 16 => ("SeenADayLateModel", "hasImage", "Z", false)
  | 17 => ("SeenADayLateModel", "place", "I", false)
  | 18 => ("SeenADayLateModel", "isTaking", "Z", false)
  | 19 => ("SeenADayLateModel", "keptIn", "[I", false)
  | 20 => ("SeenADayLateModel", "letters", "[I", true)
  | 21 => ("SeenADayLateModel", "letterMany", "I", false)
  | 22 => ("SeenADayLateModel", "at", "I", false)
  | 23 => ("SeenADayLateModel", "isBad", "Z", false)
  | 24 => ("SeenADayLateModel", "statements", "I", false)
  | 25 => ("SeenADayLateModel", "placeOf", "[I", true)
  | 26 => ("SeenADayLateModel", "letterOf", "[I", true)
  | 27 => ("SeenADayLateModel", "first", "[I", true)
  | 28 => ("SeenADayLateModel", "second", "[I", true)
  | 29 => ("SeenADayLateModel", "third", "[I", true)
  | 30 => ("SeenADayLateModel", "stepMany", "[I", true)
  | 31 => ("SeenADayLateModel", "steps", "[I", true)
  | 32 => ("SeenADayLateModel", "wayMany", "[I", true)
  | 33 => ("SeenADayLateModel", "wayBack", "[I", true)
  | 34 => ("SeenADayLateModel", "sightSteps", "[I", true)
  | 35 => ("SeenADayLateModel", "sightCells", "[I", true)
  | 36 => ("SeenADayLateModel", "sightMany", "I", false)
  | 37 => ("SeenADayLateModel", "games", "[I", true)
  | 38 => ("SeenADayLateModel", "looks", "[I", true)
  | 39 => ("SeenADayLateModel", "foundSet", "I", false)
  | 40 => ("SeenADayLateModel", "chosen", "[I", true)
  | 41 => ("SeenADayLateModel", "row", "[I", true)
  | _ => ("SeenADayLateModel", "rowMany", "I", false)
def tyX12 : Nat → FieldType := fun k => match k with
  | 0 => .int
  | 1 => .int
  | 2 => .int
  | 3 => .int
  | 4 => .int
  | 5 => .int
  | 6 => .array .int
  | 7 => .array .int
  | 8 => .array .int
  | 9 => .array .int
  | 10 => .array .int
  | 11 => .array .int
  | 12 => .int
  | 13 => .array .int
  | 14 => .array .int
  | 15 => .array .int
  | 16 => .boolean
  | 17 => .int
  | 18 => .boolean
  | 19 => .array .int
  | 20 => .array .int
  | 21 => .int
  | 22 => .int
  | 23 => .boolean
  | 24 => .int
  | 25 => .array .int
  | 26 => .array .int
  | 27 => .array .int
  | 28 => .array .int
  | 29 => .array .int
  | 30 => .array .int
  | 31 => .array .int
  | 32 => .array .int
  | 33 => .array .int
  | 34 => .array .int
  | 35 => .array .int
  | 36 => .int
  | 37 => .array .int
  | 38 => .array .int
  | 39 => .int
  | 40 => .array .int
  | 41 => .array .int
  | _ => .int
theorem nmX12 : ∀ a, a < 43 → ∀ b, b < 43 → a ≠ b → (TX12 a).2.1 ≠ (TX12 b).2.1 := by decide +kernel
theorem tyX12_ok : ∀ k, k < 43 → parseFieldDescriptor (TX12 k).2.2.1 = some (tyX12 k) := by decide +kernel
def sd_y (m : Nat) : MethodName := if m < 1106 then (if m < 514 then (if m < 409 then (if m < 301 then (if m < 101 then (if m < 3 then (if m < 1 then (⟨"SeenADayLate$Chase", "<init>", "()V"⟩) else (if m < 2 then (⟨"SeenADayLate$Chase", "stepsToCatch", "(LSeenADayLate$Moor;II)I"⟩) else (⟨"SeenADayLate$Chase", "firstStep", "(LSeenADayLate$Moor;II)I"⟩))) else (if m < 4 then (⟨"SeenADayLate$Chase", "letHareStep", "(LSeenADayLate$Moor;)V"⟩) else (if m < 100 then (⟨"SeenADayLate$Chase", "letHunterStep", "(LSeenADayLate$Moor;)Z"⟩) else (⟨"SeenADayLate$Dog", "<init>", "(I[I)V"⟩)))) else (if m < 201 then (if m < 102 then (⟨"SeenADayLate$Dog", "kind", "()I"⟩) else (if m < 200 then (⟨"SeenADayLate$Dog", "aim", "(LSeenADayLate$World;II)I"⟩) else (⟨"SeenADayLate$Hare", "<init>", "(I[I)V"⟩))) else (if m < 202 then (⟨"SeenADayLate$Hare", "kind", "()I"⟩) else (if m < 300 then (⟨"SeenADayLate$Hare", "chooses", "(LSeenADayLate$World;II)I"⟩) else (⟨"SeenADayLate$Hunter", "<init>", "(I[I)V"⟩))))) else (if m < 403 then (if m < 400 then (if m < 302 then (⟨"SeenADayLate$Hunter", "kind", "()I"⟩) else (if m < 303 then (⟨"SeenADayLate$Hunter", "chooses", "(LSeenADayLate$World;II)I"⟩) else (⟨"SeenADayLate$Hunter", "aim", "(LSeenADayLate$World;II)I"⟩))) else (if m < 401 then (⟨"SeenADayLate$Letters", "<init>", "()V"⟩) else (if m < 402 then (⟨"SeenADayLate$Letters", "clear", "()V"⟩) else (⟨"SeenADayLate$Letters", "isFull", "()Z"⟩)))) else (if m < 406 then (if m < 404 then (⟨"SeenADayLate$Letters", "take", "(I)I"⟩) else (if m < 405 then (⟨"SeenADayLate$Letters", "firstBadPlace", "()I"⟩) else (⟨"SeenADayLate$Letters", "goesOn", "(I)Z"⟩))) else (if m < 407 then (⟨"SeenADayLate$Letters", "opens", "(I)Z"⟩) else (if m < 408 then (⟨"SeenADayLate$Letters", "closes", "(I)Z"⟩) else (⟨"SeenADayLate$Letters", "goesOnInRows", "(I)Z"⟩)))))) else (if m < 502 then (if m < 415 then (if m < 412 then (if m < 410 then (⟨"SeenADayLate$Letters", "goesOnInPlan", "(I)Z"⟩) else (if m < 411 then (⟨"SeenADayLate$Letters", "isDigitThen", "(II)Z"⟩) else (⟨"SeenADayLate$Letters", "isDigit", "(I)Z"⟩))) else (if m < 413 then (⟨"SeenADayLate$Letters", "stepOf", "(I)I"⟩) else (if m < 414 then (⟨"SeenADayLate$Letters", "signAt", "(I)I"⟩) else (⟨"SeenADayLate$Letters", "digitAt", "(I)I"⟩)))) else (if m < 418 then (if m < 416 then (⟨"SeenADayLate$Letters", "tellTo", "(LSeenADayLate$World;)I"⟩) else (if m < 417 then (⟨"SeenADayLate$Letters", "tellMoor", "(LSeenADayLate$World;II)V"⟩) else (⟨"SeenADayLate$Letters", "tellPerson", "(LSeenADayLate$World;II)Z"⟩))) else (if m < 500 then (⟨"SeenADayLate$Letters", "tellDelay", "(LSeenADayLate$World;I)Z"⟩) else (if m < 501 then (⟨"SeenADayLate$Moor", "<init>", "(III)V"⟩) else (⟨"SeenADayLate$Moor", "layOutSteps", "(I)V"⟩))))) else (if m < 508 then (if m < 505 then (if m < 503 then (⟨"SeenADayLate$Moor", "neighbour", "(II)I"⟩) else (if m < 504 then (⟨"SeenADayLate$Moor", "isCell", "(I)Z"⟩) else (⟨"SeenADayLate$Moor", "isFree", "(I)Z"⟩))) else (if m < 506 then (⟨"SeenADayLate$Moor", "hillCount", "()I"⟩) else (if m < 507 then (⟨"SeenADayLate$Moor", "leadsTo", "(II)I"⟩) else (⟨"SeenADayLate$Moor", "stepsAround", "(I)I"⟩)))) else (if m < 511 then (if m < 509 then (⟨"SeenADayLate$Moor", "distance", "(II)I"⟩) else (if m < 510 then (⟨"SeenADayLate$Moor", "goingOn", "(III)I"⟩) else (⟨"SeenADayLate$Moor", "spread", "(II)I"⟩))) else (if m < 512 then (⟨"SeenADayLate$Moor", "drawnStep", "(II)I"⟩) else (if m < 513 then (⟨"SeenADayLate$Moor", "fewestWatchers", "(I)I"⟩) else (⟨"SeenADayLate$Moor", "lookedAt", "(II)I"⟩))))))) else (if m < 903 then (if m < 707 then (if m < 701 then (if m < 601 then (if m < 515 then (⟨"SeenADayLate$Moor", "watchersFor", "(LSeenADayLate$Moor;III)I"⟩) else (if m < 600 then (⟨"SeenADayLate$Moor", "lastWatcher", "(II)I"⟩) else (⟨"SeenADayLate$Reckoner", "<init>", "(I[I)V"⟩))) else (if m < 602 then (⟨"SeenADayLate$Reckoner", "kind", "()I"⟩) else (if m < 700 then (⟨"SeenADayLate$Reckoner", "aim", "(LSeenADayLate$World;II)I"⟩) else (⟨"SeenADayLate$Sights", "<init>", "()V"⟩)))) else (if m < 704 then (if m < 702 then (⟨"SeenADayLate$Sights", "isFull", "()Z"⟩) else (if m < 703 then (⟨"SeenADayLate$Sights", "add", "(II)I"⟩) else (⟨"SeenADayLate$Sights", "clear", "()I"⟩))) else (if m < 705 then (⟨"SeenADayLate$Sights", "latest", "()I"⟩) else (if m < 706 then (⟨"SeenADayLate$Sights", "walks", "(LSeenADayLate$Moor;III)I"⟩) else (⟨"SeenADayLate$Sights", "fittingWalks", "(LSeenADayLate$Moor;I)I"⟩))))) else (if m < 800 then (if m < 710 then (if m < 708 then (⟨"SeenADayLate$Sights", "likeliestCell", "(LSeenADayLate$Moor;II)I"⟩) else (if m < 709 then (⟨"SeenADayLate$Sights", "startFrom", "(LSeenADayLate$Moor;I)V"⟩) else (⟨"SeenADayLate$Sights", "countUpTo", "(LSeenADayLate$Moor;II)V"⟩))) else (if m < 711 then (⟨"SeenADayLate$Sights", "countBackTo", "(LSeenADayLate$Moor;I)V"⟩) else (if m < 712 then (⟨"SeenADayLate$Sights", "addStep", "(LSeenADayLate$Moor;[I)V"⟩) else (⟨"SeenADayLate$Sights", "strikeOut", "([II)V"⟩)))) else (if m < 900 then (if m < 801 then (⟨"SeenADayLate$Still", "<init>", "(I[I)V"⟩) else (if m < 802 then (⟨"SeenADayLate$Still", "kind", "()I"⟩) else (⟨"SeenADayLate$Still", "chooses", "(LSeenADayLate$World;II)I"⟩))) else (if m < 901 then (⟨"SeenADayLate$Walker", "<init>", "(I[I)V"⟩) else (if m < 902 then (⟨"SeenADayLate$Walker", "ofKind", "(II[I)LSeenADayLate$Walker;"⟩) else (⟨"SeenADayLate$Walker", "kind", "()I"⟩)))))) else (if m < 1010 then (if m < 1004 then (if m < 1001 then (if m < 904 then (⟨"SeenADayLate$Walker", "chooses", "(LSeenADayLate$World;II)I"⟩) else (if m < 1000 then (⟨"SeenADayLate$Walker", "byPlan", "(LSeenADayLate$World;II)I"⟩) else (⟨"SeenADayLate$World", "<init>", "(LSeenADayLate$Moor;)V"⟩))) else (if m < 1002 then (⟨"SeenADayLate$World", "become", "(LSeenADayLate$World;)V"⟩) else (if m < 1003 then (⟨"SeenADayLate$World", "settleOn", "(LSeenADayLate$Moor;)V"⟩) else (⟨"SeenADayLate$World", "receive", "(LSeenADayLate$Walker;I)Z"⟩)))) else (if m < 1007 then (if m < 1005 then (⟨"SeenADayLate$World", "personAt", "(I)LSeenADayLate$Walker;"⟩) else (if m < 1006 then (⟨"SeenADayLate$World", "tellOf", "(II)I"⟩) else (⟨"SeenADayLate$World", "placeOf", "(II)I"⟩))) else (if m < 1008 then (⟨"SeenADayLate$World", "sightOf", "(II)I"⟩) else (if m < 1009 then (⟨"SeenADayLate$World", "leastDistance", "(III)I"⟩) else (⟨"SeenADayLate$World", "liveOneDay", "()I"⟩))))) else (if m < 1016 then (if m < 1013 then (if m < 1011 then (⟨"SeenADayLate$World", "foresee", "(I)V"⟩) else (if m < 1012 then (⟨"SeenADayLate$World", "allStep", "(I)V"⟩) else (⟨"SeenADayLate$World", "firstMeeting", "(II)I"⟩))) else (if m < 1014 then (⟨"SeenADayLate$World", "firstPassing", "(II)I"⟩) else (if m < 1015 then (⟨"SeenADayLate$World", "placesOf", "(II)I"⟩) else (⟨"SeenADayLate$World", "howManyIn", "(II)I"⟩)))) else (if m < 1102 then (if m < 1100 then (⟨"SeenADayLate$World", "fullestCell", "(I)I"⟩) else (if m < 1101 then (⟨"SeenADayLate", "<init>", "()V"⟩) else (⟨"SeenADayLate", "feed", "(I)I"⟩))) else (if m < 1104 then (if m < 1103 then (⟨"SeenADayLate", "moor", "()I"⟩) else (⟨"SeenADayLate", "person", "(II)I"⟩)) else (if m < 1105 then (⟨"SeenADayLate", "delay", "(I)I"⟩) else (⟨"SeenADayLate", "day", "()I"⟩)))))))) else (if m < 1221 then (if m < 1130 then (if m < 1118 then (if m < 1112 then (if m < 1109 then (if m < 1107 then (⟨"SeenADayLate", "was", "(II)I"⟩) else (if m < 1108 then (⟨"SeenADayLate", "sees", "(II)I"⟩) else (⟨"SeenADayLate", "behind", "(II)I"⟩))) else (if m < 1110 then (⟨"SeenADayLate", "meet", "(III)I"⟩) else (if m < 1111 then (⟨"SeenADayLate", "never", "(II)I"⟩) else (⟨"SeenADayLate", "crowd", "(II)I"⟩)))) else (if m < 1115 then (if m < 1113 then (⟨"SeenADayLate", "reach", "(II)I"⟩) else (if m < 1114 then (⟨"SeenADayLate", "can", "(II)I"⟩) else (⟨"SeenADayLate", "ways", "(III)I"⟩))) else (if m < 1116 then (⟨"SeenADayLate", "sight", "(II)I"⟩) else (if m < 1117 then (⟨"SeenADayLate", "fits", "(I)I"⟩) else (⟨"SeenADayLate", "guess", "(II)I"⟩))))) else (if m < 1124 then (if m < 1121 then (if m < 1119 then (⟨"SeenADayLate", "forget", "()I"⟩) else (if m < 1120 then (⟨"SeenADayLate", "game", "(III)I"⟩) else (⟨"SeenADayLate", "watchers", "(II)I"⟩))) else (if m < 1122 then (⟨"SeenADayLate", "row", "(I)I"⟩) else (if m < 1123 then (⟨"SeenADayLate", "judge", "(I)I"⟩) else (⟨"SeenADayLate", "seeds", "(IIII)I"⟩)))) else (if m < 1127 then (if m < 1125 then (⟨"SeenADayLate", "image", "()I"⟩) else (if m < 1126 then (⟨"SeenADayLate", "restore", "()I"⟩) else (⟨"SeenADayLate", "count", "(I)I"⟩))) else (if m < 1128 then (⟨"SeenADayLate", "refusalsOf", "(I)I"⟩) else (if m < 1129 then (⟨"SeenADayLate", "refuse", "(I)I"⟩) else (⟨"SeenADayLate", "outside", "(III)I"⟩)))))) else (if m < 1208 then (if m < 1202 then (if m < 1133 then (if m < 1131 then (⟨"SeenADayLate", "notAsked", "(II)I"⟩) else (if m < 1132 then (⟨"SeenADayLate", "notHere", "(I)I"⟩) else (⟨"SeenADayLate", "notTwo", "(II)I"⟩))) else (if m < 1200 then (⟨"SeenADayLate", "notFree", "(I)I"⟩) else (if m < 1201 then (⟨"SeenADayLateModel", "<init>", "()V"⟩) else (⟨"SeenADayLateModel", "in", "(JJJ)Z"⟩)))) else (if m < 1205 then (if m < 1203 then (⟨"SeenADayLateModel", "refuse", "(I)I"⟩) else (if m < 1204 then (⟨"SeenADayLateModel", "isFree", "(I)Z"⟩) else (⟨"SeenADayLateModel", "isPerson", "(I)Z"⟩))) else (if m < 1206 then (⟨"SeenADayLateModel", "areTwo", "(II)Z"⟩) else (if m < 1207 then (⟨"SeenADayLateModel", "stepFrom", "(II)I"⟩) else (⟨"SeenADayLateModel", "apart", "(II)I"⟩))))) else (if m < 1214 then (if m < 1211 then (if m < 1209 then (⟨"SeenADayLateModel", "wayBetween", "(II)I"⟩) else (if m < 1210 then (⟨"SeenADayLateModel", "wasOn", "(II)I"⟩) else (⟨"SeenADayLateModel", "cellOf", "(I)I"⟩))) else (if m < 1212 then (⟨"SeenADayLateModel", "walks", "(I)I"⟩) else (if m < 1213 then (⟨"SeenADayLateModel", "hunts", "(II)I"⟩) else (⟨"SeenADayLateModel", "flees", "(I)I"⟩)))) else (if m < 1217 then (if m < 1215 then (⟨"SeenADayLateModel", "held", "(II)I"⟩) else (if m < 1216 then (⟨"SeenADayLateModel", "reckoned", "(I)I"⟩) else (⟨"SeenADayLateModel", "stepOf", "(I)I"⟩))) else (if m < 1219 then (if m < 1218 then (⟨"SeenADayLateModel", "dayOn", "()I"⟩) else (⟨"SeenADayLateModel", "daysOn", "(I)V"⟩)) else (if m < 1220 then (⟨"SeenADayLateModel", "carry", "(I)I"⟩) else (⟨"SeenADayLateModel", "carryAll", "([IZ)V"⟩))))))) else (if m < 1245 then (if m < 1233 then (if m < 1227 then (if m < 1224 then (if m < 1222 then (⟨"SeenADayLateModel", "image", "()I"⟩) else (if m < 1223 then (⟨"SeenADayLateModel", "restore", "()I"⟩) else (⟨"SeenADayLateModel", "feed", "(I)I"⟩))) else (if m < 1225 then (⟨"SeenADayLateModel", "here", "()I"⟩) else (if m < 1226 then (⟨"SeenADayLateModel", "readDigit", "()I"⟩) else (⟨"SeenADayLateModel", "stepOfLetter", "(I)I"⟩)))) else (if m < 1230 then (if m < 1228 then (⟨"SeenADayLateModel", "isGround", "()Z"⟩) else (if m < 1229 then (⟨"SeenADayLateModel", "readMoor", "(I)V"⟩) else (⟨"SeenADayLateModel", "readPerson", "(I)V"⟩))) else (if m < 1231 then (⟨"SeenADayLateModel", "readStatement", "()V"⟩) else (if m < 1232 then (⟨"SeenADayLateModel", "moorComes", "(I)Z"⟩) else (⟨"SeenADayLateModel", "comes", "(I)Z"⟩))))) else (if m < 1239 then (if m < 1236 then (if m < 1234 then (⟨"SeenADayLateModel", "moor", "()I"⟩) else (if m < 1235 then (⟨"SeenADayLateModel", "person", "(II)I"⟩) else (⟨"SeenADayLateModel", "delay", "(I)I"⟩))) else (if m < 1237 then (⟨"SeenADayLateModel", "day", "()I"⟩) else (if m < 1238 then (⟨"SeenADayLateModel", "was", "(II)I"⟩) else (⟨"SeenADayLateModel", "sees", "(II)I"⟩)))) else (if m < 1242 then (if m < 1240 then (⟨"SeenADayLateModel", "wrongDays", "(III)I"⟩) else (if m < 1241 then (⟨"SeenADayLateModel", "behind", "(II)I"⟩) else (⟨"SeenADayLateModel", "meet", "(III)I"⟩))) else (if m < 1243 then (⟨"SeenADayLateModel", "freeBits", "()I"⟩) else (if m < 1244 then (⟨"SeenADayLateModel", "never", "(II)I"⟩) else (⟨"SeenADayLateModel", "crowd", "(II)I"⟩)))))) else (if m < 1257 then (if m < 1251 then (if m < 1248 then (if m < 1246 then (⟨"SeenADayLateModel", "reachIn", "(II)I"⟩) else (if m < 1247 then (⟨"SeenADayLateModel", "reach", "(II)I"⟩) else (⟨"SeenADayLateModel", "can", "(II)I"⟩))) else (if m < 1249 then (⟨"SeenADayLateModel", "isSeen", "(IIZ)Z"⟩) else (if m < 1250 then (⟨"SeenADayLateModel", "countWays", "(IIZ)V"⟩) else (⟨"SeenADayLateModel", "countBack", "(I)V"⟩)))) else (if m < 1254 then (if m < 1252 then (⟨"SeenADayLateModel", "ways", "(III)I"⟩) else (if m < 1253 then (⟨"SeenADayLateModel", "sight", "(II)I"⟩) else (⟨"SeenADayLateModel", "latest", "()I"⟩))) else (if m < 1255 then (⟨"SeenADayLateModel", "fits", "(I)I"⟩) else (if m < 1256 then (⟨"SeenADayLateModel", "guess", "(II)I"⟩) else (⟨"SeenADayLateModel", "forget", "()I"⟩))))) else (if m < 1263 then (if m < 1260 then (if m < 1258 then (⟨"SeenADayLateModel", "worst", "(II)I"⟩) else (if m < 1259 then (⟨"SeenADayLateModel", "solve", "()V"⟩) else (⟨"SeenADayLateModel", "game", "(III)I"⟩))) else (if m < 1261 then (⟨"SeenADayLateModel", "lookAll", "(I)V"⟩) else (if m < 1262 then (⟨"SeenADayLateModel", "findSet", "(I)Z"⟩) else (⟨"SeenADayLateModel", "watchers", "(II)I"⟩)))) else (if m < 1266 then (if m < 1264 then (⟨"SeenADayLateModel", "row", "(I)I"⟩) else (if m < 1265 then (⟨"SeenADayLateModel", "judge", "(I)I"⟩) else (⟨"SeenADayLateModel", "seeds", "(IIII)I"⟩))) else (if m < 1300 then (if m < 1267 then (⟨"SeenADayLateModel", "ones", "(I)I"⟩) else (⟨"SeenADayLateModel", "count", "(I)I"⟩)) else (if m < 1400 then (⟨"java/lang/Integer", "bitCount", "(I)I"⟩) else (⟨"java/util/Arrays", "fill", "([II)V"⟩))))))))
def sd_b (m : Nat) : ByteArray := if m < 1106 then (if m < 514 then (if m < 409 then (if m < 301 then (if m < 101 then (if m < 3 then (if m < 1 then (prog_2_method_1_code) else (if m < 2 then (prog_2_method_2_code) else (prog_2_method_3_code))) else (if m < 4 then (prog_2_method_4_code) else (if m < 100 then (prog_2_method_5_code) else (prog_3_method_1_code)))) else (if m < 201 then (if m < 102 then (prog_3_method_2_code) else (if m < 200 then (prog_3_method_3_code) else (prog_4_method_1_code))) else (if m < 202 then (prog_4_method_2_code) else (if m < 300 then (prog_4_method_3_code) else (prog_5_method_1_code))))) else (if m < 403 then (if m < 400 then (if m < 302 then (prog_5_method_2_code) else (if m < 303 then (prog_5_method_3_code) else (prog_5_method_4_code))) else (if m < 401 then (prog_6_method_1_code) else (if m < 402 then (prog_6_method_2_code) else (prog_6_method_3_code)))) else (if m < 406 then (if m < 404 then (prog_6_method_4_code) else (if m < 405 then (prog_6_method_5_code) else (prog_6_method_6_code))) else (if m < 407 then (prog_6_method_7_code) else (if m < 408 then (prog_6_method_8_code) else (prog_6_method_9_code)))))) else (if m < 502 then (if m < 415 then (if m < 412 then (if m < 410 then (prog_6_method_10_code) else (if m < 411 then (prog_6_method_11_code) else (prog_6_method_12_code))) else (if m < 413 then (prog_6_method_13_code) else (if m < 414 then (prog_6_method_14_code) else (prog_6_method_15_code)))) else (if m < 418 then (if m < 416 then (prog_6_method_16_code) else (if m < 417 then (prog_6_method_17_code) else (prog_6_method_18_code))) else (if m < 500 then (prog_6_method_19_code) else (if m < 501 then (prog_7_method_1_code) else (prog_7_method_2_code))))) else (if m < 508 then (if m < 505 then (if m < 503 then (prog_7_method_3_code) else (if m < 504 then (prog_7_method_4_code) else (prog_7_method_5_code))) else (if m < 506 then (prog_7_method_6_code) else (if m < 507 then (prog_7_method_7_code) else (prog_7_method_8_code)))) else (if m < 511 then (if m < 509 then (prog_7_method_9_code) else (if m < 510 then (prog_7_method_10_code) else (prog_7_method_11_code))) else (if m < 512 then (prog_7_method_12_code) else (if m < 513 then (prog_7_method_13_code) else (prog_7_method_14_code))))))) else (if m < 903 then (if m < 707 then (if m < 701 then (if m < 601 then (if m < 515 then (prog_7_method_15_code) else (if m < 600 then (prog_7_method_16_code) else (prog_8_method_1_code))) else (if m < 602 then (prog_8_method_2_code) else (if m < 700 then (prog_8_method_3_code) else (prog_9_method_1_code)))) else (if m < 704 then (if m < 702 then (prog_9_method_2_code) else (if m < 703 then (prog_9_method_3_code) else (prog_9_method_4_code))) else (if m < 705 then (prog_9_method_5_code) else (if m < 706 then (prog_9_method_6_code) else (prog_9_method_7_code))))) else (if m < 800 then (if m < 710 then (if m < 708 then (prog_9_method_8_code) else (if m < 709 then (prog_9_method_9_code) else (prog_9_method_10_code))) else (if m < 711 then (prog_9_method_11_code) else (if m < 712 then (prog_9_method_12_code) else (prog_9_method_13_code)))) else (if m < 900 then (if m < 801 then (prog_10_method_1_code) else (if m < 802 then (prog_10_method_2_code) else (prog_10_method_3_code))) else (if m < 901 then (prog_11_method_1_code) else (if m < 902 then (prog_11_method_2_code) else (prog_11_method_3_code)))))) else (if m < 1010 then (if m < 1004 then (if m < 1001 then (if m < 904 then (prog_11_method_4_code) else (if m < 1000 then (prog_11_method_5_code) else (prog_12_method_1_code))) else (if m < 1002 then (prog_12_method_2_code) else (if m < 1003 then (prog_12_method_3_code) else (prog_12_method_4_code)))) else (if m < 1007 then (if m < 1005 then (prog_12_method_5_code) else (if m < 1006 then (prog_12_method_6_code) else (prog_12_method_7_code))) else (if m < 1008 then (prog_12_method_8_code) else (if m < 1009 then (prog_12_method_9_code) else (prog_12_method_10_code))))) else (if m < 1016 then (if m < 1013 then (if m < 1011 then (prog_12_method_11_code) else (if m < 1012 then (prog_12_method_12_code) else (prog_12_method_13_code))) else (if m < 1014 then (prog_12_method_14_code) else (if m < 1015 then (prog_12_method_15_code) else (prog_12_method_16_code)))) else (if m < 1102 then (if m < 1100 then (prog_12_method_17_code) else (if m < 1101 then (prog_1_method_1_code) else (prog_1_method_2_code))) else (if m < 1104 then (if m < 1103 then (prog_1_method_3_code) else (prog_1_method_4_code)) else (if m < 1105 then (prog_1_method_5_code) else (prog_1_method_6_code)))))))) else (if m < 1221 then (if m < 1130 then (if m < 1118 then (if m < 1112 then (if m < 1109 then (if m < 1107 then (prog_1_method_7_code) else (if m < 1108 then (prog_1_method_8_code) else (prog_1_method_9_code))) else (if m < 1110 then (prog_1_method_10_code) else (if m < 1111 then (prog_1_method_11_code) else (prog_1_method_12_code)))) else (if m < 1115 then (if m < 1113 then (prog_1_method_13_code) else (if m < 1114 then (prog_1_method_14_code) else (prog_1_method_15_code))) else (if m < 1116 then (prog_1_method_16_code) else (if m < 1117 then (prog_1_method_17_code) else (prog_1_method_18_code))))) else (if m < 1124 then (if m < 1121 then (if m < 1119 then (prog_1_method_19_code) else (if m < 1120 then (prog_1_method_20_code) else (prog_1_method_21_code))) else (if m < 1122 then (prog_1_method_22_code) else (if m < 1123 then (prog_1_method_23_code) else (prog_1_method_24_code)))) else (if m < 1127 then (if m < 1125 then (prog_1_method_25_code) else (if m < 1126 then (prog_1_method_26_code) else (prog_1_method_27_code))) else (if m < 1128 then (prog_1_method_28_code) else (if m < 1129 then (prog_1_method_29_code) else (prog_1_method_30_code)))))) else (if m < 1208 then (if m < 1202 then (if m < 1133 then (if m < 1131 then (prog_1_method_31_code) else (if m < 1132 then (prog_1_method_32_code) else (prog_1_method_33_code))) else (if m < 1200 then (prog_1_method_34_code) else (if m < 1201 then (prog_14_method_1_code) else (prog_14_method_3_code)))) else (if m < 1205 then (if m < 1203 then (prog_14_method_4_code) else (if m < 1204 then (prog_14_method_5_code) else (prog_14_method_6_code))) else (if m < 1206 then (prog_14_method_7_code) else (if m < 1207 then (prog_14_method_8_code) else (prog_14_method_9_code))))) else (if m < 1214 then (if m < 1211 then (if m < 1209 then (prog_14_method_10_code) else (if m < 1210 then (prog_14_method_11_code) else (prog_14_method_12_code))) else (if m < 1212 then (prog_14_method_13_code) else (if m < 1213 then (prog_14_method_14_code) else (prog_14_method_15_code)))) else (if m < 1217 then (if m < 1215 then (prog_14_method_16_code) else (if m < 1216 then (prog_14_method_17_code) else (prog_14_method_18_code))) else (if m < 1219 then (if m < 1218 then (prog_14_method_19_code) else (prog_14_method_20_code)) else (if m < 1220 then (prog_14_method_21_code) else (prog_14_method_22_code))))))) else (if m < 1245 then (if m < 1233 then (if m < 1227 then (if m < 1224 then (if m < 1222 then (prog_14_method_23_code) else (if m < 1223 then (prog_14_method_24_code) else (prog_14_method_25_code))) else (if m < 1225 then (prog_14_method_26_code) else (if m < 1226 then (prog_14_method_27_code) else (prog_14_method_28_code)))) else (if m < 1230 then (if m < 1228 then (prog_14_method_29_code) else (if m < 1229 then (prog_14_method_30_code) else (prog_14_method_31_code))) else (if m < 1231 then (prog_14_method_32_code) else (if m < 1232 then (prog_14_method_33_code) else (prog_14_method_34_code))))) else (if m < 1239 then (if m < 1236 then (if m < 1234 then (prog_14_method_35_code) else (if m < 1235 then (prog_14_method_36_code) else (prog_14_method_37_code))) else (if m < 1237 then (prog_14_method_38_code) else (if m < 1238 then (prog_14_method_39_code) else (prog_14_method_40_code)))) else (if m < 1242 then (if m < 1240 then (prog_14_method_41_code) else (if m < 1241 then (prog_14_method_42_code) else (prog_14_method_43_code))) else (if m < 1243 then (prog_14_method_44_code) else (if m < 1244 then (prog_14_method_45_code) else (prog_14_method_46_code)))))) else (if m < 1257 then (if m < 1251 then (if m < 1248 then (if m < 1246 then (prog_14_method_47_code) else (if m < 1247 then (prog_14_method_48_code) else (prog_14_method_49_code))) else (if m < 1249 then (prog_14_method_50_code) else (if m < 1250 then (prog_14_method_51_code) else (prog_14_method_52_code)))) else (if m < 1254 then (if m < 1252 then (prog_14_method_53_code) else (if m < 1253 then (prog_14_method_54_code) else (prog_14_method_55_code))) else (if m < 1255 then (prog_14_method_56_code) else (if m < 1256 then (prog_14_method_57_code) else (prog_14_method_58_code))))) else (if m < 1263 then (if m < 1260 then (if m < 1258 then (prog_14_method_59_code) else (if m < 1259 then (prog_14_method_60_code) else (prog_14_method_61_code))) else (if m < 1261 then (prog_14_method_62_code) else (if m < 1262 then (prog_14_method_63_code) else (prog_14_method_64_code)))) else (if m < 1266 then (if m < 1264 then (prog_14_method_65_code) else (if m < 1265 then (prog_14_method_66_code) else (prog_14_method_67_code))) else (if m < 1300 then (if m < 1267 then (prog_14_method_68_code) else (prog_14_method_69_code)) else (if m < 1400 then (prog_16_method_49_code) else (prog_22_method_103_code))))))))
def sd_rt (m : Nat) : Option FieldType := if m < 1106 then (if m < 514 then (if m < 409 then (if m < 301 then (if m < 101 then (if m < 3 then (if m < 1 then (none) else (if m < 2 then ((some .int)) else ((some .int)))) else (if m < 4 then (none) else (if m < 100 then ((some .boolean)) else (none)))) else (if m < 201 then (if m < 102 then ((some .int)) else (if m < 200 then ((some .int)) else (none))) else (if m < 202 then ((some .int)) else (if m < 300 then ((some .int)) else (none))))) else (if m < 403 then (if m < 400 then (if m < 302 then ((some .int)) else (if m < 303 then ((some .int)) else ((some .int)))) else (if m < 401 then (none) else (if m < 402 then (none) else ((some .boolean))))) else (if m < 406 then (if m < 404 then ((some .int)) else (if m < 405 then ((some .int)) else ((some .boolean)))) else (if m < 407 then ((some .boolean)) else (if m < 408 then ((some .boolean)) else ((some .boolean))))))) else (if m < 502 then (if m < 415 then (if m < 412 then (if m < 410 then ((some .boolean)) else (if m < 411 then ((some .boolean)) else ((some .boolean)))) else (if m < 413 then ((some .int)) else (if m < 414 then ((some .int)) else ((some .int))))) else (if m < 418 then (if m < 416 then ((some .int)) else (if m < 417 then (none) else ((some .boolean)))) else (if m < 500 then ((some .boolean)) else (if m < 501 then (none) else (none))))) else (if m < 508 then (if m < 505 then (if m < 503 then ((some .int)) else (if m < 504 then ((some .boolean)) else ((some .boolean)))) else (if m < 506 then ((some .int)) else (if m < 507 then ((some .int)) else ((some .int))))) else (if m < 511 then (if m < 509 then ((some .int)) else (if m < 510 then ((some .int)) else ((some .int)))) else (if m < 512 then ((some .int)) else (if m < 513 then ((some .int)) else ((some .int)))))))) else (if m < 903 then (if m < 707 then (if m < 701 then (if m < 601 then (if m < 515 then ((some .int)) else (if m < 600 then ((some .int)) else (none))) else (if m < 602 then ((some .int)) else (if m < 700 then ((some .int)) else (none)))) else (if m < 704 then (if m < 702 then ((some .boolean)) else (if m < 703 then ((some .int)) else ((some .int)))) else (if m < 705 then ((some .int)) else (if m < 706 then ((some .int)) else ((some .int)))))) else (if m < 800 then (if m < 710 then (if m < 708 then ((some .int)) else (if m < 709 then (none) else (none))) else (if m < 711 then (none) else (if m < 712 then (none) else (none)))) else (if m < 900 then (if m < 801 then (none) else (if m < 802 then ((some .int)) else ((some .int)))) else (if m < 901 then (none) else (if m < 902 then ((some (.object "SeenADayLate$Walker"))) else ((some .int))))))) else (if m < 1010 then (if m < 1004 then (if m < 1001 then (if m < 904 then ((some .int)) else (if m < 1000 then ((some .int)) else (none))) else (if m < 1002 then (none) else (if m < 1003 then (none) else ((some .boolean))))) else (if m < 1007 then (if m < 1005 then ((some (.object "SeenADayLate$Walker"))) else (if m < 1006 then ((some .int)) else ((some .int)))) else (if m < 1008 then ((some .int)) else (if m < 1009 then ((some .int)) else ((some .int)))))) else (if m < 1016 then (if m < 1013 then (if m < 1011 then (none) else (if m < 1012 then (none) else ((some .int)))) else (if m < 1014 then ((some .int)) else (if m < 1015 then ((some .int)) else ((some .int))))) else (if m < 1102 then (if m < 1100 then ((some .int)) else (if m < 1101 then (none) else ((some .int)))) else (if m < 1104 then (if m < 1103 then ((some .int)) else ((some .int))) else (if m < 1105 then ((some .int)) else ((some .int))))))))) else (if m < 1221 then (if m < 1130 then (if m < 1118 then (if m < 1112 then (if m < 1109 then (if m < 1107 then ((some .int)) else (if m < 1108 then ((some .int)) else ((some .int)))) else (if m < 1110 then ((some .int)) else (if m < 1111 then ((some .int)) else ((some .int))))) else (if m < 1115 then (if m < 1113 then ((some .int)) else (if m < 1114 then ((some .int)) else ((some .int)))) else (if m < 1116 then ((some .int)) else (if m < 1117 then ((some .int)) else ((some .int)))))) else (if m < 1124 then (if m < 1121 then (if m < 1119 then ((some .int)) else (if m < 1120 then ((some .int)) else ((some .int)))) else (if m < 1122 then ((some .int)) else (if m < 1123 then ((some .int)) else ((some .int))))) else (if m < 1127 then (if m < 1125 then ((some .int)) else (if m < 1126 then ((some .int)) else ((some .int)))) else (if m < 1128 then ((some .int)) else (if m < 1129 then ((some .int)) else ((some .int))))))) else (if m < 1208 then (if m < 1202 then (if m < 1133 then (if m < 1131 then ((some .int)) else (if m < 1132 then ((some .int)) else ((some .int)))) else (if m < 1200 then ((some .int)) else (if m < 1201 then (none) else ((some .boolean))))) else (if m < 1205 then (if m < 1203 then ((some .int)) else (if m < 1204 then ((some .boolean)) else ((some .boolean)))) else (if m < 1206 then ((some .boolean)) else (if m < 1207 then ((some .int)) else ((some .int)))))) else (if m < 1214 then (if m < 1211 then (if m < 1209 then ((some .int)) else (if m < 1210 then ((some .int)) else ((some .int)))) else (if m < 1212 then ((some .int)) else (if m < 1213 then ((some .int)) else ((some .int))))) else (if m < 1217 then (if m < 1215 then ((some .int)) else (if m < 1216 then ((some .int)) else ((some .int)))) else (if m < 1219 then (if m < 1218 then ((some .int)) else (none)) else (if m < 1220 then ((some .int)) else (none))))))) else (if m < 1245 then (if m < 1233 then (if m < 1227 then (if m < 1224 then (if m < 1222 then ((some .int)) else (if m < 1223 then ((some .int)) else ((some .int)))) else (if m < 1225 then ((some .int)) else (if m < 1226 then ((some .int)) else ((some .int))))) else (if m < 1230 then (if m < 1228 then ((some .boolean)) else (if m < 1229 then (none) else (none))) else (if m < 1231 then (none) else (if m < 1232 then ((some .boolean)) else ((some .boolean)))))) else (if m < 1239 then (if m < 1236 then (if m < 1234 then ((some .int)) else (if m < 1235 then ((some .int)) else ((some .int)))) else (if m < 1237 then ((some .int)) else (if m < 1238 then ((some .int)) else ((some .int))))) else (if m < 1242 then (if m < 1240 then ((some .int)) else (if m < 1241 then ((some .int)) else ((some .int)))) else (if m < 1243 then ((some .int)) else (if m < 1244 then ((some .int)) else ((some .int))))))) else (if m < 1257 then (if m < 1251 then (if m < 1248 then (if m < 1246 then ((some .int)) else (if m < 1247 then ((some .int)) else ((some .int)))) else (if m < 1249 then ((some .boolean)) else (if m < 1250 then (none) else (none)))) else (if m < 1254 then (if m < 1252 then ((some .int)) else (if m < 1253 then ((some .int)) else ((some .int)))) else (if m < 1255 then ((some .int)) else (if m < 1256 then ((some .int)) else ((some .int)))))) else (if m < 1263 then (if m < 1260 then (if m < 1258 then ((some .int)) else (if m < 1259 then (none) else ((some .int)))) else (if m < 1261 then (none) else (if m < 1262 then ((some .boolean)) else ((some .int))))) else (if m < 1266 then (if m < 1264 then ((some .int)) else (if m < 1265 then ((some .int)) else ((some .int)))) else (if m < 1300 then (if m < 1267 then ((some .int)) else ((some .int))) else (if m < 1400 then ((some .int)) else (none))))))))
def sd_ids : List Nat := [0, 1, 2, 3, 4, 100, 101, 102, 200, 201, 202, 300, 301, 302, 303, 400, 401, 402, 403, 404, 405, 406, 407, 408, 409, 410, 411, 412, 413, 414, 415, 416, 417, 418, 500, 501, 502, 503, 504, 505, 506, 507, 508, 509, 510, 511, 512, 513, 514, 515, 600, 601, 602, 700, 701, 702, 703, 704, 705, 706, 707, 708, 709, 710, 711, 712, 800, 801, 802, 900, 901, 902, 903, 904, 1000, 1001, 1002, 1003, 1004, 1005, 1006, 1007, 1008, 1009, 1010, 1011, 1012, 1013, 1014, 1015, 1016, 1100, 1101, 1102, 1103, 1104, 1105, 1106, 1107, 1108, 1109, 1110, 1111, 1112, 1113, 1114, 1115, 1116, 1117, 1118, 1119, 1120, 1121, 1122, 1123, 1124, 1125, 1126, 1127, 1128, 1129, 1130, 1131, 1132, 1133, 1200, 1201, 1202, 1203, 1204, 1205, 1206, 1207, 1208, 1209, 1210, 1211, 1212, 1213, 1214, 1215, 1216, 1217, 1218, 1219, 1220, 1221, 1222, 1223, 1224, 1225, 1226, 1227, 1228, 1229, 1230, 1231, 1232, 1233, 1234, 1235, 1236, 1237, 1238, 1239, 1240, 1241, 1242, 1243, 1244, 1245, 1246, 1247, 1248, 1249, 1250, 1251, 1252, 1253, 1254, 1255, 1256, 1257, 1258, 1259, 1260, 1261, 1262, 1263, 1264, 1265, 1266, 1267, 1300, 1400]
def sd_R (k : Nat) : String := match k with
  | 0 => RX0
  | 1 => RX1
  | 2 => RX2
  | 3 => RX3
  | 4 => RX4
  | 5 => RX5
  | 6 => RX6
  | 7 => RX7
  | 8 => RX8
  | 9 => RX9
  | 10 => RX10
  | 11 => RX11
  | 12 => RX12
  | _ => RX0
def sd_T (k : Nat) : u_T := match k with
  | 0 => TX0
  | 1 => TX1
  | 2 => TX2
  | 3 => TX3
  | 4 => TX4
  | 5 => TX5
  | 6 => TX6
  | 7 => TX7
  | 8 => TX8
  | 9 => TX9
  | 10 => TX10
  | 11 => TX11
  | 12 => TX12
  | _ => TX0
def sd_N (k : Nat) : Nat := match k with
  | 0 => 2
  | 1 => 2
  | 2 => 2
  | 3 => 2
  | 4 => 7
  | 5 => 9
  | 6 => 2
  | 7 => 6
  | 8 => 2
  | 9 => 2
  | 10 => 6
  | 11 => 10
  | 12 => 43
  | _ => 0
def sd_ty (k : Nat) : Nat → FieldType := match k with
  | 0 => tyX0
  | 1 => tyX1
  | 2 => tyX2
  | 3 => tyX3
  | 4 => tyX4
  | 5 => tyX5
  | 6 => tyX6
  | 7 => tyX7
  | 8 => tyX8
  | 9 => tyX9
  | 10 => tyX10
  | 11 => tyX11
  | 12 => tyX12
  | _ => tyX0
def sd_cl : List vw_C := [(RX0, TX0, 2), (RX1, TX1, 2), (RX2, TX2, 2), (RX3, TX3, 2), (RX4, TX4, 7), (RX5, TX5, 9), (RX6, TX6, 2), (RX7, TX7, 6), (RX8, TX8, 2), (RX9, TX9, 2), (RX10, TX10, 6), (RX11, TX11, 10), (RX12, TX12, 43)]
def sd_tb : List Cond := lw_tbl.filter goodWord
theorem sd_in {w : Cond} (p : Nat) (h : lw_tbl[p]? = some w) (g : goodWord w = true) : w ∈ sd_tb := List.mem_filter.mpr ⟨List.mem_of_getElem? h, g⟩
theorem sd_clk {k : Nat} (hk : k < 13) : sd_cl[k]? = some (sd_R k, sd_T k, sd_N k) := by
  match k, hk with
  | 0, _ => rfl
  | 1, _ => rfl
  | 2, _ => rfl
  | 3, _ => rfl
  | 4, _ => rfl
  | 5, _ => rfl
  | 6, _ => rfl
  | 7, _ => rfl
  | 8, _ => rfl
  | 9, _ => rfl
  | 10, _ => rfl
  | 11, _ => rfl
  | 12, _ => rfl
theorem sd_i0 : ∀ w ∈ u_ws RX0 TX0 2, w ∈ sd_tb := by decide +kernel
theorem sd_i1 : ∀ w ∈ u_ws RX1 TX1 2, w ∈ sd_tb := by decide +kernel
theorem sd_i2 : ∀ w ∈ u_ws RX2 TX2 2, w ∈ sd_tb := by decide +kernel
theorem sd_i3 : ∀ w ∈ u_ws RX3 TX3 2, w ∈ sd_tb := by decide +kernel
theorem sd_i4 : ∀ w ∈ u_ws RX4 TX4 7, w ∈ sd_tb := by decide +kernel
theorem sd_i5 : ∀ w ∈ u_ws RX5 TX5 9, w ∈ sd_tb := by decide +kernel
theorem sd_i6 : ∀ w ∈ u_ws RX6 TX6 2, w ∈ sd_tb := by decide +kernel
theorem sd_i7 : ∀ w ∈ u_ws RX7 TX7 6, w ∈ sd_tb := by decide +kernel
theorem sd_i8 : ∀ w ∈ u_ws RX8 TX8 2, w ∈ sd_tb := by decide +kernel
theorem sd_i9 : ∀ w ∈ u_ws RX9 TX9 2, w ∈ sd_tb := by decide +kernel
theorem sd_i10 : ∀ w ∈ u_ws RX10 TX10 6, w ∈ sd_tb := by decide +kernel
theorem sd_i11 : ∀ w ∈ u_ws RX11 TX11 10, w ∈ sd_tb := by decide +kernel
theorem sd_i12 : ∀ w ∈ u_ws RX12 TX12 43, w ∈ sd_tb := by decide +kernel
theorem sd_inT {k : Nat} (hk : k < 13) : ∀ w ∈ u_ws (sd_R k) (sd_T k) (sd_N k), w ∈ sd_tb := by
  match k, hk with
  | 0, _ => exact sd_i0
  | 1, _ => exact sd_i1
  | 2, _ => exact sd_i2
  | 3, _ => exact sd_i3
  | 4, _ => exact sd_i4
  | 5, _ => exact sd_i5
  | 6, _ => exact sd_i6
  | 7, _ => exact sd_i7
  | 8, _ => exact sd_i8
  | 9, _ => exact sd_i9
  | 10, _ => exact sd_i10
  | 11, _ => exact sd_i11
  | 12, _ => exact sd_i12
theorem sd_tyo {k : Nat} (hk : k < 13) : ∀ j, j < sd_N k → parseFieldDescriptor (sd_T k j).2.2.1 = some (sd_ty k j) := by
  match k, hk with
  | 0, _ => exact tyX0_ok
  | 1, _ => exact tyX1_ok
  | 2, _ => exact tyX2_ok
  | 3, _ => exact tyX3_ok
  | 4, _ => exact tyX4_ok
  | 5, _ => exact tyX5_ok
  | 6, _ => exact tyX6_ok
  | 7, _ => exact tyX7_ok
  | 8, _ => exact tyX8_ok
  | 9, _ => exact tyX9_ok
  | 10, _ => exact tyX10_ok
  | 11, _ => exact tyX11_ok
  | 12, _ => exact tyX12_ok
theorem sd_nm {k : Nat} (hk : k < 13) : ∀ a, a < sd_N k → ∀ b, b < sd_N k → a ≠ b → (sd_T k a).2.1 ≠ (sd_T k b).2.1 := by
  match k, hk with
  | 0, _ => exact nmX0
  | 1, _ => exact nmX1
  | 2, _ => exact nmX2
  | 3, _ => exact nmX3
  | 4, _ => exact nmX4
  | 5, _ => exact nmX5
  | 6, _ => exact nmX6
  | 7, _ => exact nmX7
  | 8, _ => exact nmX8
  | 9, _ => exact nmX9
  | 10, _ => exact nmX10
  | 11, _ => exact nmX11
  | 12, _ => exact nmX12
