/-! THE WORLD: 57 cells of the class, 50 of the reference; what stays; contracts and calls (laid by gen_world.py) -/
abbrev Th : Type := va_G × (Nat → ClassId) × (Nat → Nat) × (Nat → Nat)
def iA (Θ : Th) (t n : Nat) (c : Nat → Int) : va_E := .inl (Θ.2.1 t, n, .inl (fun j => Int32.ofInt (c j)))
def lA (Θ : Th) (n : Nat) (c : Nat → Int) : va_E := .inl (Θ.2.1 1, n, .inr (.inl (fun j => Int64.ofInt (c j))))
def tT (Θ : Th) : List (ClassId × FieldType) := [(Θ.2.1 0, .int), (Θ.2.1 1, .long), (Θ.2.1 2, .byte), (Θ.2.1 3, .boolean)]
def eX (Θ : Th) (k : Nat) (c : Nat → Int) : va_E := match k with
  | 0 => .inr (11, [.ref (Θ.2.2.1 1), .ref (Θ.2.2.1 8), .ref (Θ.2.2.1 17), .ref (Θ.2.2.1 20), .ref (Θ.2.2.1 24), .ref (Θ.2.2.1 28), .ref (Θ.2.2.1 32), .ref (Θ.2.2.1 37), .ref (Θ.2.2.1 39), .ref (Θ.2.2.1 41), .ref (Θ.2.2.1 44), .ref (Θ.2.2.1 46), .ref (Θ.2.2.1 (c 12).toNat), .ref (Θ.2.2.1 (c 13).toNat), vi (c 14), vi (c 15), vi (c 16), vi (c 17)])
  | 1 => .inr (3, [.ref (Θ.2.2.1 2), .ref (Θ.2.2.1 3), .ref (Θ.2.2.1 4), .ref (Θ.2.2.1 5), .ref (Θ.2.2.1 6), .ref (Θ.2.2.1 7), vi (c 6), vi (c 7), vi (c 8), vi (c 9)])
  | 2 => iA Θ 0 190 c
  | 3 => iA Θ 0 190 c
  | 4 => iA Θ 0 81 c
  | 5 => iA Θ 0 81 c
  | 6 => iA Θ 0 81 c
  | 7 => iA Θ 0 81 c
  | 8 => .inr (1, [.ref (Θ.2.2.1 9), .ref (Θ.2.2.1 10), .ref (Θ.2.2.1 11), .ref (Θ.2.2.1 12), .ref (Θ.2.2.1 13), .ref (Θ.2.2.1 14), .ref (Θ.2.2.1 15), .ref (Θ.2.2.1 16), vi (c 8), vi (c 9), vi (c 10)])
  | 9 => iA Θ 0 12 c
  | 10 => iA Θ 0 12 c
  | 11 => iA Θ 0 12 c
  | 12 => iA Θ 0 12 c
  | 13 => iA Θ 0 4 c
  | 14 => iA Θ 0 4 c
  | 15 => iA Θ 0 4 c
  | 16 => iA Θ 0 4 c
  | 17 => .inr (4, [.ref (Θ.2.2.1 18), .ref (Θ.2.2.1 19), vi (c 2)])
  | 18 => iA Θ 0 6 c
  | 19 => iA Θ 0 6 c
  | 20 => .inr (10, [.ref (Θ.2.2.1 21), .ref (Θ.2.2.1 22), .ref (Θ.2.2.1 23), vi (c 3)])
  | 21 => iA Θ 0 8 c
  | 22 => iA Θ 0 8 c
  | 23 => iA Θ 0 600 c
  | 24 => .inr (0, [.ref (Θ.2.2.1 25), .ref (Θ.2.2.1 26), .ref (Θ.2.2.1 27), vi (c 3), vi (c 4), vi (c 5), vi (c 6), vi (c 7), vi (c 8), vi (c 9), vi (c 10)])
  | 25 => iA Θ 0 12 c
  | 26 => iA Θ 0 6 c
  | 27 => iA Θ 0 4 c
  | 28 => .inr (0, [.ref (Θ.2.2.1 29), .ref (Θ.2.2.1 30), .ref (Θ.2.2.1 31), vi (c 3), vi (c 4), vi (c 5), vi (c 6), vi (c 7), vi (c 8), vi (c 9), vi (c 10)])
  | 29 => iA Θ 0 12 c
  | 30 => iA Θ 0 6 c
  | 31 => iA Θ 0 4 c
  | 32 => .inr (2, [.ref (Θ.2.2.1 33), .ref (Θ.2.2.1 34), .ref (Θ.2.2.1 35), .ref (Θ.2.2.1 36)])
  | 33 => iA Θ 0 600 c
  | 34 => iA Θ 0 600 c
  | 35 => iA Θ 0 600 c
  | 36 => iA Θ 0 600 c
  | 37 => .inr (9, [.ref (Θ.2.2.1 38), vi (c 1)])
  | 38 => iA Θ 0 300 c
  | 39 => .inr (5, [.ref (Θ.2.2.1 40), vi (c 1), vi (c 2), vi (c 3), vi (c 4), vi (c 5), vi (c 6), vi (c 7), vi (c 8), vi (c 9)])
  | 40 => iA Θ 0 32 c
  | 41 => .inr (6, [.ref (Θ.2.2.1 42), .ref (Θ.2.2.1 43), vi (c 2), vi (c 3), vi (c 4)])
  | 42 => iA Θ 0 48 c
  | 43 => iA Θ 0 481 c
  | 44 => .inr (8, [.ref (Θ.2.2.1 45), vi (c 1)])
  | 45 => iA Θ 0 64 c
  | 46 => iA Θ 0 7 c
  | 47 => .inr (7, [.ref (Θ.2.2.1 48), .ref (Θ.2.2.1 49), .ref (Θ.2.2.1 50), .ref (Θ.2.2.1 51), vi (c 4)])
  | 48 => iA Θ 0 300 c
  | 49 => iA Θ 0 32 c
  | 50 => iA Θ 0 2 c
  | 51 => iA Θ 0 2 c
  | 52 => .inr (7, [.ref (Θ.2.2.1 53), .ref (Θ.2.2.1 54), .ref (Θ.2.2.1 55), .ref (Θ.2.2.1 56), vi (c 4)])
  | 53 => iA Θ 0 300 c
  | 54 => iA Θ 0 32 c
  | 55 => iA Θ 0 2 c
  | _ => iA Θ 0 2 c
theorem eX_0 (Θ : Th) (c : Nat → Int) : eX Θ 0 c = .inr (11, [.ref (Θ.2.2.1 1), .ref (Θ.2.2.1 8), .ref (Θ.2.2.1 17), .ref (Θ.2.2.1 20), .ref (Θ.2.2.1 24), .ref (Θ.2.2.1 28), .ref (Θ.2.2.1 32), .ref (Θ.2.2.1 37), .ref (Θ.2.2.1 39), .ref (Θ.2.2.1 41), .ref (Θ.2.2.1 44), .ref (Θ.2.2.1 46), .ref (Θ.2.2.1 (c 12).toNat), .ref (Θ.2.2.1 (c 13).toNat), vi (c 14), vi (c 15), vi (c 16), vi (c 17)]) := rfl
theorem eX_1 (Θ : Th) (c : Nat → Int) : eX Θ 1 c = .inr (3, [.ref (Θ.2.2.1 2), .ref (Θ.2.2.1 3), .ref (Θ.2.2.1 4), .ref (Θ.2.2.1 5), .ref (Θ.2.2.1 6), .ref (Θ.2.2.1 7), vi (c 6), vi (c 7), vi (c 8), vi (c 9)]) := rfl
theorem eX_2 (Θ : Th) (c : Nat → Int) : eX Θ 2 c = iA Θ 0 190 c := rfl
theorem eX_3 (Θ : Th) (c : Nat → Int) : eX Θ 3 c = iA Θ 0 190 c := rfl
theorem eX_4 (Θ : Th) (c : Nat → Int) : eX Θ 4 c = iA Θ 0 81 c := rfl
theorem eX_5 (Θ : Th) (c : Nat → Int) : eX Θ 5 c = iA Θ 0 81 c := rfl
theorem eX_6 (Θ : Th) (c : Nat → Int) : eX Θ 6 c = iA Θ 0 81 c := rfl
theorem eX_7 (Θ : Th) (c : Nat → Int) : eX Θ 7 c = iA Θ 0 81 c := rfl
theorem eX_8 (Θ : Th) (c : Nat → Int) : eX Θ 8 c = .inr (1, [.ref (Θ.2.2.1 9), .ref (Θ.2.2.1 10), .ref (Θ.2.2.1 11), .ref (Θ.2.2.1 12), .ref (Θ.2.2.1 13), .ref (Θ.2.2.1 14), .ref (Θ.2.2.1 15), .ref (Θ.2.2.1 16), vi (c 8), vi (c 9), vi (c 10)]) := rfl
theorem eX_9 (Θ : Th) (c : Nat → Int) : eX Θ 9 c = iA Θ 0 12 c := rfl
theorem eX_10 (Θ : Th) (c : Nat → Int) : eX Θ 10 c = iA Θ 0 12 c := rfl
theorem eX_11 (Θ : Th) (c : Nat → Int) : eX Θ 11 c = iA Θ 0 12 c := rfl
theorem eX_12 (Θ : Th) (c : Nat → Int) : eX Θ 12 c = iA Θ 0 12 c := rfl
theorem eX_13 (Θ : Th) (c : Nat → Int) : eX Θ 13 c = iA Θ 0 4 c := rfl
theorem eX_14 (Θ : Th) (c : Nat → Int) : eX Θ 14 c = iA Θ 0 4 c := rfl
theorem eX_15 (Θ : Th) (c : Nat → Int) : eX Θ 15 c = iA Θ 0 4 c := rfl
theorem eX_16 (Θ : Th) (c : Nat → Int) : eX Θ 16 c = iA Θ 0 4 c := rfl
theorem eX_17 (Θ : Th) (c : Nat → Int) : eX Θ 17 c = .inr (4, [.ref (Θ.2.2.1 18), .ref (Θ.2.2.1 19), vi (c 2)]) := rfl
theorem eX_18 (Θ : Th) (c : Nat → Int) : eX Θ 18 c = iA Θ 0 6 c := rfl
theorem eX_19 (Θ : Th) (c : Nat → Int) : eX Θ 19 c = iA Θ 0 6 c := rfl
theorem eX_20 (Θ : Th) (c : Nat → Int) : eX Θ 20 c = .inr (10, [.ref (Θ.2.2.1 21), .ref (Θ.2.2.1 22), .ref (Θ.2.2.1 23), vi (c 3)]) := rfl
theorem eX_21 (Θ : Th) (c : Nat → Int) : eX Θ 21 c = iA Θ 0 8 c := rfl
theorem eX_22 (Θ : Th) (c : Nat → Int) : eX Θ 22 c = iA Θ 0 8 c := rfl
theorem eX_23 (Θ : Th) (c : Nat → Int) : eX Θ 23 c = iA Θ 0 600 c := rfl
theorem eX_24 (Θ : Th) (c : Nat → Int) : eX Θ 24 c = .inr (0, [.ref (Θ.2.2.1 25), .ref (Θ.2.2.1 26), .ref (Θ.2.2.1 27), vi (c 3), vi (c 4), vi (c 5), vi (c 6), vi (c 7), vi (c 8), vi (c 9), vi (c 10)]) := rfl
theorem eX_25 (Θ : Th) (c : Nat → Int) : eX Θ 25 c = iA Θ 0 12 c := rfl
theorem eX_26 (Θ : Th) (c : Nat → Int) : eX Θ 26 c = iA Θ 0 6 c := rfl
theorem eX_27 (Θ : Th) (c : Nat → Int) : eX Θ 27 c = iA Θ 0 4 c := rfl
theorem eX_28 (Θ : Th) (c : Nat → Int) : eX Θ 28 c = .inr (0, [.ref (Θ.2.2.1 29), .ref (Θ.2.2.1 30), .ref (Θ.2.2.1 31), vi (c 3), vi (c 4), vi (c 5), vi (c 6), vi (c 7), vi (c 8), vi (c 9), vi (c 10)]) := rfl
theorem eX_29 (Θ : Th) (c : Nat → Int) : eX Θ 29 c = iA Θ 0 12 c := rfl
theorem eX_30 (Θ : Th) (c : Nat → Int) : eX Θ 30 c = iA Θ 0 6 c := rfl
theorem eX_31 (Θ : Th) (c : Nat → Int) : eX Θ 31 c = iA Θ 0 4 c := rfl
theorem eX_32 (Θ : Th) (c : Nat → Int) : eX Θ 32 c = .inr (2, [.ref (Θ.2.2.1 33), .ref (Θ.2.2.1 34), .ref (Θ.2.2.1 35), .ref (Θ.2.2.1 36)]) := rfl
theorem eX_33 (Θ : Th) (c : Nat → Int) : eX Θ 33 c = iA Θ 0 600 c := rfl
theorem eX_34 (Θ : Th) (c : Nat → Int) : eX Θ 34 c = iA Θ 0 600 c := rfl
theorem eX_35 (Θ : Th) (c : Nat → Int) : eX Θ 35 c = iA Θ 0 600 c := rfl
theorem eX_36 (Θ : Th) (c : Nat → Int) : eX Θ 36 c = iA Θ 0 600 c := rfl
theorem eX_37 (Θ : Th) (c : Nat → Int) : eX Θ 37 c = .inr (9, [.ref (Θ.2.2.1 38), vi (c 1)]) := rfl
theorem eX_38 (Θ : Th) (c : Nat → Int) : eX Θ 38 c = iA Θ 0 300 c := rfl
theorem eX_39 (Θ : Th) (c : Nat → Int) : eX Θ 39 c = .inr (5, [.ref (Θ.2.2.1 40), vi (c 1), vi (c 2), vi (c 3), vi (c 4), vi (c 5), vi (c 6), vi (c 7), vi (c 8), vi (c 9)]) := rfl
theorem eX_40 (Θ : Th) (c : Nat → Int) : eX Θ 40 c = iA Θ 0 32 c := rfl
theorem eX_41 (Θ : Th) (c : Nat → Int) : eX Θ 41 c = .inr (6, [.ref (Θ.2.2.1 42), .ref (Θ.2.2.1 43), vi (c 2), vi (c 3), vi (c 4)]) := rfl
theorem eX_42 (Θ : Th) (c : Nat → Int) : eX Θ 42 c = iA Θ 0 48 c := rfl
theorem eX_43 (Θ : Th) (c : Nat → Int) : eX Θ 43 c = iA Θ 0 481 c := rfl
theorem eX_44 (Θ : Th) (c : Nat → Int) : eX Θ 44 c = .inr (8, [.ref (Θ.2.2.1 45), vi (c 1)]) := rfl
theorem eX_45 (Θ : Th) (c : Nat → Int) : eX Θ 45 c = iA Θ 0 64 c := rfl
theorem eX_46 (Θ : Th) (c : Nat → Int) : eX Θ 46 c = iA Θ 0 7 c := rfl
theorem eX_47 (Θ : Th) (c : Nat → Int) : eX Θ 47 c = .inr (7, [.ref (Θ.2.2.1 48), .ref (Θ.2.2.1 49), .ref (Θ.2.2.1 50), .ref (Θ.2.2.1 51), vi (c 4)]) := rfl
theorem eX_48 (Θ : Th) (c : Nat → Int) : eX Θ 48 c = iA Θ 0 300 c := rfl
theorem eX_49 (Θ : Th) (c : Nat → Int) : eX Θ 49 c = iA Θ 0 32 c := rfl
theorem eX_50 (Θ : Th) (c : Nat → Int) : eX Θ 50 c = iA Θ 0 2 c := rfl
theorem eX_51 (Θ : Th) (c : Nat → Int) : eX Θ 51 c = iA Θ 0 2 c := rfl
theorem eX_52 (Θ : Th) (c : Nat → Int) : eX Θ 52 c = .inr (7, [.ref (Θ.2.2.1 53), .ref (Θ.2.2.1 54), .ref (Θ.2.2.1 55), .ref (Θ.2.2.1 56), vi (c 4)]) := rfl
theorem eX_53 (Θ : Th) (c : Nat → Int) : eX Θ 53 c = iA Θ 0 300 c := rfl
theorem eX_54 (Θ : Th) (c : Nat → Int) : eX Θ 54 c = iA Θ 0 32 c := rfl
theorem eX_55 (Θ : Th) (c : Nat → Int) : eX Θ 55 c = iA Θ 0 2 c := rfl
theorem eX_56 (Θ : Th) (c : Nat → Int) : eX Θ 56 c = iA Θ 0 2 c := rfl
def eM (Θ : Th) (k : Nat) (c : Nat → Int) : va_E := match k with
  | 0 => .inr (12, [.ref (Θ.2.2.2 1), vi (c 1), .ref (Θ.2.2.2 2), .ref (Θ.2.2.2 3), vi (c 4), .ref (Θ.2.2.2 4), .ref (Θ.2.2.2 5), .ref (Θ.2.2.2 6), .ref (Θ.2.2.2 7), .ref (Θ.2.2.2 8), vi (c 10), .ref (Θ.2.2.2 9), .ref (Θ.2.2.2 10), .ref (Θ.2.2.2 11), .ref (Θ.2.2.2 12), vi (c 15), .ref (Θ.2.2.2 13), .ref (Θ.2.2.2 14), vi (c 18), .ref (Θ.2.2.2 15), .ref (Θ.2.2.2 16), .ref (Θ.2.2.2 17), vi (c 22), vi (c 23), vi (c 24), vi (c 25), vi (c 26), .ref (Θ.2.2.2 18), .ref (Θ.2.2.2 19), .ref (Θ.2.2.2 20), .ref (Θ.2.2.2 21), .ref (Θ.2.2.2 22), .ref (Θ.2.2.2 23), .ref (Θ.2.2.2 24), .ref (Θ.2.2.2 25), .ref (Θ.2.2.2 26), .ref (Θ.2.2.2 27), .ref (Θ.2.2.2 28), .ref (Θ.2.2.2 29), .ref (Θ.2.2.2 30), .ref (Θ.2.2.2 31), vi (c 41), .ref (Θ.2.2.2 32), .ref (Θ.2.2.2 33), vi (c 44), vi (c 45), .ref (Θ.2.2.2 34), .ref (Θ.2.2.2 35), vi (c 48), vi (c 49), vi (c 50), vi (c 51), vi (c 52), .ref (Θ.2.2.2 36), vi (c 54), vi (c 55), vi (c 56), .ref (Θ.2.2.2 37), .ref (Θ.2.2.2 38), vi (c 59), .ref (Θ.2.2.2 39), .ref (Θ.2.2.2 40), .ref (Θ.2.2.2 41), .ref (Θ.2.2.2 42), .ref (Θ.2.2.2 43), .ref (Θ.2.2.2 44), vi (c 66), vl (c 67), .ref (Θ.2.2.2 45), .ref (Θ.2.2.2 46), vi (c 70), .ref (Θ.2.2.2 47), .ref (Θ.2.2.2 48), vi (c 73), .ref (Θ.2.2.2 49)])
  | 1 => iA Θ 0 16 c
  | 2 => iA Θ 0 6 c
  | 3 => iA Θ 0 60 c
  | 4 => iA Θ 0 12 c
  | 5 => iA Θ 0 12 c
  | 6 => iA Θ 0 12 c
  | 7 => iA Θ 0 12 c
  | 8 => iA Θ 3 12 c
  | 9 => iA Θ 0 4 c
  | 10 => iA Θ 0 4 c
  | 11 => iA Θ 0 4 c
  | 12 => iA Θ 0 4 c
  | 13 => iA Θ 0 6 c
  | 14 => iA Θ 0 6 c
  | 15 => iA Θ 0 8 c
  | 16 => iA Θ 0 8 c
  | 17 => iA Θ 0 8 c
  | 18 => iA Θ 0 24 c
  | 19 => iA Θ 0 2 c
  | 20 => iA Θ 0 2 c
  | 21 => iA Θ 0 2 c
  | 22 => iA Θ 0 2 c
  | 23 => iA Θ 3 2 c
  | 24 => iA Θ 3 12 c
  | 25 => iA Θ 0 12 c
  | 26 => iA Θ 0 8 c
  | 27 => iA Θ 0 600 c
  | 28 => iA Θ 0 600 c
  | 29 => iA Θ 0 600 c
  | 30 => iA Θ 0 600 c
  | 31 => iA Θ 3 600 c
  | 32 => iA Θ 0 12 c
  | 33 => iA Θ 0 12 c
  | 34 => iA Θ 0 64 c
  | 35 => iA Θ 2 300 c
  | 36 => iA Θ 0 600 c
  | 37 => iA Θ 0 300 c
  | 38 => iA Θ 0 300 c
  | 39 => iA Θ 0 2 c
  | 40 => iA Θ 0 2 c
  | 41 => iA Θ 0 300 c
  | 42 => iA Θ 0 300 c
  | 43 => iA Θ 0 2 c
  | 44 => iA Θ 0 2 c
  | 45 => lA Θ 161 c
  | 46 => iA Θ 3 161 c
  | 47 => iA Θ 0 7 c
  | 48 => iA Θ 0 300 c
  | _ => iA Θ 0 481 c
theorem eM_0 (Θ : Th) (c : Nat → Int) : eM Θ 0 c = .inr (12, [.ref (Θ.2.2.2 1), vi (c 1), .ref (Θ.2.2.2 2), .ref (Θ.2.2.2 3), vi (c 4), .ref (Θ.2.2.2 4), .ref (Θ.2.2.2 5), .ref (Θ.2.2.2 6), .ref (Θ.2.2.2 7), .ref (Θ.2.2.2 8), vi (c 10), .ref (Θ.2.2.2 9), .ref (Θ.2.2.2 10), .ref (Θ.2.2.2 11), .ref (Θ.2.2.2 12), vi (c 15), .ref (Θ.2.2.2 13), .ref (Θ.2.2.2 14), vi (c 18), .ref (Θ.2.2.2 15), .ref (Θ.2.2.2 16), .ref (Θ.2.2.2 17), vi (c 22), vi (c 23), vi (c 24), vi (c 25), vi (c 26), .ref (Θ.2.2.2 18), .ref (Θ.2.2.2 19), .ref (Θ.2.2.2 20), .ref (Θ.2.2.2 21), .ref (Θ.2.2.2 22), .ref (Θ.2.2.2 23), .ref (Θ.2.2.2 24), .ref (Θ.2.2.2 25), .ref (Θ.2.2.2 26), .ref (Θ.2.2.2 27), .ref (Θ.2.2.2 28), .ref (Θ.2.2.2 29), .ref (Θ.2.2.2 30), .ref (Θ.2.2.2 31), vi (c 41), .ref (Θ.2.2.2 32), .ref (Θ.2.2.2 33), vi (c 44), vi (c 45), .ref (Θ.2.2.2 34), .ref (Θ.2.2.2 35), vi (c 48), vi (c 49), vi (c 50), vi (c 51), vi (c 52), .ref (Θ.2.2.2 36), vi (c 54), vi (c 55), vi (c 56), .ref (Θ.2.2.2 37), .ref (Θ.2.2.2 38), vi (c 59), .ref (Θ.2.2.2 39), .ref (Θ.2.2.2 40), .ref (Θ.2.2.2 41), .ref (Θ.2.2.2 42), .ref (Θ.2.2.2 43), .ref (Θ.2.2.2 44), vi (c 66), vl (c 67), .ref (Θ.2.2.2 45), .ref (Θ.2.2.2 46), vi (c 70), .ref (Θ.2.2.2 47), .ref (Θ.2.2.2 48), vi (c 73), .ref (Θ.2.2.2 49)]) := rfl
theorem eM_1 (Θ : Th) (c : Nat → Int) : eM Θ 1 c = iA Θ 0 16 c := rfl
theorem eM_2 (Θ : Th) (c : Nat → Int) : eM Θ 2 c = iA Θ 0 6 c := rfl
theorem eM_3 (Θ : Th) (c : Nat → Int) : eM Θ 3 c = iA Θ 0 60 c := rfl
theorem eM_4 (Θ : Th) (c : Nat → Int) : eM Θ 4 c = iA Θ 0 12 c := rfl
theorem eM_5 (Θ : Th) (c : Nat → Int) : eM Θ 5 c = iA Θ 0 12 c := rfl
theorem eM_6 (Θ : Th) (c : Nat → Int) : eM Θ 6 c = iA Θ 0 12 c := rfl
theorem eM_7 (Θ : Th) (c : Nat → Int) : eM Θ 7 c = iA Θ 0 12 c := rfl
theorem eM_8 (Θ : Th) (c : Nat → Int) : eM Θ 8 c = iA Θ 3 12 c := rfl
theorem eM_9 (Θ : Th) (c : Nat → Int) : eM Θ 9 c = iA Θ 0 4 c := rfl
theorem eM_10 (Θ : Th) (c : Nat → Int) : eM Θ 10 c = iA Θ 0 4 c := rfl
theorem eM_11 (Θ : Th) (c : Nat → Int) : eM Θ 11 c = iA Θ 0 4 c := rfl
theorem eM_12 (Θ : Th) (c : Nat → Int) : eM Θ 12 c = iA Θ 0 4 c := rfl
theorem eM_13 (Θ : Th) (c : Nat → Int) : eM Θ 13 c = iA Θ 0 6 c := rfl
theorem eM_14 (Θ : Th) (c : Nat → Int) : eM Θ 14 c = iA Θ 0 6 c := rfl
theorem eM_15 (Θ : Th) (c : Nat → Int) : eM Θ 15 c = iA Θ 0 8 c := rfl
theorem eM_16 (Θ : Th) (c : Nat → Int) : eM Θ 16 c = iA Θ 0 8 c := rfl
theorem eM_17 (Θ : Th) (c : Nat → Int) : eM Θ 17 c = iA Θ 0 8 c := rfl
theorem eM_18 (Θ : Th) (c : Nat → Int) : eM Θ 18 c = iA Θ 0 24 c := rfl
theorem eM_19 (Θ : Th) (c : Nat → Int) : eM Θ 19 c = iA Θ 0 2 c := rfl
theorem eM_20 (Θ : Th) (c : Nat → Int) : eM Θ 20 c = iA Θ 0 2 c := rfl
theorem eM_21 (Θ : Th) (c : Nat → Int) : eM Θ 21 c = iA Θ 0 2 c := rfl
theorem eM_22 (Θ : Th) (c : Nat → Int) : eM Θ 22 c = iA Θ 0 2 c := rfl
theorem eM_23 (Θ : Th) (c : Nat → Int) : eM Θ 23 c = iA Θ 3 2 c := rfl
theorem eM_24 (Θ : Th) (c : Nat → Int) : eM Θ 24 c = iA Θ 3 12 c := rfl
theorem eM_25 (Θ : Th) (c : Nat → Int) : eM Θ 25 c = iA Θ 0 12 c := rfl
theorem eM_26 (Θ : Th) (c : Nat → Int) : eM Θ 26 c = iA Θ 0 8 c := rfl
theorem eM_27 (Θ : Th) (c : Nat → Int) : eM Θ 27 c = iA Θ 0 600 c := rfl
theorem eM_28 (Θ : Th) (c : Nat → Int) : eM Θ 28 c = iA Θ 0 600 c := rfl
theorem eM_29 (Θ : Th) (c : Nat → Int) : eM Θ 29 c = iA Θ 0 600 c := rfl
theorem eM_30 (Θ : Th) (c : Nat → Int) : eM Θ 30 c = iA Θ 0 600 c := rfl
theorem eM_31 (Θ : Th) (c : Nat → Int) : eM Θ 31 c = iA Θ 3 600 c := rfl
theorem eM_32 (Θ : Th) (c : Nat → Int) : eM Θ 32 c = iA Θ 0 12 c := rfl
theorem eM_33 (Θ : Th) (c : Nat → Int) : eM Θ 33 c = iA Θ 0 12 c := rfl
theorem eM_34 (Θ : Th) (c : Nat → Int) : eM Θ 34 c = iA Θ 0 64 c := rfl
theorem eM_35 (Θ : Th) (c : Nat → Int) : eM Θ 35 c = iA Θ 2 300 c := rfl
theorem eM_36 (Θ : Th) (c : Nat → Int) : eM Θ 36 c = iA Θ 0 600 c := rfl
theorem eM_37 (Θ : Th) (c : Nat → Int) : eM Θ 37 c = iA Θ 0 300 c := rfl
theorem eM_38 (Θ : Th) (c : Nat → Int) : eM Θ 38 c = iA Θ 0 300 c := rfl
theorem eM_39 (Θ : Th) (c : Nat → Int) : eM Θ 39 c = iA Θ 0 2 c := rfl
theorem eM_40 (Θ : Th) (c : Nat → Int) : eM Θ 40 c = iA Θ 0 2 c := rfl
theorem eM_41 (Θ : Th) (c : Nat → Int) : eM Θ 41 c = iA Θ 0 300 c := rfl
theorem eM_42 (Θ : Th) (c : Nat → Int) : eM Θ 42 c = iA Θ 0 300 c := rfl
theorem eM_43 (Θ : Th) (c : Nat → Int) : eM Θ 43 c = iA Θ 0 2 c := rfl
theorem eM_44 (Θ : Th) (c : Nat → Int) : eM Θ 44 c = iA Θ 0 2 c := rfl
theorem eM_45 (Θ : Th) (c : Nat → Int) : eM Θ 45 c = lA Θ 161 c := rfl
theorem eM_46 (Θ : Th) (c : Nat → Int) : eM Θ 46 c = iA Θ 3 161 c := rfl
theorem eM_47 (Θ : Th) (c : Nat → Int) : eM Θ 47 c = iA Θ 0 7 c := rfl
theorem eM_48 (Θ : Th) (c : Nat → Int) : eM Θ 48 c = iA Θ 0 300 c := rfl
theorem eM_49 (Θ : Th) (c : Nat → Int) : eM Θ 49 c = iA Θ 0 481 c := rfl
def wX (Θ : Th) (g : Mem) : va_W := (List.range 57).map (fun k => (Θ.2.2.1 k, eX Θ k (g k)))
def wM (Θ : Th) (h : Mem) : va_W := (List.range 50).map (fun k => (Θ.2.2.2 k, eM Θ k (h k)))
def wld (Θ : Th) (g h : Mem) : va_W := wX Θ g ++ wM Θ h
theorem wX_len {Θ : Th} {g : Mem} : (wX Θ g).length = 57 := by simp [wX]
theorem wM_len {Θ : Th} {h : Mem} : (wM Θ h).length = 50 := by simp [wM]
theorem wld_X {Θ : Th} {g h : Mem} {k : Nat} (hk : k < 57) : (wld Θ g h)[k]? = some (Θ.2.2.1 k, eX Θ k (g k)) := by
  unfold wld
  rw [List.getElem?_append_left (by rw [wX_len]; exact hk)]
  simp [wX, hk]
theorem wld_M {Θ : Th} {g h : Mem} {k : Nat} (hk : k < 50) : (wld Θ g h)[57 + k]? = some (Θ.2.2.2 k, eM Θ k (h k)) := by
  unfold wld
  rw [List.getElem?_append_right (by rw [wX_len]; omega), wX_len, Nat.add_sub_cancel_left]
  simp [wM, hk]
theorem wld_len {Θ : Th} {g h : Mem} : (wld Θ g h).length = 107 := by unfold wld; rw [List.length_append, wX_len, wM_len]
theorem wld_setX {Θ : Th} {g g' h : Mem} {k : Nat} {e : va_E} (hk : k < 57) (he : eX Θ k (g' k) = e) (hg : ∀ a, a ≠ k → g' a = g a) : (wld Θ g h).set k (Θ.2.2.1 k, e) = wld Θ g' h := by
  subst he
  apply List.ext_getElem?
  intro i
  by_cases hi : i = k
  · subst hi
    rw [List.getElem?_set_self (by rw [wld_len]; omega), wld_X hk]
  · rw [List.getElem?_set_ne (Ne.symm hi)]
    by_cases h1 : i < 57
    · rw [wld_X h1, wld_X h1, hg i hi]
    · by_cases h2 : i < 107
      · obtain ⟨j, rfl⟩ : ∃ j, i = 57 + j := ⟨i - 57, by omega⟩
        rw [wld_M (by omega), wld_M (by omega)]
      · rw [List.getElem?_eq_none (by rw [wld_len]; omega), List.getElem?_eq_none (by rw [wld_len]; omega)]
theorem wld_setM {Θ : Th} {g h h' : Mem} {k : Nat} {e : va_E} (hk : k < 50) (he : eM Θ k (h' k) = e) (hg : ∀ a, a ≠ k → h' a = h a) : (wld Θ g h).set (57 + k) (Θ.2.2.2 k, e) = wld Θ g h' := by
  subst he
  apply List.ext_getElem?
  intro i
  by_cases hi : i = 57 + k
  · subst hi
    rw [List.getElem?_set_self (by rw [wld_len]; omega), wld_M hk]
  · rw [List.getElem?_set_ne (Ne.symm hi)]
    by_cases h1 : i < 57
    · rw [wld_X h1, wld_X h1]
    · by_cases h2 : i < 107
      · obtain ⟨j, rfl⟩ : ∃ j, i = 57 + j := ⟨i - 57, by omega⟩
        rw [wld_M (by omega), wld_M (by omega), hg j (by omega)]
      · rw [List.getElem?_eq_none (by rw [wld_len]; omega), List.getElem?_eq_none (by rw [wld_len]; omega)]
def adr (Θ : Th) (i : Nat) : Nat := if i < 57 then Θ.2.2.1 i else Θ.2.2.2 (i - 57)
def AD (Θ : Th) : Prop := ∀ i j, i < 107 → j < 107 → adr Θ i = adr Θ j → i = j
def AA (Θ : Th) (sz : Nat) : Nat → Prop := fun q => (∃ k, k < 107 ∧ q = adr Θ k) ∨ sz ≤ q
theorem AA_le {Θ : Th} {a b : Nat} (h : a ≤ b) : ∀ q, AA Θ b q → AA Θ a q := fun q hq => hq.imp id (fun z => Nat.le_trans h z)
theorem wld_at {Θ : Th} {g h : Mem} {i : Nat} {q : Nat × va_E} (hq : (wld Θ g h)[i]? = some q) : i < 107 ∧ q.1 = adr Θ i := by
  have hi : i < 107 := by have := (List.getElem?_eq_some_iff.mp hq).1; rw [wld_len] at this; exact this
  refine ⟨hi, ?_⟩
  unfold adr
  by_cases h1 : i < 57
  · rw [if_pos h1]
    rw [wld_X h1] at hq
    rw [← Option.some.inj hq]
  · rw [if_neg h1]
    obtain ⟨j, rfl⟩ : ∃ j, i = 57 + j := ⟨i - 57, by omega⟩
    rw [wld_M (by omega)] at hq
    rw [← Option.some.inj hq, Nat.add_sub_cancel_left]
theorem wld_D {Θ : Th} {g h : Mem} {sz : Nat} (hA : AD Θ) : va_D (AA Θ sz) (wld Θ g h) := by
  refine ⟨fun i j p q hp hq e => ?_, fun k q hq => ?_⟩
  · obtain ⟨h1, h2⟩ := wld_at hp
    obtain ⟨h3, h4⟩ := wld_at hq
    exact hA i j h1 h3 (by rw [← h2, ← h4, e])
  · obtain ⟨h1, h2⟩ := wld_at hq
    exact Or.inl ⟨k, h1, h2⟩
def strs : List (String × Nat × String) := [("ShipSways$Parser", 82, "work"), ("ShipSways$Parser", 88, "fin"), ("ShipSways$Parser", 90, "or"), ("ShipSways$Parser", 92, "and"), ("ShipSways$Parser", 94, "not"), ("ShipSways$Parser", 99, "slope"), ("ShipSways$Parser", 101, "speed"), ("ShipSways$Parser", 103, "tick"), ("ShipSways$Parser", 105, "sick"), ("ShipSways$Parser", 107, "sea"), ("ShipSways$Parser", 109, "wet"), ("ShipSways$Parser", 111, "moved"), ("ShipSwaysModel", 263, " work fin slope speed tick sick sea wet moved or and not ")]
def lenJS : List Nat := [4, 3, 2, 3, 3, 5, 5, 4, 4, 3, 3, 5, 57]
def bytJS : List (List Int32) := [[119, 111, 114, 107], [102, 105, 110], [111, 114], [97, 110, 100], [110, 111, 116], [115, 108, 111, 112, 101], [115, 112, 101, 101, 100], [116, 105, 99, 107], [115, 105, 99, 107], [115, 101, 97], [119, 101, 116], [109, 111, 118, 101, 100], [32, 119, 111, 114, 107, 32, 102, 105, 110, 32, 115, 108, 111, 112, 101, 32, 115, 112, 101, 101, 100, 32, 116, 105, 99, 107, 32, 115, 105, 99, 107, 32, 115, 101, 97, 32, 119, 101, 116, 32, 109, 111, 118, 101, 100, 32, 111, 114, 32, 97, 110, 100, 32, 110, 111, 116, 32]]
def nests : List (String × Nat × MethodName × String) := [(RX11, 9, yX3_init, RX11), (RX11, 18, yX1_init, RX11), (RX11, 25, yX4_init, RX11), (RX11, 32, yX10_init, RX11), (RX11, 39, yX0_init, RX11), (RX11, 49, yX2_init, RX11), (RX11, 56, yX9_init, RX11), (RX11, 63, yX5_init, RX11), (RX11, 70, yX6_init, RX11), (RX11, 77, yX8_init, RX11), (RX11, 88, yX7_init, RX11), (RX7, 37, yX11_bring, RX11), (RX0, 61, yX11_bring, RX11), (RX6, 29, yX11_cut, RX11), (RX2, 41, yX11_bring, RX11)]
def sines : List Int := [0, 383, 707, 924, 1000, 924, 707, 383, 0, -383, -707, -924, -1000, -924, -707, -383]
def sineF (j : Nat) : Int := sines.getD j 0
/-- what stays as it is while the law runs, as a state has it: classes, addresses, links among nest mates, statics, texts -/
def Sx (Θ : Th) (sz : Nat) (U : State) : Prop :=
  va_K Θ.1 vwCl (tT Θ) U ∧ AD Θ ∧ (∀ q ∈ nests, va_Nw (.methodLinkNest q.1 q.2.1 q.2.2.1 q.2.2.2) U) ∧
  (va_Z "ShipSways$Waves" "SINES" "[I" (.ref (Θ.2.2.1 57)) (AA Θ sz) U U.heap ∧ va_T .int (Θ.2.2.1 57) 16 (fun j => vi (sineF j)) (AA Θ sz) U U.heap) ∧
  (va_Z "java/lang/String" "COMPACT_STRINGS" "Z" (.int 1) (AA Θ sz) U U.heap ∧ vk_S 13 lenJS bytJS (fun i => Θ.2.2.1 (100 + i)) (fun i => Θ.2.2.1 (200 + i)) (AA Θ sz) U U.heap ∧ ∀ (i : Nat) (q : String × Nat × String), strs[i]? = some q → vk_R q.1 q.2.1 q.2.2 (Θ.2.2.1 (100 + i)) U) ∧
  ∃ v : Value, (v = .null ∨ ∃ a, v = .ref a) ∧ va_Z "jdk/internal/util/Preconditions" "SIOOBE_FORMATTER" "Ljava/util/function/BiFunction;" v (AA Θ sz) U U.heap
def Wd (Θ : Th) (sz : Nat) (g h : Mem) (U : State) : Prop := U.heap.size = sz ∧ va_P Θ.1 vwCl (wld Θ g h) U.heap ∧ Sx Θ sz U
def Hd (Θ : Th) (s : State) (g h : Mem) (H : Heap) (locs : List Loc) : Prop := va_P Θ.1 vwCl (wld Θ g h) H ∧ va_S (AA Θ s.heap.size) s.heap H locs
def Qx (Θ : Th) (sz : Nat) (g h : Mem) (res : Option Value) : Array Value → State → Outcome → State → Prop := fun _ st oc t => oc = .returned res ∧ va_P Θ.1 vwCl (wld Θ g h) t.heap ∧ va_F (AA Θ sz) st t
/-- a method's contract: at the world (g, h), with these arguments, it returns res at the world (g', h') -/
def Ct (l : Launch) (y : MethodName) (cc : ByteArray) (maxL : Nat) (ret : Option FieldType) (fr lo : Nat) (Θ : Th) (av : List Value) (g h g' h' : Mem) (res : Option Value) : Prop :=
  ∀ sz, Met l y (Cond.code y cc maxL ret :: lw_g) { frames := fr, cells := 0, slots := 0, locals := lo } (va_Pc av (Wd Θ sz g h)) (Qx Θ sz g' h' res) 0 0 (AA Θ sz)
theorem Sx_go {Θ : Th} {s U : State} {H : Heap} {locs : List Loc} (h : Sx Θ s.heap.size s) (hS : va_S (AA Θ s.heap.size) s.heap H locs) (hU : U.heap = H) (hW : s.WarmedH U.vm) : Sx Θ H.size U := by
  obtain ⟨h1, h2, h3, ⟨h4, h5⟩, ⟨h6, h7, h8⟩, v, hv, h9⟩ := h
  have hn := AA_le (Θ := Θ) hS.1
  refine ⟨va_K.moved hW.alike h1, h2, fun q hq => va_Nw.warmM hW (h3 q hq), ⟨?_, ?_⟩, ⟨?_, ?_, fun i q hq => vk_R.warm hW (h8 i q hq)⟩, v, hv, ?_⟩
  · rw [hU]; exact ((h4.kept hS.2.1).narrow hn).moved hW.alike
  · rw [hU]; exact ((h5.kept hS.2.1).narrow hn).moved hW.alike
  · rw [hU]; exact ((h6.kept hS.2.1).narrow hn).moved hW.alike
  · rw [hU]; exact ((h7.kept hS.2.1).narrow hn).moved hW.alike
  · rw [hU]; exact ((h9.kept hS.2.1).narrow hn).moved hW.alike
theorem Wd_blind {Θ : Th} {av : List Value} {sz : Nat} {g h : Mem} : FrameBlind (va_Pc av (Wd Θ sz g h)) := by
  intro a U f mk ⟨ha, hz, hP, h1, h2, h3, ⟨h4, h5⟩, ⟨h6, h7, h8⟩, v, hv, h9⟩
  exact ⟨ha, hz, hP, va_K.moved (u := U) (U := U.calling f mk a) (Vm.Alike.refl U.vm) h1, h2, fun q hq => va_Nw.same rfl (u := U) (U := U.calling f mk a) rfl (h3 q hq), ⟨va_Z.moved (u := U) (U := U.calling f mk a) (Vm.Alike.refl U.vm) h4, va_T.moved (u := U) (U := U.calling f mk a) (Vm.Alike.refl U.vm) h5⟩, ⟨va_Z.moved (u := U) (U := U.calling f mk a) (Vm.Alike.refl U.vm) h6, vk_S.moved (u := U) (U := U.calling f mk a) (Vm.Alike.refl U.vm) h7, fun i q hq => vk_R.same (u := U) (U := U.calling f mk a) rfl (h8 i q hq)⟩, v, hv, va_Z.moved (u := U) (U := U.calling f mk a) (Vm.Alike.refl U.vm) h9⟩
/-- what a method's body knows all the way -/
def Cx (p : Program) (s : State) (m : MethodId) (args : Array Value) (meth : Method) (c : Code) (cc : ByteArray) (nL : Nat) (own : String) (ret : Option FieldType) (Θ : Th) : Prop :=
  p.tables.exec = Jvm.exec ∧ c.code = cc ∧ c.maxLocals = nL ∧ s.vm.findClass own = some m.cls ∧ (∀ w ∈ lw_g, w.before args s = true) ∧ meth.sig.returnType = ret ∧ meth.locks = false ∧ Sx Θ s.heap.size s
section CALLS
variable {p : Program} {l : Launch} {e : Env} {R : Room} {s : State} {m : MethodId} {args : Array Value} {below : List Frame} {meth : Method} {c : Code} {H : Heap} {locs : List Loc} {Q : State → Prop}
variable {cc : ByteArray} {pc nL : Nat} {own : String} {ret : Option FieldType} {Θ : Th} {g h g' h' : Mem} {ls : Array Slot} {rest st0 : List Value}
theorem good_g : lw_g.all goodWord = true := List.all_eq_true.mpr (fun w hw => (List.mem_filter.mp hw).2)
theorem good_in {y : MethodName} {bytes : ByteArray} {maxL : Nat} {rt : Option FieldType} (hc : Cond.code y bytes maxL rt ∈ lw_g) : GoodIn lw_g (Cond.code y bytes maxL rt :: lw_g) := goodIn_sub (fun w hw => (List.mem_cons.mp hw).elim (fun e => by rw [e]; exact hc) id) (by rw [List.all_cons, good_g, Bool.and_true]; exact List.all_eq_true.mp good_g _ hc)
theorem x_run {a : Array Value} {res : Option Value} (hS : va_S (AA Θ s.heap.size) s.heap H locs) (hr : va_Run p l e R s m args below meth c H locs 0 0 0 0 (F0 m pc ls st0) rest (Qx Θ H.size g' h' res a) (AA Θ H.size))
    (kk : ∀ (H1 : Heap) (locs1 : List Loc), Hd Θ s g' h' H1 locs1 → W p l e R s m args below meth c H1 locs1 0 0 Q (F0 m (pc + 3) ls (res.toList ++ rest))) : W p l e R s m args below meth c H locs 0 0 Q (F0 m pc ls st0) := by
  intro T hT X
  obtain ⟨v, st₀, t, T', L, h0, X', hL, e1, e2, ⟨hv, hP, hz, hk⟩, st⟩ := hr T hT X
  cases hv
  rw [h0] at hz hk
  have hn := AA_le (Θ := Θ) hS.1
  obtain ⟨t2, a1, b1⟩ := kk T'.heap (locs ++ L) ⟨by rw [e1]; exact hP, Nat.le_trans hS.1 (by rw [e1]; exact hz), fun q h1 h2 => by rw [e1, hk q (Nat.lt_of_lt_of_le h1 hS.1) (fun z => h2 (hn q z))]; exact hS.2.1 q h1 h2, fun q hq => by
      rcases List.mem_append.mp hq with h | h
      · exact hS.2.2 q h
      · exact hn _ (hL q h)⟩ T' rfl X'
  exact ⟨t2, st t2 a1, b1⟩
theorem x_preS {av : List Value} (C : Cx p s m args meth c cc nL own ret Θ) (hM : Hd Θ s g h H locs) : PreS s H (va_Pc av (Wd Θ H.size g h)) av := ⟨Wd_blind, fun U hU hW => ⟨rfl, by rw [hU], by rw [hU]; exact hM.1, Sx_go C.2.2.2.2.2.2.2 hM.2 hU hW⟩⟩
/-- a static method of ours or the JDK's -/
theorem x_callS {y : MethodName} {bytes : ByteArray} {maxL fr lo index n : Nat} {rt : Option FieldType} {As : List Value} {res : Option Value} (C : Cx p s m args meth c cc nL own ret Θ) (hM : Hd Θ s g h H locs) (hct : Ct l y bytes maxL rt fr lo Θ As g h g' h' res)
    (hc : Cond.code y bytes maxL rt ∈ lw_g) (hlk : Cond.methodLink own index y ∈ lw_g) (hst : Cond.static y ∈ lw_g) (hini : Cond.initialized y.cls ∈ lw_g)
    (hd : y.cls ≠ "java/lang/invoke/MethodHandle" ∧ y.cls ≠ "java/lang/invoke/VarHandle" ∧ (parseMethodDescriptor y.desc).map (fun d => d.parameters.length) = some n) (hR : fr + 1 ≤ R.frames ∧ 8 + (maxL + 11) + lo ≤ R.locals)
    (hn : As.length = n) (hl : ls.size = nL) (hs0 : st0 = As.reverse ++ rest) (hrm : (rest.map fun v => v.category).sum ≤ 8) (hdg : decode cc pc = .ok (.invokestatic index, 3))
    (kk : ∀ (H1 : Heap) (locs1 : List Loc), Hd Θ s g' h' H1 locs1 → W p l e R s m args below meth c H1 locs1 0 0 Q (F0 m (pc + 3) ls (res.toList ++ rest))) : W p l e R s m args below meth c H locs 0 0 Q (F0 m pc ls st0) := by
  obtain ⟨hx, hb, hml, hown, hts, -⟩ := id C
  exact x_run hM.2 (va_runS ⟨hx, hb, hml, hown, hts⟩ (hct H.size) ⟨callB_of n hts (good_in hc) rfl rfl rfl (hts _ hini) (hts _ hlk) hd hR, hts _ hst⟩ (x_preS C hM) rfl hn hl hs0 (lv_room hrm) hdg ⟨Nat.zero_le _, Nat.zero_le _⟩) kk
/-- a private static method of a nest mate -/
theorem x_callSN {y : MethodName} {bytes : ByteArray} {maxL fr lo index n : Nat} {rt : Option FieldType} {As : List Value} {res : Option Value} {host : String} (C : Cx p s m args meth c cc nL own ret Θ) (hM : Hd Θ s g h H locs) (hct : Ct l y bytes maxL rt fr lo Θ As g h g' h' res)
    (hc : Cond.code y bytes maxL rt ∈ lw_g) (hlk : (own, index, y, host) ∈ nests) (hst : Cond.static y ∈ lw_g) (hini : Cond.initialized y.cls ∈ lw_g)
    (hd : y.cls ≠ "java/lang/invoke/MethodHandle" ∧ y.cls ≠ "java/lang/invoke/VarHandle" ∧ (parseMethodDescriptor y.desc).map (fun d => d.parameters.length) = some n) (hR : fr + 1 ≤ R.frames ∧ 8 + (maxL + 11) + lo ≤ R.locals)
    (hn : As.length = n) (hl : ls.size = nL) (hs0 : st0 = As.reverse ++ rest) (hrm : (rest.map fun v => v.category).sum ≤ 8) (hdg : decode cc pc = .ok (.invokestatic index, 3))
    (kk : ∀ (H1 : Heap) (locs1 : List Loc), Hd Θ s g' h' H1 locs1 → W p l e R s m args below meth c H1 locs1 0 0 Q (F0 m (pc + 3) ls (res.toList ++ rest))) : W p l e R s m args below meth c H locs 0 0 Q (F0 m pc ls st0) := by
  obtain ⟨hx, hb, hml, hown, hts, -, -, hSx⟩ := id C
  exact x_run hM.2 (va_runSN ⟨hx, hb, hml, hown, hts⟩ (hct H.size) ⟨va_cnB n hts (good_in hc) rfl rfl rfl (hSx.2.2.1 _ hlk) (hts _ hini) hd hR, hts _ hst, trivial⟩ (x_preS C hM) rfl hn hl hs0 (lv_room hrm) hdg ⟨Nat.zero_le _, Nat.zero_le _⟩) kk
/-- a method of an object -/
theorem x_callV {y : MethodName} {bytes : ByteArray} {maxL fr lo index n b : Nat} {rt : Option FieldType} {As : List Value} {res : Option Value} (C : Cx p s m args meth c cc nL own ret Θ) (hM : Hd Θ s g h H locs) (hct : Ct l y bytes maxL rt fr lo Θ (.ref b :: As) g h g' h' res)
    (hrv : ∃ cell : Cell, H[b]? = some cell ∧ cell.vm.isStatics = false ∧ s.vm.findClass y.cls = some cell.cls)
    (hc : Cond.code y bytes maxL rt ∈ lw_g) (hlk : Cond.methodLink own index y ∈ lw_g) (hit : Cond.instanceMethod y ∈ lw_g) (hse : Cond.selects y.cls y y ∈ lw_g) (hini : Cond.initialized y.cls ∈ lw_g)
    (hd : y.cls ≠ "java/lang/invoke/MethodHandle" ∧ y.cls ≠ "java/lang/invoke/VarHandle" ∧ (parseMethodDescriptor y.desc).map (fun d => d.parameters.length) = some n) (hR : fr + 1 ≤ R.frames ∧ 8 + (maxL + 11) + lo ≤ R.locals)
    (hn : As.length = n) (hl : ls.size = nL) (hs0 : st0 = As.reverse ++ .ref b :: rest) (hrm : (rest.map fun v => v.category).sum ≤ 8) (hdg : decode cc pc = .ok (.invokevirtual index, 3))
    (kk : ∀ (H1 : Heap) (locs1 : List Loc), Hd Θ s g' h' H1 locs1 → W p l e R s m args below meth c H1 locs1 0 0 Q (F0 m (pc + 3) ls (res.toList ++ rest))) : W p l e R s m args below meth c H locs 0 0 Q (F0 m pc ls st0) := by
  obtain ⟨hx, hb, hml, hown, hts, -⟩ := id C
  exact x_run hM.2 (va_runV (C := y.cls) ⟨hx, hb, hml, hown, hts⟩ (hct H.size) ⟨callB_of n hts (good_in hc) rfl rfl rfl (hts _ hini) (hts _ hlk) hd hR, hts _ hit, hts _ hse⟩ ⟨Wd_blind, hrv, (x_preS C hM).2⟩ rfl hn hl hs0 (lv_room hrm) hdg ⟨Nat.zero_le _, Nat.zero_le _⟩) kk
/-- the start of a contract's proof -/
theorem x_start {y : MethodName} {maxL fr lo : Nat} {rt : Option FieldType} {av : List Value} {res : Option Value} (hy : plainName y.cls = true) (hav : (lg_sl av).length ≤ maxL)
    (body : ∀ p e s m args below meth c (ls : Array Slot), Cx p s m args meth c cc maxL y.cls rt Θ → Hd Θ s g h s.heap [] → lv_has ls maxL (lv_args 0 av) → W p l e { frames := fr, cells := 0, slots := 0, locals := lo } s m args below meth c s.heap [] 0 0 (MQ below (Qx Θ s.heap.size g' h' res) args s 0 0 (AA Θ s.heap.size)) (F0 m 0 ls [])) : Ct l y cc maxL rt fr lo Θ av g h g' h' res := by
  intro sz
  refine Met.ofW (cc := cc) (maxL := maxL) (ret := rt) hy rfl ?_
  intro p e s m args below meth c s₁ B hml hv
  obtain ⟨rfl, hsz, hP, hS⟩ := hv
  subst hsz
  have hts := atoms_spec (ws := Cond.code y cc maxL rt :: lw_g) B.pre
  rw [lg_entry_eq]
  exact body p e s m av.toArray below meth c _ ⟨B.exec, B.bytes, hml, findClass_of_methodNamed B.named, fun w hw => hts w (List.mem_cons_of_mem _ hw), B.returns, B.notSynchronized, hS⟩ ⟨hP, va_S.rf⟩ (lv_entry av hav)
/-- ends -/
theorem x_iret {r : Int} {rt : FieldType} (C : Cx p s m args meth c cc nL own (some rt) Θ) (hM : Hd Θ s g h H locs) (hn : narrow rt (vi r) = vi r) (hdg : decode cc pc = .ok (.ireturn, 1)) : W p l e R s m args below meth c H locs 0 0 (MQ below (Qx Θ s.heap.size g h (some (vi r))) args s 0 0 (AA Θ s.heap.size)) (F0 m pc ls [vi r]) :=
  W.zret C.1 C.2.1 C.2.2.2.2.2.1 hn (fun t ht _ => ⟨rfl, by rw [ht]; exact hM.1, hM.2.F ht⟩) hM.2.2.2 hdg C.2.2.2.2.2.2.1
theorem x_lret {r : Int} (C : Cx p s m args meth c cc nL own (some .long) Θ) (hM : Hd Θ s g h H locs) (hdg : decode cc pc = .ok (.lreturn, 1)) : W p l e R s m args below meth c H locs 0 0 (MQ below (Qx Θ s.heap.size g h (some (vl r))) args s 0 0 (AA Θ s.heap.size)) (F0 m pc ls [vl r]) :=
  W.lret C.1 C.2.1 C.2.2.2.2.2.1 (fun t ht _ => ⟨rfl, by rw [ht]; exact hM.1, hM.2.F ht⟩) hM.2.2.2 hdg C.2.2.2.2.2.2.1
theorem x_vret (C : Cx p s m args meth c cc nL own none Θ) (hM : Hd Θ s g h H locs) (hdg : decode cc pc = .ok (.return_, 1)) : W p l e R s m args below meth c H locs 0 0 (MQ below (Qx Θ s.heap.size g h none) args s 0 0 (AA Θ s.heap.size)) (F0 m pc ls []) :=
  W.vret C.1 C.2.1 C.2.2.2.2.2.1 (fun t ht _ => ⟨rfl, by rw [ht]; exact hM.1, hM.2.F ht⟩) hM.2.2.2 hdg C.2.2.2.2.2.2.1
end CALLS
