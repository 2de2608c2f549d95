/-! the world, by program (wip/whole/world.py): all cells in one order; a: their addresses; c9: the classes of int[], boolean[], long[] -/
def kw (a : Nat → Nat) (c9 : Nat → ClassId) (σ : kS) : va_W := [
  (a 0, .inr (0, [.ref (a 1), .ref (a 2), .ref (a 7), .int (σ.1 0), .ref (a 8), .int (σ.1 1)])),
  (a 1, .inr (2, [.int (σ.1 2), .ref (a 9), .ref (a 10), .ref (a 11), .ref (a 12), .ref (a 13), .ref (a 14), .ref (a 15), .ref (a 16), .ref (a 17), .ref (a 18), .ref (a 19), .ref (a 20)])),
  (a 2, .inr (6, [.ref (a 1), .ref (a 3), .ref (a 4), .ref (a 5), .ref (a 21), .ref (a 22), .ref (a 23), .ref (a 24), .int (σ.1 3), .int (σ.1 4), .int (σ.1 5), .int (σ.1 6), .int (σ.1 7)])),
  (a 3, .inr (5, [.int (σ.1 8), .ref (a 25), .ref (a 26), .ref (a 27)])),
  (a 4, .inr (4, [.ref (a 28), .ref (a 29), .ref (a 30)])),
  (a 5, .inr (3, [.int (σ.1 9), .ref (a 31), .ref (a 32)])),
  (a 6, .inr (1, [.int (σ.1 10), .int (σ.1 11), .ref (a 33), .ref (a 34), .ref (a 35), .ref (a 36), .ref (a 37), .ref (a 38), .ref (a 39), .ref (a 40), .ref (a 41), .ref (a 42), .ref (a 43), .ref (a 44), .int (σ.1 12), .ref (a 45), .int (σ.1 13), .ref (a 46), .int (σ.1 14), .ref (a 47), .ref (a 48), .ref (a 49), .ref (a 50), .int (σ.1 15), .ref (a 51), .int (σ.1 16), .int (σ.1 17), .int (σ.1 18), .int (σ.1 19), .int (σ.1 20), .ref (a 52), .ref (a 53), .ref (a 54), .ref (a 55), .ref (a 56), .int (σ.1 21), .ref (a 57), .ref (a 58), .ref (a 59), .ref (a 60), .ref (a 61), .ref (a 62), .ref (a 63), .ref (a 64)])),
  (a 7, .inl (c9 0, 30, .inl (σ.2.1 0))),
  (a 8, .inl (c9 0, 30, .inl (σ.2.1 1))),
  (a 9, .inl (c9 0, 240, .inl (σ.2.1 2))),
  (a 10, .inl (c9 0, 240, .inl (σ.2.1 3))),
  (a 11, .inl (c9 0, 240, .inl (σ.2.1 4))),
  (a 12, .inl (c9 1, 240, .inl (σ.2.1 5))),
  (a 13, .inl (c9 1, 240, .inl (σ.2.1 6))),
  (a 14, .inl (c9 0, 240, .inl (σ.2.1 7))),
  (a 15, .inl (c9 0, 240, .inl (σ.2.1 8))),
  (a 16, .inl (c9 0, 240, .inl (σ.2.1 9))),
  (a 17, .inl (c9 0, 2880, .inl (σ.2.1 10))),
  (a 18, .inl (c9 0, 240, .inl (σ.2.1 11))),
  (a 19, .inl (c9 0, 720, .inl (σ.2.1 12))),
  (a 20, .inl (c9 0, 720, .inl (σ.2.1 13))),
  (a 21, .inl (c9 0, 70, .inl (σ.2.1 14))),
  (a 22, .inl (c9 0, 70, .inl (σ.2.1 15))),
  (a 23, .inl (c9 0, 70, .inl (σ.2.1 16))),
  (a 24, .inl (c9 0, 12, .inl (σ.2.1 17))),
  (a 25, .inl (c9 0, 70, .inl (σ.2.1 18))),
  (a 26, .inl (c9 0, 70, .inl (σ.2.1 19))),
  (a 27, .inl (c9 1, 70, .inl (σ.2.1 20))),
  (a 28, .inl (c9 0, 8, .inl (σ.2.1 21))),
  (a 29, .inl (c9 0, 96, .inl (σ.2.1 22))),
  (a 30, .inl (c9 0, 8, .inl (σ.2.1 23))),
  (a 31, .inl (c9 0, 160, .inl (σ.2.1 24))),
  (a 32, .inl (c9 0, 1920, .inl (σ.2.1 25))),
  (a 33, .inl (c9 0, 240, .inl (σ.2.1 26))),
  (a 34, .inl (c9 0, 240, .inl (σ.2.1 27))),
  (a 35, .inl (c9 0, 240, .inl (σ.2.1 28))),
  (a 36, .inl (c9 0, 240, .inl (σ.2.1 29))),
  (a 37, .inl (c9 0, 2880, .inl (σ.2.1 30))),
  (a 38, .inl (c9 1, 240, .inl (σ.2.1 31))),
  (a 39, .inl (c9 1, 240, .inl (σ.2.1 32))),
  (a 40, .inl (c9 0, 240, .inl (σ.2.1 33))),
  (a 41, .inl (c9 0, 240, .inl (σ.2.1 34))),
  (a 42, .inl (c9 0, 240, .inl (σ.2.1 35))),
  (a 43, .inl (c9 0, 720, .inl (σ.2.1 36))),
  (a 44, .inl (c9 0, 720, .inl (σ.2.1 37))),
  (a 45, .inl (c9 0, 30, .inl (σ.2.1 38))),
  (a 46, .inl (c9 0, 30, .inl (σ.2.1 39))),
  (a 47, .inl (c9 0, 160, .inl (σ.2.1 40))),
  (a 48, .inl (c9 0, 1920, .inl (σ.2.1 41))),
  (a 49, .inl (c9 0, 8, .inl (σ.2.1 42))),
  (a 50, .inl (c9 0, 96, .inl (σ.2.1 43))),
  (a 51, .inl (c9 0, 8, .inl (σ.2.1 44))),
  (a 52, .inl (c9 0, 1000, .inl (σ.2.1 45))),
  (a 53, .inl (c9 0, 1000, .inl (σ.2.1 46))),
  (a 54, .inl (c9 0, 1000, .inl (σ.2.1 47))),
  (a 55, .inl (c9 0, 1000, .inl (σ.2.1 48))),
  (a 56, .inl (c9 0, 1000, .inl (σ.2.1 49))),
  (a 57, .inl (c9 0, 500, .inl (σ.2.1 50))),
  (a 58, .inl (c9 0, 500, .inl (σ.2.1 51))),
  (a 59, .inl (c9 0, 500, .inl (σ.2.1 52))),
  (a 60, .inl (c9 0, 500, .inl (σ.2.1 53))),
  (a 61, .inl (c9 0, 64, .inl (σ.2.1 54))),
  (a 62, .inl (c9 0, 64, .inl (σ.2.1 55))),
  (a 63, .inl (c9 0, 64, .inl (σ.2.1 56))),
  (a 64, .inl (c9 0, 12, .inl (σ.2.1 57))),
  (a 65, .inl (c9 2, 1, .inr (.inl σ.2.2)))]
abbrev ktys (c9 : Nat → ClassId) : List (ClassId × FieldType) := [(c9 0, .int), (c9 1, .boolean), (c9 2, .long)]
section KW
variable {a : Nat → Nat} {c9 : Nat → ClassId} {σ σ' : kS}
theorem kw_0 : (kw a c9 σ)[0]? = some (a 0, .inr (0, [.ref (a 1), .ref (a 2), .ref (a 7), .int (σ.1 0), .ref (a 8), .int (σ.1 1)])) := rfl
theorem kw_f0_3 {x : Int32} : (kw a c9 σ).set 0 (a 0, .inr (0, ([.ref (a 1), .ref (a 2), .ref (a 7), .int (σ.1 0), .ref (a 8), .int (σ.1 1)] : List Value).set 3 (.int x))) = kw a c9 (k_sS σ 0 x) := rfl
theorem kw_f0_5 {x : Int32} : (kw a c9 σ).set 0 (a 0, .inr (0, ([.ref (a 1), .ref (a 2), .ref (a 7), .int (σ.1 0), .ref (a 8), .int (σ.1 1)] : List Value).set 5 (.int x))) = kw a c9 (k_sS σ 1 x) := rfl
theorem kw_1 : (kw a c9 σ)[1]? = some (a 1, .inr (2, [.int (σ.1 2), .ref (a 9), .ref (a 10), .ref (a 11), .ref (a 12), .ref (a 13), .ref (a 14), .ref (a 15), .ref (a 16), .ref (a 17), .ref (a 18), .ref (a 19), .ref (a 20)])) := rfl
theorem kw_f1_0 {x : Int32} : (kw a c9 σ).set 1 (a 1, .inr (2, ([.int (σ.1 2), .ref (a 9), .ref (a 10), .ref (a 11), .ref (a 12), .ref (a 13), .ref (a 14), .ref (a 15), .ref (a 16), .ref (a 17), .ref (a 18), .ref (a 19), .ref (a 20)] : List Value).set 0 (.int x))) = kw a c9 (k_sS σ 2 x) := rfl
theorem kw_2 : (kw a c9 σ)[2]? = some (a 2, .inr (6, [.ref (a 1), .ref (a 3), .ref (a 4), .ref (a 5), .ref (a 21), .ref (a 22), .ref (a 23), .ref (a 24), .int (σ.1 3), .int (σ.1 4), .int (σ.1 5), .int (σ.1 6), .int (σ.1 7)])) := rfl
theorem kw_f2_8 {x : Int32} : (kw a c9 σ).set 2 (a 2, .inr (6, ([.ref (a 1), .ref (a 3), .ref (a 4), .ref (a 5), .ref (a 21), .ref (a 22), .ref (a 23), .ref (a 24), .int (σ.1 3), .int (σ.1 4), .int (σ.1 5), .int (σ.1 6), .int (σ.1 7)] : List Value).set 8 (.int x))) = kw a c9 (k_sS σ 3 x) := rfl
theorem kw_f2_9 {x : Int32} : (kw a c9 σ).set 2 (a 2, .inr (6, ([.ref (a 1), .ref (a 3), .ref (a 4), .ref (a 5), .ref (a 21), .ref (a 22), .ref (a 23), .ref (a 24), .int (σ.1 3), .int (σ.1 4), .int (σ.1 5), .int (σ.1 6), .int (σ.1 7)] : List Value).set 9 (.int x))) = kw a c9 (k_sS σ 4 x) := rfl
theorem kw_f2_10 {x : Int32} : (kw a c9 σ).set 2 (a 2, .inr (6, ([.ref (a 1), .ref (a 3), .ref (a 4), .ref (a 5), .ref (a 21), .ref (a 22), .ref (a 23), .ref (a 24), .int (σ.1 3), .int (σ.1 4), .int (σ.1 5), .int (σ.1 6), .int (σ.1 7)] : List Value).set 10 (.int x))) = kw a c9 (k_sS σ 5 x) := rfl
theorem kw_f2_11 {x : Int32} : (kw a c9 σ).set 2 (a 2, .inr (6, ([.ref (a 1), .ref (a 3), .ref (a 4), .ref (a 5), .ref (a 21), .ref (a 22), .ref (a 23), .ref (a 24), .int (σ.1 3), .int (σ.1 4), .int (σ.1 5), .int (σ.1 6), .int (σ.1 7)] : List Value).set 11 (.int x))) = kw a c9 (k_sS σ 6 x) := rfl
theorem kw_f2_12 {x : Int32} : (kw a c9 σ).set 2 (a 2, .inr (6, ([.ref (a 1), .ref (a 3), .ref (a 4), .ref (a 5), .ref (a 21), .ref (a 22), .ref (a 23), .ref (a 24), .int (σ.1 3), .int (σ.1 4), .int (σ.1 5), .int (σ.1 6), .int (σ.1 7)] : List Value).set 12 (.int x))) = kw a c9 (k_sS σ 7 x) := rfl
theorem kw_3 : (kw a c9 σ)[3]? = some (a 3, .inr (5, [.int (σ.1 8), .ref (a 25), .ref (a 26), .ref (a 27)])) := rfl
theorem kw_f3_0 {x : Int32} : (kw a c9 σ).set 3 (a 3, .inr (5, ([.int (σ.1 8), .ref (a 25), .ref (a 26), .ref (a 27)] : List Value).set 0 (.int x))) = kw a c9 (k_sS σ 8 x) := rfl
theorem kw_4 : (kw a c9 σ)[4]? = some (a 4, .inr (4, [.ref (a 28), .ref (a 29), .ref (a 30)])) := rfl
theorem kw_5 : (kw a c9 σ)[5]? = some (a 5, .inr (3, [.int (σ.1 9), .ref (a 31), .ref (a 32)])) := rfl
theorem kw_f5_0 {x : Int32} : (kw a c9 σ).set 5 (a 5, .inr (3, ([.int (σ.1 9), .ref (a 31), .ref (a 32)] : List Value).set 0 (.int x))) = kw a c9 (k_sS σ 9 x) := rfl
theorem kw_6 : (kw a c9 σ)[6]? = some (a 6, .inr (1, [.int (σ.1 10), .int (σ.1 11), .ref (a 33), .ref (a 34), .ref (a 35), .ref (a 36), .ref (a 37), .ref (a 38), .ref (a 39), .ref (a 40), .ref (a 41), .ref (a 42), .ref (a 43), .ref (a 44), .int (σ.1 12), .ref (a 45), .int (σ.1 13), .ref (a 46), .int (σ.1 14), .ref (a 47), .ref (a 48), .ref (a 49), .ref (a 50), .int (σ.1 15), .ref (a 51), .int (σ.1 16), .int (σ.1 17), .int (σ.1 18), .int (σ.1 19), .int (σ.1 20), .ref (a 52), .ref (a 53), .ref (a 54), .ref (a 55), .ref (a 56), .int (σ.1 21), .ref (a 57), .ref (a 58), .ref (a 59), .ref (a 60), .ref (a 61), .ref (a 62), .ref (a 63), .ref (a 64)])) := rfl
theorem kw_f6_0 {x : Int32} : (kw a c9 σ).set 6 (a 6, .inr (1, ([.int (σ.1 10), .int (σ.1 11), .ref (a 33), .ref (a 34), .ref (a 35), .ref (a 36), .ref (a 37), .ref (a 38), .ref (a 39), .ref (a 40), .ref (a 41), .ref (a 42), .ref (a 43), .ref (a 44), .int (σ.1 12), .ref (a 45), .int (σ.1 13), .ref (a 46), .int (σ.1 14), .ref (a 47), .ref (a 48), .ref (a 49), .ref (a 50), .int (σ.1 15), .ref (a 51), .int (σ.1 16), .int (σ.1 17), .int (σ.1 18), .int (σ.1 19), .int (σ.1 20), .ref (a 52), .ref (a 53), .ref (a 54), .ref (a 55), .ref (a 56), .int (σ.1 21), .ref (a 57), .ref (a 58), .ref (a 59), .ref (a 60), .ref (a 61), .ref (a 62), .ref (a 63), .ref (a 64)] : List Value).set 0 (.int x))) = kw a c9 (k_sS σ 10 x) := rfl
theorem kw_f6_1 {x : Int32} : (kw a c9 σ).set 6 (a 6, .inr (1, ([.int (σ.1 10), .int (σ.1 11), .ref (a 33), .ref (a 34), .ref (a 35), .ref (a 36), .ref (a 37), .ref (a 38), .ref (a 39), .ref (a 40), .ref (a 41), .ref (a 42), .ref (a 43), .ref (a 44), .int (σ.1 12), .ref (a 45), .int (σ.1 13), .ref (a 46), .int (σ.1 14), .ref (a 47), .ref (a 48), .ref (a 49), .ref (a 50), .int (σ.1 15), .ref (a 51), .int (σ.1 16), .int (σ.1 17), .int (σ.1 18), .int (σ.1 19), .int (σ.1 20), .ref (a 52), .ref (a 53), .ref (a 54), .ref (a 55), .ref (a 56), .int (σ.1 21), .ref (a 57), .ref (a 58), .ref (a 59), .ref (a 60), .ref (a 61), .ref (a 62), .ref (a 63), .ref (a 64)] : List Value).set 1 (.int x))) = kw a c9 (k_sS σ 11 x) := rfl
theorem kw_f6_14 {x : Int32} : (kw a c9 σ).set 6 (a 6, .inr (1, ([.int (σ.1 10), .int (σ.1 11), .ref (a 33), .ref (a 34), .ref (a 35), .ref (a 36), .ref (a 37), .ref (a 38), .ref (a 39), .ref (a 40), .ref (a 41), .ref (a 42), .ref (a 43), .ref (a 44), .int (σ.1 12), .ref (a 45), .int (σ.1 13), .ref (a 46), .int (σ.1 14), .ref (a 47), .ref (a 48), .ref (a 49), .ref (a 50), .int (σ.1 15), .ref (a 51), .int (σ.1 16), .int (σ.1 17), .int (σ.1 18), .int (σ.1 19), .int (σ.1 20), .ref (a 52), .ref (a 53), .ref (a 54), .ref (a 55), .ref (a 56), .int (σ.1 21), .ref (a 57), .ref (a 58), .ref (a 59), .ref (a 60), .ref (a 61), .ref (a 62), .ref (a 63), .ref (a 64)] : List Value).set 14 (.int x))) = kw a c9 (k_sS σ 12 x) := rfl
theorem kw_f6_16 {x : Int32} : (kw a c9 σ).set 6 (a 6, .inr (1, ([.int (σ.1 10), .int (σ.1 11), .ref (a 33), .ref (a 34), .ref (a 35), .ref (a 36), .ref (a 37), .ref (a 38), .ref (a 39), .ref (a 40), .ref (a 41), .ref (a 42), .ref (a 43), .ref (a 44), .int (σ.1 12), .ref (a 45), .int (σ.1 13), .ref (a 46), .int (σ.1 14), .ref (a 47), .ref (a 48), .ref (a 49), .ref (a 50), .int (σ.1 15), .ref (a 51), .int (σ.1 16), .int (σ.1 17), .int (σ.1 18), .int (σ.1 19), .int (σ.1 20), .ref (a 52), .ref (a 53), .ref (a 54), .ref (a 55), .ref (a 56), .int (σ.1 21), .ref (a 57), .ref (a 58), .ref (a 59), .ref (a 60), .ref (a 61), .ref (a 62), .ref (a 63), .ref (a 64)] : List Value).set 16 (.int x))) = kw a c9 (k_sS σ 13 x) := rfl
theorem kw_f6_18 {x : Int32} : (kw a c9 σ).set 6 (a 6, .inr (1, ([.int (σ.1 10), .int (σ.1 11), .ref (a 33), .ref (a 34), .ref (a 35), .ref (a 36), .ref (a 37), .ref (a 38), .ref (a 39), .ref (a 40), .ref (a 41), .ref (a 42), .ref (a 43), .ref (a 44), .int (σ.1 12), .ref (a 45), .int (σ.1 13), .ref (a 46), .int (σ.1 14), .ref (a 47), .ref (a 48), .ref (a 49), .ref (a 50), .int (σ.1 15), .ref (a 51), .int (σ.1 16), .int (σ.1 17), .int (σ.1 18), .int (σ.1 19), .int (σ.1 20), .ref (a 52), .ref (a 53), .ref (a 54), .ref (a 55), .ref (a 56), .int (σ.1 21), .ref (a 57), .ref (a 58), .ref (a 59), .ref (a 60), .ref (a 61), .ref (a 62), .ref (a 63), .ref (a 64)] : List Value).set 18 (.int x))) = kw a c9 (k_sS σ 14 x) := rfl
theorem kw_f6_23 {x : Int32} : (kw a c9 σ).set 6 (a 6, .inr (1, ([.int (σ.1 10), .int (σ.1 11), .ref (a 33), .ref (a 34), .ref (a 35), .ref (a 36), .ref (a 37), .ref (a 38), .ref (a 39), .ref (a 40), .ref (a 41), .ref (a 42), .ref (a 43), .ref (a 44), .int (σ.1 12), .ref (a 45), .int (σ.1 13), .ref (a 46), .int (σ.1 14), .ref (a 47), .ref (a 48), .ref (a 49), .ref (a 50), .int (σ.1 15), .ref (a 51), .int (σ.1 16), .int (σ.1 17), .int (σ.1 18), .int (σ.1 19), .int (σ.1 20), .ref (a 52), .ref (a 53), .ref (a 54), .ref (a 55), .ref (a 56), .int (σ.1 21), .ref (a 57), .ref (a 58), .ref (a 59), .ref (a 60), .ref (a 61), .ref (a 62), .ref (a 63), .ref (a 64)] : List Value).set 23 (.int x))) = kw a c9 (k_sS σ 15 x) := rfl
theorem kw_f6_25 {x : Int32} : (kw a c9 σ).set 6 (a 6, .inr (1, ([.int (σ.1 10), .int (σ.1 11), .ref (a 33), .ref (a 34), .ref (a 35), .ref (a 36), .ref (a 37), .ref (a 38), .ref (a 39), .ref (a 40), .ref (a 41), .ref (a 42), .ref (a 43), .ref (a 44), .int (σ.1 12), .ref (a 45), .int (σ.1 13), .ref (a 46), .int (σ.1 14), .ref (a 47), .ref (a 48), .ref (a 49), .ref (a 50), .int (σ.1 15), .ref (a 51), .int (σ.1 16), .int (σ.1 17), .int (σ.1 18), .int (σ.1 19), .int (σ.1 20), .ref (a 52), .ref (a 53), .ref (a 54), .ref (a 55), .ref (a 56), .int (σ.1 21), .ref (a 57), .ref (a 58), .ref (a 59), .ref (a 60), .ref (a 61), .ref (a 62), .ref (a 63), .ref (a 64)] : List Value).set 25 (.int x))) = kw a c9 (k_sS σ 16 x) := rfl
theorem kw_f6_26 {x : Int32} : (kw a c9 σ).set 6 (a 6, .inr (1, ([.int (σ.1 10), .int (σ.1 11), .ref (a 33), .ref (a 34), .ref (a 35), .ref (a 36), .ref (a 37), .ref (a 38), .ref (a 39), .ref (a 40), .ref (a 41), .ref (a 42), .ref (a 43), .ref (a 44), .int (σ.1 12), .ref (a 45), .int (σ.1 13), .ref (a 46), .int (σ.1 14), .ref (a 47), .ref (a 48), .ref (a 49), .ref (a 50), .int (σ.1 15), .ref (a 51), .int (σ.1 16), .int (σ.1 17), .int (σ.1 18), .int (σ.1 19), .int (σ.1 20), .ref (a 52), .ref (a 53), .ref (a 54), .ref (a 55), .ref (a 56), .int (σ.1 21), .ref (a 57), .ref (a 58), .ref (a 59), .ref (a 60), .ref (a 61), .ref (a 62), .ref (a 63), .ref (a 64)] : List Value).set 26 (.int x))) = kw a c9 (k_sS σ 17 x) := rfl
theorem kw_f6_27 {x : Int32} : (kw a c9 σ).set 6 (a 6, .inr (1, ([.int (σ.1 10), .int (σ.1 11), .ref (a 33), .ref (a 34), .ref (a 35), .ref (a 36), .ref (a 37), .ref (a 38), .ref (a 39), .ref (a 40), .ref (a 41), .ref (a 42), .ref (a 43), .ref (a 44), .int (σ.1 12), .ref (a 45), .int (σ.1 13), .ref (a 46), .int (σ.1 14), .ref (a 47), .ref (a 48), .ref (a 49), .ref (a 50), .int (σ.1 15), .ref (a 51), .int (σ.1 16), .int (σ.1 17), .int (σ.1 18), .int (σ.1 19), .int (σ.1 20), .ref (a 52), .ref (a 53), .ref (a 54), .ref (a 55), .ref (a 56), .int (σ.1 21), .ref (a 57), .ref (a 58), .ref (a 59), .ref (a 60), .ref (a 61), .ref (a 62), .ref (a 63), .ref (a 64)] : List Value).set 27 (.int x))) = kw a c9 (k_sS σ 18 x) := rfl
theorem kw_f6_28 {x : Int32} : (kw a c9 σ).set 6 (a 6, .inr (1, ([.int (σ.1 10), .int (σ.1 11), .ref (a 33), .ref (a 34), .ref (a 35), .ref (a 36), .ref (a 37), .ref (a 38), .ref (a 39), .ref (a 40), .ref (a 41), .ref (a 42), .ref (a 43), .ref (a 44), .int (σ.1 12), .ref (a 45), .int (σ.1 13), .ref (a 46), .int (σ.1 14), .ref (a 47), .ref (a 48), .ref (a 49), .ref (a 50), .int (σ.1 15), .ref (a 51), .int (σ.1 16), .int (σ.1 17), .int (σ.1 18), .int (σ.1 19), .int (σ.1 20), .ref (a 52), .ref (a 53), .ref (a 54), .ref (a 55), .ref (a 56), .int (σ.1 21), .ref (a 57), .ref (a 58), .ref (a 59), .ref (a 60), .ref (a 61), .ref (a 62), .ref (a 63), .ref (a 64)] : List Value).set 28 (.int x))) = kw a c9 (k_sS σ 19 x) := rfl
theorem kw_f6_29 {x : Int32} : (kw a c9 σ).set 6 (a 6, .inr (1, ([.int (σ.1 10), .int (σ.1 11), .ref (a 33), .ref (a 34), .ref (a 35), .ref (a 36), .ref (a 37), .ref (a 38), .ref (a 39), .ref (a 40), .ref (a 41), .ref (a 42), .ref (a 43), .ref (a 44), .int (σ.1 12), .ref (a 45), .int (σ.1 13), .ref (a 46), .int (σ.1 14), .ref (a 47), .ref (a 48), .ref (a 49), .ref (a 50), .int (σ.1 15), .ref (a 51), .int (σ.1 16), .int (σ.1 17), .int (σ.1 18), .int (σ.1 19), .int (σ.1 20), .ref (a 52), .ref (a 53), .ref (a 54), .ref (a 55), .ref (a 56), .int (σ.1 21), .ref (a 57), .ref (a 58), .ref (a 59), .ref (a 60), .ref (a 61), .ref (a 62), .ref (a 63), .ref (a 64)] : List Value).set 29 (.int x))) = kw a c9 (k_sS σ 20 x) := rfl
theorem kw_f6_35 {x : Int32} : (kw a c9 σ).set 6 (a 6, .inr (1, ([.int (σ.1 10), .int (σ.1 11), .ref (a 33), .ref (a 34), .ref (a 35), .ref (a 36), .ref (a 37), .ref (a 38), .ref (a 39), .ref (a 40), .ref (a 41), .ref (a 42), .ref (a 43), .ref (a 44), .int (σ.1 12), .ref (a 45), .int (σ.1 13), .ref (a 46), .int (σ.1 14), .ref (a 47), .ref (a 48), .ref (a 49), .ref (a 50), .int (σ.1 15), .ref (a 51), .int (σ.1 16), .int (σ.1 17), .int (σ.1 18), .int (σ.1 19), .int (σ.1 20), .ref (a 52), .ref (a 53), .ref (a 54), .ref (a 55), .ref (a 56), .int (σ.1 21), .ref (a 57), .ref (a 58), .ref (a 59), .ref (a 60), .ref (a 61), .ref (a 62), .ref (a 63), .ref (a 64)] : List Value).set 35 (.int x))) = kw a c9 (k_sS σ 21 x) := rfl
theorem kw_7 : (kw a c9 σ)[7]? = some (a 7, .inl (c9 0, 30, .inl (σ.2.1 0))) := rfl
theorem kw_s7 {f : Nat → Int32} : (kw a c9 σ).set 7 (a 7, .inl (c9 0, 30, .inl f)) = kw a c9 (k_sA σ 0 f) := rfl
theorem kw_8 : (kw a c9 σ)[8]? = some (a 8, .inl (c9 0, 30, .inl (σ.2.1 1))) := rfl
theorem kw_s8 {f : Nat → Int32} : (kw a c9 σ).set 8 (a 8, .inl (c9 0, 30, .inl f)) = kw a c9 (k_sA σ 1 f) := rfl
theorem kw_9 : (kw a c9 σ)[9]? = some (a 9, .inl (c9 0, 240, .inl (σ.2.1 2))) := rfl
theorem kw_s9 {f : Nat → Int32} : (kw a c9 σ).set 9 (a 9, .inl (c9 0, 240, .inl f)) = kw a c9 (k_sA σ 2 f) := rfl
theorem kw_10 : (kw a c9 σ)[10]? = some (a 10, .inl (c9 0, 240, .inl (σ.2.1 3))) := rfl
theorem kw_s10 {f : Nat → Int32} : (kw a c9 σ).set 10 (a 10, .inl (c9 0, 240, .inl f)) = kw a c9 (k_sA σ 3 f) := rfl
theorem kw_11 : (kw a c9 σ)[11]? = some (a 11, .inl (c9 0, 240, .inl (σ.2.1 4))) := rfl
theorem kw_s11 {f : Nat → Int32} : (kw a c9 σ).set 11 (a 11, .inl (c9 0, 240, .inl f)) = kw a c9 (k_sA σ 4 f) := rfl
theorem kw_12 : (kw a c9 σ)[12]? = some (a 12, .inl (c9 1, 240, .inl (σ.2.1 5))) := rfl
theorem kw_s12 {f : Nat → Int32} : (kw a c9 σ).set 12 (a 12, .inl (c9 1, 240, .inl f)) = kw a c9 (k_sA σ 5 f) := rfl
theorem kw_13 : (kw a c9 σ)[13]? = some (a 13, .inl (c9 1, 240, .inl (σ.2.1 6))) := rfl
theorem kw_s13 {f : Nat → Int32} : (kw a c9 σ).set 13 (a 13, .inl (c9 1, 240, .inl f)) = kw a c9 (k_sA σ 6 f) := rfl
theorem kw_14 : (kw a c9 σ)[14]? = some (a 14, .inl (c9 0, 240, .inl (σ.2.1 7))) := rfl
theorem kw_s14 {f : Nat → Int32} : (kw a c9 σ).set 14 (a 14, .inl (c9 0, 240, .inl f)) = kw a c9 (k_sA σ 7 f) := rfl
theorem kw_15 : (kw a c9 σ)[15]? = some (a 15, .inl (c9 0, 240, .inl (σ.2.1 8))) := rfl
theorem kw_s15 {f : Nat → Int32} : (kw a c9 σ).set 15 (a 15, .inl (c9 0, 240, .inl f)) = kw a c9 (k_sA σ 8 f) := rfl
theorem kw_16 : (kw a c9 σ)[16]? = some (a 16, .inl (c9 0, 240, .inl (σ.2.1 9))) := rfl
theorem kw_s16 {f : Nat → Int32} : (kw a c9 σ).set 16 (a 16, .inl (c9 0, 240, .inl f)) = kw a c9 (k_sA σ 9 f) := rfl
theorem kw_17 : (kw a c9 σ)[17]? = some (a 17, .inl (c9 0, 2880, .inl (σ.2.1 10))) := rfl
theorem kw_s17 {f : Nat → Int32} : (kw a c9 σ).set 17 (a 17, .inl (c9 0, 2880, .inl f)) = kw a c9 (k_sA σ 10 f) := rfl
theorem kw_18 : (kw a c9 σ)[18]? = some (a 18, .inl (c9 0, 240, .inl (σ.2.1 11))) := rfl
theorem kw_s18 {f : Nat → Int32} : (kw a c9 σ).set 18 (a 18, .inl (c9 0, 240, .inl f)) = kw a c9 (k_sA σ 11 f) := rfl
theorem kw_19 : (kw a c9 σ)[19]? = some (a 19, .inl (c9 0, 720, .inl (σ.2.1 12))) := rfl
theorem kw_s19 {f : Nat → Int32} : (kw a c9 σ).set 19 (a 19, .inl (c9 0, 720, .inl f)) = kw a c9 (k_sA σ 12 f) := rfl
theorem kw_20 : (kw a c9 σ)[20]? = some (a 20, .inl (c9 0, 720, .inl (σ.2.1 13))) := rfl
theorem kw_s20 {f : Nat → Int32} : (kw a c9 σ).set 20 (a 20, .inl (c9 0, 720, .inl f)) = kw a c9 (k_sA σ 13 f) := rfl
theorem kw_21 : (kw a c9 σ)[21]? = some (a 21, .inl (c9 0, 70, .inl (σ.2.1 14))) := rfl
theorem kw_s21 {f : Nat → Int32} : (kw a c9 σ).set 21 (a 21, .inl (c9 0, 70, .inl f)) = kw a c9 (k_sA σ 14 f) := rfl
theorem kw_22 : (kw a c9 σ)[22]? = some (a 22, .inl (c9 0, 70, .inl (σ.2.1 15))) := rfl
theorem kw_s22 {f : Nat → Int32} : (kw a c9 σ).set 22 (a 22, .inl (c9 0, 70, .inl f)) = kw a c9 (k_sA σ 15 f) := rfl
theorem kw_23 : (kw a c9 σ)[23]? = some (a 23, .inl (c9 0, 70, .inl (σ.2.1 16))) := rfl
theorem kw_s23 {f : Nat → Int32} : (kw a c9 σ).set 23 (a 23, .inl (c9 0, 70, .inl f)) = kw a c9 (k_sA σ 16 f) := rfl
theorem kw_24 : (kw a c9 σ)[24]? = some (a 24, .inl (c9 0, 12, .inl (σ.2.1 17))) := rfl
theorem kw_s24 {f : Nat → Int32} : (kw a c9 σ).set 24 (a 24, .inl (c9 0, 12, .inl f)) = kw a c9 (k_sA σ 17 f) := rfl
theorem kw_25 : (kw a c9 σ)[25]? = some (a 25, .inl (c9 0, 70, .inl (σ.2.1 18))) := rfl
theorem kw_s25 {f : Nat → Int32} : (kw a c9 σ).set 25 (a 25, .inl (c9 0, 70, .inl f)) = kw a c9 (k_sA σ 18 f) := rfl
theorem kw_26 : (kw a c9 σ)[26]? = some (a 26, .inl (c9 0, 70, .inl (σ.2.1 19))) := rfl
theorem kw_s26 {f : Nat → Int32} : (kw a c9 σ).set 26 (a 26, .inl (c9 0, 70, .inl f)) = kw a c9 (k_sA σ 19 f) := rfl
theorem kw_27 : (kw a c9 σ)[27]? = some (a 27, .inl (c9 1, 70, .inl (σ.2.1 20))) := rfl
theorem kw_s27 {f : Nat → Int32} : (kw a c9 σ).set 27 (a 27, .inl (c9 1, 70, .inl f)) = kw a c9 (k_sA σ 20 f) := rfl
theorem kw_28 : (kw a c9 σ)[28]? = some (a 28, .inl (c9 0, 8, .inl (σ.2.1 21))) := rfl
theorem kw_s28 {f : Nat → Int32} : (kw a c9 σ).set 28 (a 28, .inl (c9 0, 8, .inl f)) = kw a c9 (k_sA σ 21 f) := rfl
theorem kw_29 : (kw a c9 σ)[29]? = some (a 29, .inl (c9 0, 96, .inl (σ.2.1 22))) := rfl
theorem kw_s29 {f : Nat → Int32} : (kw a c9 σ).set 29 (a 29, .inl (c9 0, 96, .inl f)) = kw a c9 (k_sA σ 22 f) := rfl
theorem kw_30 : (kw a c9 σ)[30]? = some (a 30, .inl (c9 0, 8, .inl (σ.2.1 23))) := rfl
theorem kw_s30 {f : Nat → Int32} : (kw a c9 σ).set 30 (a 30, .inl (c9 0, 8, .inl f)) = kw a c9 (k_sA σ 23 f) := rfl
theorem kw_31 : (kw a c9 σ)[31]? = some (a 31, .inl (c9 0, 160, .inl (σ.2.1 24))) := rfl
theorem kw_s31 {f : Nat → Int32} : (kw a c9 σ).set 31 (a 31, .inl (c9 0, 160, .inl f)) = kw a c9 (k_sA σ 24 f) := rfl
theorem kw_32 : (kw a c9 σ)[32]? = some (a 32, .inl (c9 0, 1920, .inl (σ.2.1 25))) := rfl
theorem kw_s32 {f : Nat → Int32} : (kw a c9 σ).set 32 (a 32, .inl (c9 0, 1920, .inl f)) = kw a c9 (k_sA σ 25 f) := rfl
theorem kw_33 : (kw a c9 σ)[33]? = some (a 33, .inl (c9 0, 240, .inl (σ.2.1 26))) := rfl
theorem kw_s33 {f : Nat → Int32} : (kw a c9 σ).set 33 (a 33, .inl (c9 0, 240, .inl f)) = kw a c9 (k_sA σ 26 f) := rfl
theorem kw_34 : (kw a c9 σ)[34]? = some (a 34, .inl (c9 0, 240, .inl (σ.2.1 27))) := rfl
theorem kw_s34 {f : Nat → Int32} : (kw a c9 σ).set 34 (a 34, .inl (c9 0, 240, .inl f)) = kw a c9 (k_sA σ 27 f) := rfl
theorem kw_35 : (kw a c9 σ)[35]? = some (a 35, .inl (c9 0, 240, .inl (σ.2.1 28))) := rfl
theorem kw_s35 {f : Nat → Int32} : (kw a c9 σ).set 35 (a 35, .inl (c9 0, 240, .inl f)) = kw a c9 (k_sA σ 28 f) := rfl
theorem kw_36 : (kw a c9 σ)[36]? = some (a 36, .inl (c9 0, 240, .inl (σ.2.1 29))) := rfl
theorem kw_s36 {f : Nat → Int32} : (kw a c9 σ).set 36 (a 36, .inl (c9 0, 240, .inl f)) = kw a c9 (k_sA σ 29 f) := rfl
theorem kw_37 : (kw a c9 σ)[37]? = some (a 37, .inl (c9 0, 2880, .inl (σ.2.1 30))) := rfl
theorem kw_s37 {f : Nat → Int32} : (kw a c9 σ).set 37 (a 37, .inl (c9 0, 2880, .inl f)) = kw a c9 (k_sA σ 30 f) := rfl
theorem kw_38 : (kw a c9 σ)[38]? = some (a 38, .inl (c9 1, 240, .inl (σ.2.1 31))) := rfl
theorem kw_s38 {f : Nat → Int32} : (kw a c9 σ).set 38 (a 38, .inl (c9 1, 240, .inl f)) = kw a c9 (k_sA σ 31 f) := rfl
theorem kw_39 : (kw a c9 σ)[39]? = some (a 39, .inl (c9 1, 240, .inl (σ.2.1 32))) := rfl
theorem kw_s39 {f : Nat → Int32} : (kw a c9 σ).set 39 (a 39, .inl (c9 1, 240, .inl f)) = kw a c9 (k_sA σ 32 f) := rfl
theorem kw_40 : (kw a c9 σ)[40]? = some (a 40, .inl (c9 0, 240, .inl (σ.2.1 33))) := rfl
theorem kw_s40 {f : Nat → Int32} : (kw a c9 σ).set 40 (a 40, .inl (c9 0, 240, .inl f)) = kw a c9 (k_sA σ 33 f) := rfl
theorem kw_41 : (kw a c9 σ)[41]? = some (a 41, .inl (c9 0, 240, .inl (σ.2.1 34))) := rfl
theorem kw_s41 {f : Nat → Int32} : (kw a c9 σ).set 41 (a 41, .inl (c9 0, 240, .inl f)) = kw a c9 (k_sA σ 34 f) := rfl
theorem kw_42 : (kw a c9 σ)[42]? = some (a 42, .inl (c9 0, 240, .inl (σ.2.1 35))) := rfl
theorem kw_s42 {f : Nat → Int32} : (kw a c9 σ).set 42 (a 42, .inl (c9 0, 240, .inl f)) = kw a c9 (k_sA σ 35 f) := rfl
theorem kw_43 : (kw a c9 σ)[43]? = some (a 43, .inl (c9 0, 720, .inl (σ.2.1 36))) := rfl
theorem kw_s43 {f : Nat → Int32} : (kw a c9 σ).set 43 (a 43, .inl (c9 0, 720, .inl f)) = kw a c9 (k_sA σ 36 f) := rfl
theorem kw_44 : (kw a c9 σ)[44]? = some (a 44, .inl (c9 0, 720, .inl (σ.2.1 37))) := rfl
theorem kw_s44 {f : Nat → Int32} : (kw a c9 σ).set 44 (a 44, .inl (c9 0, 720, .inl f)) = kw a c9 (k_sA σ 37 f) := rfl
theorem kw_45 : (kw a c9 σ)[45]? = some (a 45, .inl (c9 0, 30, .inl (σ.2.1 38))) := rfl
theorem kw_s45 {f : Nat → Int32} : (kw a c9 σ).set 45 (a 45, .inl (c9 0, 30, .inl f)) = kw a c9 (k_sA σ 38 f) := rfl
theorem kw_46 : (kw a c9 σ)[46]? = some (a 46, .inl (c9 0, 30, .inl (σ.2.1 39))) := rfl
theorem kw_s46 {f : Nat → Int32} : (kw a c9 σ).set 46 (a 46, .inl (c9 0, 30, .inl f)) = kw a c9 (k_sA σ 39 f) := rfl
theorem kw_47 : (kw a c9 σ)[47]? = some (a 47, .inl (c9 0, 160, .inl (σ.2.1 40))) := rfl
theorem kw_s47 {f : Nat → Int32} : (kw a c9 σ).set 47 (a 47, .inl (c9 0, 160, .inl f)) = kw a c9 (k_sA σ 40 f) := rfl
theorem kw_48 : (kw a c9 σ)[48]? = some (a 48, .inl (c9 0, 1920, .inl (σ.2.1 41))) := rfl
theorem kw_s48 {f : Nat → Int32} : (kw a c9 σ).set 48 (a 48, .inl (c9 0, 1920, .inl f)) = kw a c9 (k_sA σ 41 f) := rfl
theorem kw_49 : (kw a c9 σ)[49]? = some (a 49, .inl (c9 0, 8, .inl (σ.2.1 42))) := rfl
theorem kw_s49 {f : Nat → Int32} : (kw a c9 σ).set 49 (a 49, .inl (c9 0, 8, .inl f)) = kw a c9 (k_sA σ 42 f) := rfl
theorem kw_50 : (kw a c9 σ)[50]? = some (a 50, .inl (c9 0, 96, .inl (σ.2.1 43))) := rfl
theorem kw_s50 {f : Nat → Int32} : (kw a c9 σ).set 50 (a 50, .inl (c9 0, 96, .inl f)) = kw a c9 (k_sA σ 43 f) := rfl
theorem kw_51 : (kw a c9 σ)[51]? = some (a 51, .inl (c9 0, 8, .inl (σ.2.1 44))) := rfl
theorem kw_s51 {f : Nat → Int32} : (kw a c9 σ).set 51 (a 51, .inl (c9 0, 8, .inl f)) = kw a c9 (k_sA σ 44 f) := rfl
theorem kw_52 : (kw a c9 σ)[52]? = some (a 52, .inl (c9 0, 1000, .inl (σ.2.1 45))) := rfl
theorem kw_s52 {f : Nat → Int32} : (kw a c9 σ).set 52 (a 52, .inl (c9 0, 1000, .inl f)) = kw a c9 (k_sA σ 45 f) := rfl
theorem kw_53 : (kw a c9 σ)[53]? = some (a 53, .inl (c9 0, 1000, .inl (σ.2.1 46))) := rfl
theorem kw_s53 {f : Nat → Int32} : (kw a c9 σ).set 53 (a 53, .inl (c9 0, 1000, .inl f)) = kw a c9 (k_sA σ 46 f) := rfl
theorem kw_54 : (kw a c9 σ)[54]? = some (a 54, .inl (c9 0, 1000, .inl (σ.2.1 47))) := rfl
theorem kw_s54 {f : Nat → Int32} : (kw a c9 σ).set 54 (a 54, .inl (c9 0, 1000, .inl f)) = kw a c9 (k_sA σ 47 f) := rfl
theorem kw_55 : (kw a c9 σ)[55]? = some (a 55, .inl (c9 0, 1000, .inl (σ.2.1 48))) := rfl
theorem kw_s55 {f : Nat → Int32} : (kw a c9 σ).set 55 (a 55, .inl (c9 0, 1000, .inl f)) = kw a c9 (k_sA σ 48 f) := rfl
theorem kw_56 : (kw a c9 σ)[56]? = some (a 56, .inl (c9 0, 1000, .inl (σ.2.1 49))) := rfl
theorem kw_s56 {f : Nat → Int32} : (kw a c9 σ).set 56 (a 56, .inl (c9 0, 1000, .inl f)) = kw a c9 (k_sA σ 49 f) := rfl
theorem kw_57 : (kw a c9 σ)[57]? = some (a 57, .inl (c9 0, 500, .inl (σ.2.1 50))) := rfl
theorem kw_s57 {f : Nat → Int32} : (kw a c9 σ).set 57 (a 57, .inl (c9 0, 500, .inl f)) = kw a c9 (k_sA σ 50 f) := rfl
theorem kw_58 : (kw a c9 σ)[58]? = some (a 58, .inl (c9 0, 500, .inl (σ.2.1 51))) := rfl
theorem kw_s58 {f : Nat → Int32} : (kw a c9 σ).set 58 (a 58, .inl (c9 0, 500, .inl f)) = kw a c9 (k_sA σ 51 f) := rfl
theorem kw_59 : (kw a c9 σ)[59]? = some (a 59, .inl (c9 0, 500, .inl (σ.2.1 52))) := rfl
theorem kw_s59 {f : Nat → Int32} : (kw a c9 σ).set 59 (a 59, .inl (c9 0, 500, .inl f)) = kw a c9 (k_sA σ 52 f) := rfl
theorem kw_60 : (kw a c9 σ)[60]? = some (a 60, .inl (c9 0, 500, .inl (σ.2.1 53))) := rfl
theorem kw_s60 {f : Nat → Int32} : (kw a c9 σ).set 60 (a 60, .inl (c9 0, 500, .inl f)) = kw a c9 (k_sA σ 53 f) := rfl
theorem kw_61 : (kw a c9 σ)[61]? = some (a 61, .inl (c9 0, 64, .inl (σ.2.1 54))) := rfl
theorem kw_s61 {f : Nat → Int32} : (kw a c9 σ).set 61 (a 61, .inl (c9 0, 64, .inl f)) = kw a c9 (k_sA σ 54 f) := rfl
theorem kw_62 : (kw a c9 σ)[62]? = some (a 62, .inl (c9 0, 64, .inl (σ.2.1 55))) := rfl
theorem kw_s62 {f : Nat → Int32} : (kw a c9 σ).set 62 (a 62, .inl (c9 0, 64, .inl f)) = kw a c9 (k_sA σ 55 f) := rfl
theorem kw_63 : (kw a c9 σ)[63]? = some (a 63, .inl (c9 0, 64, .inl (σ.2.1 56))) := rfl
theorem kw_s63 {f : Nat → Int32} : (kw a c9 σ).set 63 (a 63, .inl (c9 0, 64, .inl f)) = kw a c9 (k_sA σ 56 f) := rfl
theorem kw_64 : (kw a c9 σ)[64]? = some (a 64, .inl (c9 0, 12, .inl (σ.2.1 57))) := rfl
theorem kw_s64 {f : Nat → Int32} : (kw a c9 σ).set 64 (a 64, .inl (c9 0, 12, .inl f)) = kw a c9 (k_sA σ 57 f) := rfl
theorem kw_65 : (kw a c9 σ)[65]? = some (a 65, .inl (c9 2, 1, .inr (.inl σ.2.2))) := rfl
theorem kw_s65 {f : Nat → Int64} : (kw a c9 σ).set 65 (a 65, .inl (c9 2, 1, .inr (.inl f))) = kw a c9 (k_sL σ f) := rfl
theorem kw_fst : (kw a c9 σ).map Prod.fst = (List.range 66).map a := rfl
theorem kw_D {A : Nat → Prop} (h : va_D A (kw a c9 σ)) : va_D A (kw a c9 σ') := k_fstD (kw_fst.trans kw_fst.symm) h
end KW
