theorem v11_2 {x0 x1 x2 x3 x4 x5 x6 x7 x8 x9 x10 : Int32} : v11 x0 x1 x2 x3 x4 x5 x6 x7 x8 x9 x10 2 = x2 := rfl
theorem v11_3 {x0 x1 x2 x3 x4 x5 x6 x7 x8 x9 x10 : Int32} : v11 x0 x1 x2 x3 x4 x5 x6 x7 x8 x9 x10 3 = x3 := rfl
theorem v11_4 {x0 x1 x2 x3 x4 x5 x6 x7 x8 x9 x10 : Int32} : v11 x0 x1 x2 x3 x4 x5 x6 x7 x8 x9 x10 4 = x4 := rfl
theorem v11_8 {x0 x1 x2 x3 x4 x5 x6 x7 x8 x9 x10 : Int32} : v11 x0 x1 x2 x3 x4 x5 x6 x7 x8 x9 x10 8 = x8 := rfl
theorem v11_9 {x0 x1 x2 x3 x4 x5 x6 x7 x8 x9 x10 : Int32} : v11 x0 x1 x2 x3 x4 x5 x6 x7 x8 x9 x10 9 = x9 := rfl
theorem v9_0 {x0 x1 x2 x3 x4 x5 x6 x7 x8 : Int32} : v9 x0 x1 x2 x3 x4 x5 x6 x7 x8 0 = x0 := rfl
theorem v9_1 {x0 x1 x2 x3 x4 x5 x6 x7 x8 : Int32} : v9 x0 x1 x2 x3 x4 x5 x6 x7 x8 1 = x1 := rfl
theorem v9_2 {x0 x1 x2 x3 x4 x5 x6 x7 x8 : Int32} : v9 x0 x1 x2 x3 x4 x5 x6 x7 x8 2 = x2 := rfl
theorem v9_7 {x0 x1 x2 x3 x4 x5 x6 x7 x8 : Int32} : v9 x0 x1 x2 x3 x4 x5 x6 x7 x8 7 = x7 := rfl
theorem ad4_1 {x0 x1 x2 x3 : Nat} : ad4 x0 x1 x2 x3 1 = x1 := rfl
theorem ad4_3 {x0 x1 x2 x3 : Nat} : ad4 x0 x1 x2 x3 3 = x3 := rfl
