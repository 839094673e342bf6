def kI_0 : mI := fun _ _ => 0
def kL_0 : mL := fun _ _ => 0
def kR_0 : Nat → Nat → Option Nat := fun _ _ => none
def shp_0 : List gm_S := []
def shp_1 : List gm_S := [.inr 10]
def kI_1 : mI := va_up kI_0 0 (fun _ => 0)
def kL_1 : mL := va_up kL_0 0 (fun _ => 0)
def kR_1 : Nat → Nat → Option Nat := va_up kR_0 0 (fun _ => none)
def shp_2 : List gm_S := [.inr 10, .inl (2, 700)]
def kI_2 : mI := va_up kI_1 1 (fun _ => 0)
def kL_2 : mL := va_up kL_1 1 (fun _ => 0)
def kR_2 : Nat → Nat → Option Nat := va_up kR_1 1 (fun _ => none)
def kR_3 : Nat → Nat → Option Nat := gm_u kR_2 0 0 (some 1)
def shp_3 : List gm_S := [.inr 10, .inl (2, 700), .inr 1]
def kI_3 : mI := va_up kI_2 2 (fun _ => 0)
def kL_3 : mL := va_up kL_2 2 (fun _ => 0)
def kR_4 : Nat → Nat → Option Nat := va_up kR_3 2 (fun _ => none)
def kI_4 : mI := gm_u kI_3 2 0 1
def kI_5 : mI := gm_u kI_4 2 1 100
def shp_4 : List gm_S := [.inr 10, .inl (2, 700), .inr 1, .inl (0, 6)]
def kI_6 : mI := va_up kI_5 3 (fun _ => 0)
def kL_4 : mL := va_up kL_3 3 (fun _ => 0)
def kR_5 : Nat → Nat → Option Nat := va_up kR_4 3 (fun _ => none)
def kR_6 : Nat → Nat → Option Nat := gm_u kR_5 2 6 (some 3)
def shp_5 : List gm_S := [.inr 10, .inl (2, 700), .inr 1, .inl (0, 6), .inl (0, 6)]
def kI_7 : mI := va_up kI_6 4 (fun _ => 0)
def kL_5 : mL := va_up kL_4 4 (fun _ => 0)
def kR_7 : Nat → Nat → Option Nat := va_up kR_6 4 (fun _ => none)
def kR_8 : Nat → Nat → Option Nat := gm_u kR_7 2 7 (some 4)
def shp_6 : List gm_S := [.inr 10, .inl (2, 700), .inr 1, .inl (0, 6), .inl (0, 6), .inl (0, 6)]
def kI_8 : mI := va_up kI_7 5 (fun _ => 0)
def kL_6 : mL := va_up kL_5 5 (fun _ => 0)
def kR_9 : Nat → Nat → Option Nat := va_up kR_8 5 (fun _ => none)
def kR_10 : Nat → Nat → Option Nat := gm_u kR_9 2 8 (some 5)
def kI_9 : mI := gm_u kI_8 2 10 10
def kI_10 : mI := gm_u kI_9 2 11 100
def kR_11 : Nat → Nat → Option Nat := gm_u kR_10 0 3 (some 2)
def shp_7 : List gm_S := [.inr 10, .inl (2, 700), .inr 1, .inl (0, 6), .inl (0, 6), .inl (0, 6), .inr 5]
def kI_11 : mI := va_up kI_10 6 (fun _ => 0)
def kL_7 : mL := va_up kL_6 6 (fun _ => 0)
def kR_12 : Nat → Nat → Option Nat := va_up kR_11 6 (fun _ => none)
def kI_12 : mI := gm_u kI_11 6 1 (-1)
def kR_13 : Nat → Nat → Option Nat := gm_u kR_12 0 4 (some 6)
def shp_8 : List gm_S := [.inr 10, .inl (2, 700), .inr 1, .inl (0, 6), .inl (0, 6), .inl (0, 6), .inr 5, .inr 8]
def kI_13 : mI := va_up kI_12 7 (fun _ => 0)
def kL_8 : mL := va_up kL_7 7 (fun _ => 0)
def kR_14 : Nat → Nat → Option Nat := va_up kR_13 7 (fun _ => none)
def shp_9 : List gm_S := [.inr 10, .inl (2, 700), .inr 1, .inl (0, 6), .inl (0, 6), .inl (0, 6), .inr 5, .inr 8, .inl (0, 40)]
def kI_14 : mI := va_up kI_13 8 (fun _ => 0)
def kL_9 : mL := va_up kL_8 8 (fun _ => 0)
def kR_15 : Nat → Nat → Option Nat := va_up kR_14 8 (fun _ => none)
def kR_16 : Nat → Nat → Option Nat := gm_u kR_15 7 0 (some 8)
def shp_10 : List gm_S := [.inr 10, .inl (2, 700), .inr 1, .inl (0, 6), .inl (0, 6), .inl (0, 6), .inr 5, .inr 8, .inl (0, 40), .inl (0, 40)]
def kI_15 : mI := va_up kI_14 9 (fun _ => 0)
def kL_10 : mL := va_up kL_9 9 (fun _ => 0)
def kR_17 : Nat → Nat → Option Nat := va_up kR_16 9 (fun _ => none)
def kR_18 : Nat → Nat → Option Nat := gm_u kR_17 7 1 (some 9)
def kR_19 : Nat → Nat → Option Nat := gm_u kR_18 0 6 (some 7)
def shp_11 : List gm_S := [.inr 10, .inl (2, 700), .inr 1, .inl (0, 6), .inl (0, 6), .inl (0, 6), .inr 5, .inr 8, .inl (0, 40), .inl (0, 40), .inr 0]
def kI_16 : mI := va_up kI_15 10 (fun _ => 0)
def kL_11 : mL := va_up kL_10 10 (fun _ => 0)
def kR_20 : Nat → Nat → Option Nat := va_up kR_19 10 (fun _ => none)
def kR_21 : Nat → Nat → Option Nat := gm_u kR_20 0 7 (some 10)
def shp_12 : List gm_S := [.inr 10, .inl (2, 700), .inr 1, .inl (0, 6), .inl (0, 6), .inl (0, 6), .inr 5, .inr 8, .inl (0, 40), .inl (0, 40), .inr 0, .inr 3]
def kI_17 : mI := va_up kI_16 11 (fun _ => 0)
def kL_12 : mL := va_up kL_11 11 (fun _ => 0)
def kR_22 : Nat → Nat → Option Nat := va_up kR_21 11 (fun _ => none)
def shp_13 : List gm_S := [.inr 10, .inl (2, 700), .inr 1, .inl (0, 6), .inl (0, 6), .inl (0, 6), .inr 5, .inr 8, .inl (0, 40), .inl (0, 40), .inr 0, .inr 3, .inl (1, 321)]
def kI_18 : mI := va_up kI_17 12 (fun _ => 0)
def kL_13 : mL := va_up kL_12 12 (fun _ => 0)
def kR_23 : Nat → Nat → Option Nat := va_up kR_22 12 (fun _ => none)
def kR_24 : Nat → Nat → Option Nat := gm_u kR_23 11 3 (some 12)
def shp_14 : List gm_S := [.inr 10, .inl (2, 700), .inr 1, .inl (0, 6), .inl (0, 6), .inl (0, 6), .inr 5, .inr 8, .inl (0, 40), .inl (0, 40), .inr 0, .inr 3, .inl (1, 321), .inl (1, 321)]
def kI_19 : mI := va_up kI_18 13 (fun _ => 0)
def kL_14 : mL := va_up kL_13 13 (fun _ => 0)
def kR_25 : Nat → Nat → Option Nat := va_up kR_24 13 (fun _ => none)
def kR_26 : Nat → Nat → Option Nat := gm_u kR_25 11 4 (some 13)
def kR_27 : Nat → Nat → Option Nat := gm_u kR_26 0 10 (some 11)
def shp_15 : List gm_S := [.inr 10, .inl (2, 700), .inr 1, .inl (0, 6), .inl (0, 6), .inl (0, 6), .inr 5, .inr 8, .inl (0, 40), .inl (0, 40), .inr 0, .inr 3, .inl (1, 321), .inl (1, 321), .inl (4, 4)]
def kI_20 : mI := va_up kI_19 14 (fun _ => 0)
def kL_15 : mL := va_up kL_14 14 (fun _ => 0)
def kR_28 : Nat → Nat → Option Nat := va_up kR_27 14 (fun _ => none)
def kR_29 : Nat → Nat → Option Nat := gm_u kR_28 0 11 (some 14)
def shp_16 : List gm_S := [.inr 10, .inl (2, 700), .inr 1, .inl (0, 6), .inl (0, 6), .inl (0, 6), .inr 5, .inr 8, .inl (0, 40), .inl (0, 40), .inr 0, .inr 3, .inl (1, 321), .inl (1, 321), .inl (4, 4), .inl (5, 2)]
def kI_21 : mI := va_up kI_20 15 (fun _ => 0)
def kL_16 : mL := va_up kL_15 15 (fun _ => 0)
def kR_30 : Nat → Nat → Option Nat := va_up kR_29 15 (fun _ => none)
def kR_31 : Nat → Nat → Option Nat := gm_u kR_30 0 12 (some 15)
def shp_17 : List gm_S := [.inr 10, .inl (2, 700), .inr 1, .inl (0, 6), .inl (0, 6), .inl (0, 6), .inr 5, .inr 8, .inl (0, 40), .inl (0, 40), .inr 0, .inr 3, .inl (1, 321), .inl (1, 321), .inl (4, 4), .inl (5, 2), .inr 1]
def kI_22 : mI := va_up kI_21 16 (fun _ => 0)
def kL_17 : mL := va_up kL_16 16 (fun _ => 0)
def kR_32 : Nat → Nat → Option Nat := va_up kR_31 16 (fun _ => none)
def kI_23 : mI := gm_u kI_22 16 0 1
def kI_24 : mI := gm_u kI_23 16 1 100
def shp_18 : List gm_S := [.inr 10, .inl (2, 700), .inr 1, .inl (0, 6), .inl (0, 6), .inl (0, 6), .inr 5, .inr 8, .inl (0, 40), .inl (0, 40), .inr 0, .inr 3, .inl (1, 321), .inl (1, 321), .inl (4, 4), .inl (5, 2), .inr 1, .inl (0, 6)]
def kI_25 : mI := va_up kI_24 17 (fun _ => 0)
def kL_18 : mL := va_up kL_17 17 (fun _ => 0)
def kR_33 : Nat → Nat → Option Nat := va_up kR_32 17 (fun _ => none)
def kR_34 : Nat → Nat → Option Nat := gm_u kR_33 16 6 (some 17)
def shp_19 : List gm_S := [.inr 10, .inl (2, 700), .inr 1, .inl (0, 6), .inl (0, 6), .inl (0, 6), .inr 5, .inr 8, .inl (0, 40), .inl (0, 40), .inr 0, .inr 3, .inl (1, 321), .inl (1, 321), .inl (4, 4), .inl (5, 2), .inr 1, .inl (0, 6), .inl (0, 6)]
def kI_26 : mI := va_up kI_25 18 (fun _ => 0)
def kL_19 : mL := va_up kL_18 18 (fun _ => 0)
def kR_35 : Nat → Nat → Option Nat := va_up kR_34 18 (fun _ => none)
def kR_36 : Nat → Nat → Option Nat := gm_u kR_35 16 7 (some 18)
def shp_20 : List gm_S := [.inr 10, .inl (2, 700), .inr 1, .inl (0, 6), .inl (0, 6), .inl (0, 6), .inr 5, .inr 8, .inl (0, 40), .inl (0, 40), .inr 0, .inr 3, .inl (1, 321), .inl (1, 321), .inl (4, 4), .inl (5, 2), .inr 1, .inl (0, 6), .inl (0, 6), .inl (0, 6)]
def kI_27 : mI := va_up kI_26 19 (fun _ => 0)
def kL_20 : mL := va_up kL_19 19 (fun _ => 0)
def kR_37 : Nat → Nat → Option Nat := va_up kR_36 19 (fun _ => none)
def kR_38 : Nat → Nat → Option Nat := gm_u kR_37 16 8 (some 19)
def kI_28 : mI := gm_u kI_27 16 10 10
def kI_29 : mI := gm_u kI_28 16 11 100
def shp_21 : List gm_S := [.inr 10, .inl (2, 700), .inr 1, .inl (0, 6), .inl (0, 6), .inl (0, 6), .inr 5, .inr 8, .inl (0, 40), .inl (0, 40), .inr 0, .inr 3, .inl (1, 321), .inl (1, 321), .inl (4, 4), .inl (5, 2), .inr 1, .inl (0, 6), .inl (0, 6), .inl (0, 6), .inr 8]
def kI_30 : mI := va_up kI_29 20 (fun _ => 0)
def kL_21 : mL := va_up kL_20 20 (fun _ => 0)
def kR_39 : Nat → Nat → Option Nat := va_up kR_38 20 (fun _ => none)
def shp_22 : List gm_S := [.inr 10, .inl (2, 700), .inr 1, .inl (0, 6), .inl (0, 6), .inl (0, 6), .inr 5, .inr 8, .inl (0, 40), .inl (0, 40), .inr 0, .inr 3, .inl (1, 321), .inl (1, 321), .inl (4, 4), .inl (5, 2), .inr 1, .inl (0, 6), .inl (0, 6), .inl (0, 6), .inr 8, .inl (0, 40)]
def kI_31 : mI := va_up kI_30 21 (fun _ => 0)
def kL_22 : mL := va_up kL_21 21 (fun _ => 0)
def kR_40 : Nat → Nat → Option Nat := va_up kR_39 21 (fun _ => none)
def kR_41 : Nat → Nat → Option Nat := gm_u kR_40 20 0 (some 21)
def shp_23 : List gm_S := [.inr 10, .inl (2, 700), .inr 1, .inl (0, 6), .inl (0, 6), .inl (0, 6), .inr 5, .inr 8, .inl (0, 40), .inl (0, 40), .inr 0, .inr 3, .inl (1, 321), .inl (1, 321), .inl (4, 4), .inl (5, 2), .inr 1, .inl (0, 6), .inl (0, 6), .inl (0, 6), .inr 8, .inl (0, 40), .inl (0, 40)]
def kI_32 : mI := va_up kI_31 22 (fun _ => 0)
def kL_23 : mL := va_up kL_22 22 (fun _ => 0)
def kR_42 : Nat → Nat → Option Nat := va_up kR_41 22 (fun _ => none)
def kR_43 : Nat → Nat → Option Nat := gm_u kR_42 20 1 (some 22)
def shp_24 : List gm_S := [.inr 10, .inl (2, 700), .inr 1, .inl (0, 6), .inl (0, 6), .inl (0, 6), .inr 5, .inr 8, .inl (0, 40), .inl (0, 40), .inr 0, .inr 3, .inl (1, 321), .inl (1, 321), .inl (4, 4), .inl (5, 2), .inr 1, .inl (0, 6), .inl (0, 6), .inl (0, 6), .inr 8, .inl (0, 40), .inl (0, 40), .inr 7]
def kI_33 : mI := va_up kI_32 23 (fun _ => 0)
def kL_24 : mL := va_up kL_23 23 (fun _ => 0)
def kR_44 : Nat → Nat → Option Nat := va_up kR_43 23 (fun _ => none)
def shp_25 : List gm_S := [.inr 10, .inl (2, 700), .inr 1, .inl (0, 6), .inl (0, 6), .inl (0, 6), .inr 5, .inr 8, .inl (0, 40), .inl (0, 40), .inr 0, .inr 3, .inl (1, 321), .inl (1, 321), .inl (4, 4), .inl (5, 2), .inr 1, .inl (0, 6), .inl (0, 6), .inl (0, 6), .inr 8, .inl (0, 40), .inl (0, 40), .inr 7, .inr 4]
def kI_34 : mI := va_up kI_33 24 (fun _ => 0)
def kL_25 : mL := va_up kL_24 24 (fun _ => 0)
def kR_45 : Nat → Nat → Option Nat := va_up kR_44 24 (fun _ => none)
def kR_46 : Nat → Nat → Option Nat := gm_u kR_45 23 2 (some 24)
def shp_26 : List gm_S := [.inr 10, .inl (2, 700), .inr 1, .inl (0, 6), .inl (0, 6), .inl (0, 6), .inr 5, .inr 8, .inl (0, 40), .inl (0, 40), .inr 0, .inr 3, .inl (1, 321), .inl (1, 321), .inl (4, 4), .inl (5, 2), .inr 1, .inl (0, 6), .inl (0, 6), .inl (0, 6), .inr 8, .inl (0, 40), .inl (0, 40), .inr 7, .inr 4, .inl (1, 201)]
def kI_35 : mI := va_up kI_34 25 (fun _ => 0)
def kL_26 : mL := va_up kL_25 25 (fun _ => 0)
def kR_47 : Nat → Nat → Option Nat := va_up kR_46 25 (fun _ => none)
def kR_48 : Nat → Nat → Option Nat := gm_u kR_47 23 3 (some 25)
def shp_27 : List gm_S := [.inr 10, .inl (2, 700), .inr 1, .inl (0, 6), .inl (0, 6), .inl (0, 6), .inr 5, .inr 8, .inl (0, 40), .inl (0, 40), .inr 0, .inr 3, .inl (1, 321), .inl (1, 321), .inl (4, 4), .inl (5, 2), .inr 1, .inl (0, 6), .inl (0, 6), .inl (0, 6), .inr 8, .inl (0, 40), .inl (0, 40), .inr 7, .inr 4, .inl (1, 201), .inl (0, 200)]
def kI_36 : mI := va_up kI_35 26 (fun _ => 0)
def kL_27 : mL := va_up kL_26 26 (fun _ => 0)
def kR_49 : Nat → Nat → Option Nat := va_up kR_48 26 (fun _ => none)
def kR_50 : Nat → Nat → Option Nat := gm_u kR_49 23 4 (some 26)
def shp_28 : List gm_S := [.inr 10, .inl (2, 700), .inr 1, .inl (0, 6), .inl (0, 6), .inl (0, 6), .inr 5, .inr 8, .inl (0, 40), .inl (0, 40), .inr 0, .inr 3, .inl (1, 321), .inl (1, 321), .inl (4, 4), .inl (5, 2), .inr 1, .inl (0, 6), .inl (0, 6), .inl (0, 6), .inr 8, .inl (0, 40), .inl (0, 40), .inr 7, .inr 4, .inl (1, 201), .inl (0, 200), .inl (0, 200)]
def kI_37 : mI := va_up kI_36 27 (fun _ => 0)
def kL_28 : mL := va_up kL_27 27 (fun _ => 0)
def kR_51 : Nat → Nat → Option Nat := va_up kR_50 27 (fun _ => none)
def kR_52 : Nat → Nat → Option Nat := gm_u kR_51 23 5 (some 27)
def shp_29 : List gm_S := [.inr 10, .inl (2, 700), .inr 1, .inl (0, 6), .inl (0, 6), .inl (0, 6), .inr 5, .inr 8, .inl (0, 40), .inl (0, 40), .inr 0, .inr 3, .inl (1, 321), .inl (1, 321), .inl (4, 4), .inl (5, 2), .inr 1, .inl (0, 6), .inl (0, 6), .inl (0, 6), .inr 8, .inl (0, 40), .inl (0, 40), .inr 7, .inr 4, .inl (1, 201), .inl (0, 200), .inl (0, 200), .inl (1, 200)]
def kI_38 : mI := va_up kI_37 28 (fun _ => 0)
def kL_29 : mL := va_up kL_28 28 (fun _ => 0)
def kR_53 : Nat → Nat → Option Nat := va_up kR_52 28 (fun _ => none)
def kR_54 : Nat → Nat → Option Nat := gm_u kR_53 23 6 (some 28)
def kR_55 : Nat → Nat → Option Nat := gm_u kR_54 23 0 (some 16)
def kR_56 : Nat → Nat → Option Nat := gm_u kR_55 23 1 (some 20)
def kR_57 : Nat → Nat → Option Nat := gm_u kR_56 0 2 (some 16)
def kR_58 : Nat → Nat → Option Nat := gm_u kR_57 0 5 (some 20)
def kR_59 : Nat → Nat → Option Nat := gm_u kR_58 0 8 (some 23)
def shp_30 : List gm_S := [.inr 10, .inl (2, 700), .inr 1, .inl (0, 6), .inl (0, 6), .inl (0, 6), .inr 5, .inr 8, .inl (0, 40), .inl (0, 40), .inr 0, .inr 3, .inl (1, 321), .inl (1, 321), .inl (4, 4), .inl (5, 2), .inr 1, .inl (0, 6), .inl (0, 6), .inl (0, 6), .inr 8, .inl (0, 40), .inl (0, 40), .inr 7, .inr 4, .inl (1, 201), .inl (0, 200), .inl (0, 200), .inl (1, 200), .inr 9]
def kI_39 : mI := va_up kI_38 29 (fun _ => 0)
def kL_30 : mL := va_up kL_29 29 (fun _ => 0)
def kR_60 : Nat → Nat → Option Nat := va_up kR_59 29 (fun _ => none)
def shp_31 : List gm_S := [.inr 10, .inl (2, 700), .inr 1, .inl (0, 6), .inl (0, 6), .inl (0, 6), .inr 5, .inr 8, .inl (0, 40), .inl (0, 40), .inr 0, .inr 3, .inl (1, 321), .inl (1, 321), .inl (4, 4), .inl (5, 2), .inr 1, .inl (0, 6), .inl (0, 6), .inl (0, 6), .inr 8, .inl (0, 40), .inl (0, 40), .inr 7, .inr 4, .inl (1, 201), .inl (0, 200), .inl (0, 200), .inl (1, 200), .inr 9, .inl (0, 3)]
def kI_40 : mI := va_up kI_39 30 (fun _ => 0)
def kL_31 : mL := va_up kL_30 30 (fun _ => 0)
def kR_61 : Nat → Nat → Option Nat := va_up kR_60 30 (fun _ => none)
def kR_62 : Nat → Nat → Option Nat := gm_u kR_61 29 0 (some 30)
def shp_32 : List gm_S := [.inr 10, .inl (2, 700), .inr 1, .inl (0, 6), .inl (0, 6), .inl (0, 6), .inr 5, .inr 8, .inl (0, 40), .inl (0, 40), .inr 0, .inr 3, .inl (1, 321), .inl (1, 321), .inl (4, 4), .inl (5, 2), .inr 1, .inl (0, 6), .inl (0, 6), .inl (0, 6), .inr 8, .inl (0, 40), .inl (0, 40), .inr 7, .inr 4, .inl (1, 201), .inl (0, 200), .inl (0, 200), .inl (1, 200), .inr 9, .inl (0, 3), .inl (6, 3)]
def shp_33 : List gm_S := [.inr 10, .inl (2, 700), .inr 1, .inl (0, 6), .inl (0, 6), .inl (0, 6), .inr 5, .inr 8, .inl (0, 40), .inl (0, 40), .inr 0, .inr 3, .inl (1, 321), .inl (1, 321), .inl (4, 4), .inl (5, 2), .inr 1, .inl (0, 6), .inl (0, 6), .inl (0, 6), .inr 8, .inl (0, 40), .inl (0, 40), .inr 7, .inr 4, .inl (1, 201), .inl (0, 200), .inl (0, 200), .inl (1, 200), .inr 9, .inl (0, 3), .inl (6, 3), .inl (0, 3)]
def shp_34 : List gm_S := [.inr 10, .inl (2, 700), .inr 1, .inl (0, 6), .inl (0, 6), .inl (0, 6), .inr 5, .inr 8, .inl (0, 40), .inl (0, 40), .inr 0, .inr 3, .inl (1, 321), .inl (1, 321), .inl (4, 4), .inl (5, 2), .inr 1, .inl (0, 6), .inl (0, 6), .inl (0, 6), .inr 8, .inl (0, 40), .inl (0, 40), .inr 7, .inr 4, .inl (1, 201), .inl (0, 200), .inl (0, 200), .inl (1, 200), .inr 9, .inl (0, 3), .inl (6, 3), .inl (0, 3), .inl (0, 3)]
def shp_35 : List gm_S := [.inr 10, .inl (2, 700), .inr 1, .inl (0, 6), .inl (0, 6), .inl (0, 6), .inr 5, .inr 8, .inl (0, 40), .inl (0, 40), .inr 0, .inr 3, .inl (1, 321), .inl (1, 321), .inl (4, 4), .inl (5, 2), .inr 1, .inl (0, 6), .inl (0, 6), .inl (0, 6), .inr 8, .inl (0, 40), .inl (0, 40), .inr 7, .inr 4, .inl (1, 201), .inl (0, 200), .inl (0, 200), .inl (1, 200), .inr 9, .inl (0, 3), .inl (6, 3), .inl (0, 3), .inl (0, 3), .inl (0, 3)]
def kI_41 : mI := va_up (va_up (va_up (va_up kI_40 31 (fun _ => 0)) 32 (fun _ => 0)) 33 (fun _ => 0)) 34 (fun _ => 0)
def kL_32 : mL := va_up (va_up (va_up (va_up kL_31 31 (fun _ => 0)) 32 (fun _ => 0)) 33 (fun _ => 0)) 34 (fun _ => 0)
def kR_63 : Nat → Nat → Option Nat := va_up (va_up (va_up (va_up kR_62 31 (fun k => if k < 3 then some (31 + 1 + k) else none)) 32 (fun _ => none)) 33 (fun _ => none)) 34 (fun _ => none)
def kR_64 : Nat → Nat → Option Nat := gm_u kR_63 29 1 (some 31)
def kR_65 : Nat → Nat → Option Nat := gm_u kR_64 29 2 (some 23)
def kR_66 : Nat → Nat → Option Nat := gm_u kR_65 0 9 (some 29)
def shp_36 : List gm_S := [.inr 10, .inl (2, 700), .inr 1, .inl (0, 6), .inl (0, 6), .inl (0, 6), .inr 5, .inr 8, .inl (0, 40), .inl (0, 40), .inr 0, .inr 3, .inl (1, 321), .inl (1, 321), .inl (4, 4), .inl (5, 2), .inr 1, .inl (0, 6), .inl (0, 6), .inl (0, 6), .inr 8, .inl (0, 40), .inl (0, 40), .inr 7, .inr 4, .inl (1, 201), .inl (0, 200), .inl (0, 200), .inl (1, 200), .inr 9, .inl (0, 3), .inl (6, 3), .inl (0, 3), .inl (0, 3), .inl (0, 3), .inr 6]
def kI_42 : mI := va_up kI_41 35 (fun _ => 0)
def kL_33 : mL := va_up kL_32 35 (fun _ => 0)
def kR_67 : Nat → Nat → Option Nat := va_up kR_66 35 (fun _ => none)
def shp_37 : List gm_S := [.inr 10, .inl (2, 700), .inr 1, .inl (0, 6), .inl (0, 6), .inl (0, 6), .inr 5, .inr 8, .inl (0, 40), .inl (0, 40), .inr 0, .inr 3, .inl (1, 321), .inl (1, 321), .inl (4, 4), .inl (5, 2), .inr 1, .inl (0, 6), .inl (0, 6), .inl (0, 6), .inr 8, .inl (0, 40), .inl (0, 40), .inr 7, .inr 4, .inl (1, 201), .inl (0, 200), .inl (0, 200), .inl (1, 200), .inr 9, .inl (0, 3), .inl (6, 3), .inl (0, 3), .inl (0, 3), .inl (0, 3), .inr 6, .inl (1, 40)]
def kI_43 : mI := va_up kI_42 36 (fun _ => 0)
def kL_34 : mL := va_up kL_33 36 (fun _ => 0)
def kR_68 : Nat → Nat → Option Nat := va_up kR_67 36 (fun _ => none)
def kR_69 : Nat → Nat → Option Nat := gm_u kR_68 35 0 (some 36)
def kI_44 : mI := gm_u kI_43 35 1 (-1)
def kR_70 : Nat → Nat → Option Nat := gm_u kR_69 14 0 (some 35)
def shp_38 : List gm_S := [.inr 10, .inl (2, 700), .inr 1, .inl (0, 6), .inl (0, 6), .inl (0, 6), .inr 5, .inr 8, .inl (0, 40), .inl (0, 40), .inr 0, .inr 3, .inl (1, 321), .inl (1, 321), .inl (4, 4), .inl (5, 2), .inr 1, .inl (0, 6), .inl (0, 6), .inl (0, 6), .inr 8, .inl (0, 40), .inl (0, 40), .inr 7, .inr 4, .inl (1, 201), .inl (0, 200), .inl (0, 200), .inl (1, 200), .inr 9, .inl (0, 3), .inl (6, 3), .inl (0, 3), .inl (0, 3), .inl (0, 3), .inr 6, .inl (1, 40), .inr 6]
def kI_45 : mI := va_up kI_44 37 (fun _ => 0)
def kL_35 : mL := va_up kL_34 37 (fun _ => 0)
def kR_71 : Nat → Nat → Option Nat := va_up kR_70 37 (fun _ => none)
def shp_39 : List gm_S := [.inr 10, .inl (2, 700), .inr 1, .inl (0, 6), .inl (0, 6), .inl (0, 6), .inr 5, .inr 8, .inl (0, 40), .inl (0, 40), .inr 0, .inr 3, .inl (1, 321), .inl (1, 321), .inl (4, 4), .inl (5, 2), .inr 1, .inl (0, 6), .inl (0, 6), .inl (0, 6), .inr 8, .inl (0, 40), .inl (0, 40), .inr 7, .inr 4, .inl (1, 201), .inl (0, 200), .inl (0, 200), .inl (1, 200), .inr 9, .inl (0, 3), .inl (6, 3), .inl (0, 3), .inl (0, 3), .inl (0, 3), .inr 6, .inl (1, 40), .inr 6, .inl (1, 40)]
def kI_46 : mI := va_up kI_45 38 (fun _ => 0)
def kL_36 : mL := va_up kL_35 38 (fun _ => 0)
def kR_72 : Nat → Nat → Option Nat := va_up kR_71 38 (fun _ => none)
def kR_73 : Nat → Nat → Option Nat := gm_u kR_72 37 0 (some 38)
def kI_47 : mI := gm_u kI_46 37 1 (-1)
def kR_74 : Nat → Nat → Option Nat := gm_u kR_73 14 1 (some 37)
def shp_40 : List gm_S := [.inr 10, .inl (2, 700), .inr 1, .inl (0, 6), .inl (0, 6), .inl (0, 6), .inr 5, .inr 8, .inl (0, 40), .inl (0, 40), .inr 0, .inr 3, .inl (1, 321), .inl (1, 321), .inl (4, 4), .inl (5, 2), .inr 1, .inl (0, 6), .inl (0, 6), .inl (0, 6), .inr 8, .inl (0, 40), .inl (0, 40), .inr 7, .inr 4, .inl (1, 201), .inl (0, 200), .inl (0, 200), .inl (1, 200), .inr 9, .inl (0, 3), .inl (6, 3), .inl (0, 3), .inl (0, 3), .inl (0, 3), .inr 6, .inl (1, 40), .inr 6, .inl (1, 40), .inr 6]
def kI_48 : mI := va_up kI_47 39 (fun _ => 0)
def kL_37 : mL := va_up kL_36 39 (fun _ => 0)
def kR_75 : Nat → Nat → Option Nat := va_up kR_74 39 (fun _ => none)
def shp_41 : List gm_S := [.inr 10, .inl (2, 700), .inr 1, .inl (0, 6), .inl (0, 6), .inl (0, 6), .inr 5, .inr 8, .inl (0, 40), .inl (0, 40), .inr 0, .inr 3, .inl (1, 321), .inl (1, 321), .inl (4, 4), .inl (5, 2), .inr 1, .inl (0, 6), .inl (0, 6), .inl (0, 6), .inr 8, .inl (0, 40), .inl (0, 40), .inr 7, .inr 4, .inl (1, 201), .inl (0, 200), .inl (0, 200), .inl (1, 200), .inr 9, .inl (0, 3), .inl (6, 3), .inl (0, 3), .inl (0, 3), .inl (0, 3), .inr 6, .inl (1, 40), .inr 6, .inl (1, 40), .inr 6, .inl (1, 40)]
def kI_49 : mI := va_up kI_48 40 (fun _ => 0)
def kL_38 : mL := va_up kL_37 40 (fun _ => 0)
def kR_76 : Nat → Nat → Option Nat := va_up kR_75 40 (fun _ => none)
def kR_77 : Nat → Nat → Option Nat := gm_u kR_76 39 0 (some 40)
def kI_50 : mI := gm_u kI_49 39 1 (-1)
def kR_78 : Nat → Nat → Option Nat := gm_u kR_77 14 2 (some 39)
def shp_42 : List gm_S := [.inr 10, .inl (2, 700), .inr 1, .inl (0, 6), .inl (0, 6), .inl (0, 6), .inr 5, .inr 8, .inl (0, 40), .inl (0, 40), .inr 0, .inr 3, .inl (1, 321), .inl (1, 321), .inl (4, 4), .inl (5, 2), .inr 1, .inl (0, 6), .inl (0, 6), .inl (0, 6), .inr 8, .inl (0, 40), .inl (0, 40), .inr 7, .inr 4, .inl (1, 201), .inl (0, 200), .inl (0, 200), .inl (1, 200), .inr 9, .inl (0, 3), .inl (6, 3), .inl (0, 3), .inl (0, 3), .inl (0, 3), .inr 6, .inl (1, 40), .inr 6, .inl (1, 40), .inr 6, .inl (1, 40), .inr 6]
def kI_51 : mI := va_up kI_50 41 (fun _ => 0)
def kL_39 : mL := va_up kL_38 41 (fun _ => 0)
def kR_79 : Nat → Nat → Option Nat := va_up kR_78 41 (fun _ => none)
def shp_43 : List gm_S := [.inr 10, .inl (2, 700), .inr 1, .inl (0, 6), .inl (0, 6), .inl (0, 6), .inr 5, .inr 8, .inl (0, 40), .inl (0, 40), .inr 0, .inr 3, .inl (1, 321), .inl (1, 321), .inl (4, 4), .inl (5, 2), .inr 1, .inl (0, 6), .inl (0, 6), .inl (0, 6), .inr 8, .inl (0, 40), .inl (0, 40), .inr 7, .inr 4, .inl (1, 201), .inl (0, 200), .inl (0, 200), .inl (1, 200), .inr 9, .inl (0, 3), .inl (6, 3), .inl (0, 3), .inl (0, 3), .inl (0, 3), .inr 6, .inl (1, 40), .inr 6, .inl (1, 40), .inr 6, .inl (1, 40), .inr 6, .inl (1, 40)]
def kI_52 : mI := va_up kI_51 42 (fun _ => 0)
def kL_40 : mL := va_up kL_39 42 (fun _ => 0)
def kR_80 : Nat → Nat → Option Nat := va_up kR_79 42 (fun _ => none)
def kR_81 : Nat → Nat → Option Nat := gm_u kR_80 41 0 (some 42)
def kI_53 : mI := gm_u kI_52 41 1 (-1)
def kR_82 : Nat → Nat → Option Nat := gm_u kR_81 14 3 (some 41)
def shp_44 : List gm_S := [.inr 10, .inl (2, 700), .inr 1, .inl (0, 6), .inl (0, 6), .inl (0, 6), .inr 5, .inr 8, .inl (0, 40), .inl (0, 40), .inr 0, .inr 3, .inl (1, 321), .inl (1, 321), .inl (4, 4), .inl (5, 2), .inr 1, .inl (0, 6), .inl (0, 6), .inl (0, 6), .inr 8, .inl (0, 40), .inl (0, 40), .inr 7, .inr 4, .inl (1, 201), .inl (0, 200), .inl (0, 200), .inl (1, 200), .inr 9, .inl (0, 3), .inl (6, 3), .inl (0, 3), .inl (0, 3), .inl (0, 3), .inr 6, .inl (1, 40), .inr 6, .inl (1, 40), .inr 6, .inl (1, 40), .inr 6, .inl (1, 40), .inr 2]
def kI_54 : mI := va_up kI_53 43 (fun _ => 0)
def kL_41 : mL := va_up kL_40 43 (fun _ => 0)
def kR_83 : Nat → Nat → Option Nat := va_up kR_82 43 (fun _ => none)
def shp_45 : List gm_S := [.inr 10, .inl (2, 700), .inr 1, .inl (0, 6), .inl (0, 6), .inl (0, 6), .inr 5, .inr 8, .inl (0, 40), .inl (0, 40), .inr 0, .inr 3, .inl (1, 321), .inl (1, 321), .inl (4, 4), .inl (5, 2), .inr 1, .inl (0, 6), .inl (0, 6), .inl (0, 6), .inr 8, .inl (0, 40), .inl (0, 40), .inr 7, .inr 4, .inl (1, 201), .inl (0, 200), .inl (0, 200), .inl (1, 200), .inr 9, .inl (0, 3), .inl (6, 3), .inl (0, 3), .inl (0, 3), .inl (0, 3), .inr 6, .inl (1, 40), .inr 6, .inl (1, 40), .inr 6, .inl (1, 40), .inr 6, .inl (1, 40), .inr 2, .inr 1]
def kI_55 : mI := va_up kI_54 44 (fun _ => 0)
def kL_42 : mL := va_up kL_41 44 (fun _ => 0)
def kR_84 : Nat → Nat → Option Nat := va_up kR_83 44 (fun _ => none)
def kI_56 : mI := gm_u kI_55 44 0 1
def kI_57 : mI := gm_u kI_56 44 1 100
def shp_46 : List gm_S := [.inr 10, .inl (2, 700), .inr 1, .inl (0, 6), .inl (0, 6), .inl (0, 6), .inr 5, .inr 8, .inl (0, 40), .inl (0, 40), .inr 0, .inr 3, .inl (1, 321), .inl (1, 321), .inl (4, 4), .inl (5, 2), .inr 1, .inl (0, 6), .inl (0, 6), .inl (0, 6), .inr 8, .inl (0, 40), .inl (0, 40), .inr 7, .inr 4, .inl (1, 201), .inl (0, 200), .inl (0, 200), .inl (1, 200), .inr 9, .inl (0, 3), .inl (6, 3), .inl (0, 3), .inl (0, 3), .inl (0, 3), .inr 6, .inl (1, 40), .inr 6, .inl (1, 40), .inr 6, .inl (1, 40), .inr 6, .inl (1, 40), .inr 2, .inr 1, .inl (0, 6)]
def kI_58 : mI := va_up kI_57 45 (fun _ => 0)
def kL_43 : mL := va_up kL_42 45 (fun _ => 0)
def kR_85 : Nat → Nat → Option Nat := va_up kR_84 45 (fun _ => none)
def kR_86 : Nat → Nat → Option Nat := gm_u kR_85 44 6 (some 45)
def shp_47 : List gm_S := [.inr 10, .inl (2, 700), .inr 1, .inl (0, 6), .inl (0, 6), .inl (0, 6), .inr 5, .inr 8, .inl (0, 40), .inl (0, 40), .inr 0, .inr 3, .inl (1, 321), .inl (1, 321), .inl (4, 4), .inl (5, 2), .inr 1, .inl (0, 6), .inl (0, 6), .inl (0, 6), .inr 8, .inl (0, 40), .inl (0, 40), .inr 7, .inr 4, .inl (1, 201), .inl (0, 200), .inl (0, 200), .inl (1, 200), .inr 9, .inl (0, 3), .inl (6, 3), .inl (0, 3), .inl (0, 3), .inl (0, 3), .inr 6, .inl (1, 40), .inr 6, .inl (1, 40), .inr 6, .inl (1, 40), .inr 6, .inl (1, 40), .inr 2, .inr 1, .inl (0, 6), .inl (0, 6)]
def kI_59 : mI := va_up kI_58 46 (fun _ => 0)
def kL_44 : mL := va_up kL_43 46 (fun _ => 0)
def kR_87 : Nat → Nat → Option Nat := va_up kR_86 46 (fun _ => none)
def kR_88 : Nat → Nat → Option Nat := gm_u kR_87 44 7 (some 46)
def shp_48 : List gm_S := [.inr 10, .inl (2, 700), .inr 1, .inl (0, 6), .inl (0, 6), .inl (0, 6), .inr 5, .inr 8, .inl (0, 40), .inl (0, 40), .inr 0, .inr 3, .inl (1, 321), .inl (1, 321), .inl (4, 4), .inl (5, 2), .inr 1, .inl (0, 6), .inl (0, 6), .inl (0, 6), .inr 8, .inl (0, 40), .inl (0, 40), .inr 7, .inr 4, .inl (1, 201), .inl (0, 200), .inl (0, 200), .inl (1, 200), .inr 9, .inl (0, 3), .inl (6, 3), .inl (0, 3), .inl (0, 3), .inl (0, 3), .inr 6, .inl (1, 40), .inr 6, .inl (1, 40), .inr 6, .inl (1, 40), .inr 6, .inl (1, 40), .inr 2, .inr 1, .inl (0, 6), .inl (0, 6), .inl (0, 6)]
def kI_60 : mI := va_up kI_59 47 (fun _ => 0)
def kL_45 : mL := va_up kL_44 47 (fun _ => 0)
def kR_89 : Nat → Nat → Option Nat := va_up kR_88 47 (fun _ => none)
def kR_90 : Nat → Nat → Option Nat := gm_u kR_89 44 8 (some 47)
def kI_61 : mI := gm_u kI_60 44 10 10
def kI_62 : mI := gm_u kI_61 44 11 100
def kR_91 : Nat → Nat → Option Nat := gm_u kR_90 43 0 (some 44)
def shp_49 : List gm_S := [.inr 10, .inl (2, 700), .inr 1, .inl (0, 6), .inl (0, 6), .inl (0, 6), .inr 5, .inr 8, .inl (0, 40), .inl (0, 40), .inr 0, .inr 3, .inl (1, 321), .inl (1, 321), .inl (4, 4), .inl (5, 2), .inr 1, .inl (0, 6), .inl (0, 6), .inl (0, 6), .inr 8, .inl (0, 40), .inl (0, 40), .inr 7, .inr 4, .inl (1, 201), .inl (0, 200), .inl (0, 200), .inl (1, 200), .inr 9, .inl (0, 3), .inl (6, 3), .inl (0, 3), .inl (0, 3), .inl (0, 3), .inr 6, .inl (1, 40), .inr 6, .inl (1, 40), .inr 6, .inl (1, 40), .inr 6, .inl (1, 40), .inr 2, .inr 1, .inl (0, 6), .inl (0, 6), .inl (0, 6), .inr 8]
def kI_63 : mI := va_up kI_62 48 (fun _ => 0)
def kL_46 : mL := va_up kL_45 48 (fun _ => 0)
def kR_92 : Nat → Nat → Option Nat := va_up kR_91 48 (fun _ => none)
def shp_50 : List gm_S := [.inr 10, .inl (2, 700), .inr 1, .inl (0, 6), .inl (0, 6), .inl (0, 6), .inr 5, .inr 8, .inl (0, 40), .inl (0, 40), .inr 0, .inr 3, .inl (1, 321), .inl (1, 321), .inl (4, 4), .inl (5, 2), .inr 1, .inl (0, 6), .inl (0, 6), .inl (0, 6), .inr 8, .inl (0, 40), .inl (0, 40), .inr 7, .inr 4, .inl (1, 201), .inl (0, 200), .inl (0, 200), .inl (1, 200), .inr 9, .inl (0, 3), .inl (6, 3), .inl (0, 3), .inl (0, 3), .inl (0, 3), .inr 6, .inl (1, 40), .inr 6, .inl (1, 40), .inr 6, .inl (1, 40), .inr 6, .inl (1, 40), .inr 2, .inr 1, .inl (0, 6), .inl (0, 6), .inl (0, 6), .inr 8, .inl (0, 40)]
def kI_64 : mI := va_up kI_63 49 (fun _ => 0)
def kL_47 : mL := va_up kL_46 49 (fun _ => 0)
def kR_93 : Nat → Nat → Option Nat := va_up kR_92 49 (fun _ => none)
def kR_94 : Nat → Nat → Option Nat := gm_u kR_93 48 0 (some 49)
def shp_51 : List gm_S := [.inr 10, .inl (2, 700), .inr 1, .inl (0, 6), .inl (0, 6), .inl (0, 6), .inr 5, .inr 8, .inl (0, 40), .inl (0, 40), .inr 0, .inr 3, .inl (1, 321), .inl (1, 321), .inl (4, 4), .inl (5, 2), .inr 1, .inl (0, 6), .inl (0, 6), .inl (0, 6), .inr 8, .inl (0, 40), .inl (0, 40), .inr 7, .inr 4, .inl (1, 201), .inl (0, 200), .inl (0, 200), .inl (1, 200), .inr 9, .inl (0, 3), .inl (6, 3), .inl (0, 3), .inl (0, 3), .inl (0, 3), .inr 6, .inl (1, 40), .inr 6, .inl (1, 40), .inr 6, .inl (1, 40), .inr 6, .inl (1, 40), .inr 2, .inr 1, .inl (0, 6), .inl (0, 6), .inl (0, 6), .inr 8, .inl (0, 40), .inl (0, 40)]
def kI_65 : mI := va_up kI_64 50 (fun _ => 0)
def kL_48 : mL := va_up kL_47 50 (fun _ => 0)
def kR_95 : Nat → Nat → Option Nat := va_up kR_94 50 (fun _ => none)
def kR_96 : Nat → Nat → Option Nat := gm_u kR_95 48 1 (some 50)
def kR_97 : Nat → Nat → Option Nat := gm_u kR_96 43 1 (some 48)
def kR_98 : Nat → Nat → Option Nat := gm_u kR_97 15 0 (some 43)
def shp_52 : List gm_S := [.inr 10, .inl (2, 700), .inr 1, .inl (0, 6), .inl (0, 6), .inl (0, 6), .inr 5, .inr 8, .inl (0, 40), .inl (0, 40), .inr 0, .inr 3, .inl (1, 321), .inl (1, 321), .inl (4, 4), .inl (5, 2), .inr 1, .inl (0, 6), .inl (0, 6), .inl (0, 6), .inr 8, .inl (0, 40), .inl (0, 40), .inr 7, .inr 4, .inl (1, 201), .inl (0, 200), .inl (0, 200), .inl (1, 200), .inr 9, .inl (0, 3), .inl (6, 3), .inl (0, 3), .inl (0, 3), .inl (0, 3), .inr 6, .inl (1, 40), .inr 6, .inl (1, 40), .inr 6, .inl (1, 40), .inr 6, .inl (1, 40), .inr 2, .inr 1, .inl (0, 6), .inl (0, 6), .inl (0, 6), .inr 8, .inl (0, 40), .inl (0, 40), .inr 2]
def kI_66 : mI := va_up kI_65 51 (fun _ => 0)
def kL_49 : mL := va_up kL_48 51 (fun _ => 0)
def kR_99 : Nat → Nat → Option Nat := va_up kR_98 51 (fun _ => none)
def shp_53 : List gm_S := [.inr 10, .inl (2, 700), .inr 1, .inl (0, 6), .inl (0, 6), .inl (0, 6), .inr 5, .inr 8, .inl (0, 40), .inl (0, 40), .inr 0, .inr 3, .inl (1, 321), .inl (1, 321), .inl (4, 4), .inl (5, 2), .inr 1, .inl (0, 6), .inl (0, 6), .inl (0, 6), .inr 8, .inl (0, 40), .inl (0, 40), .inr 7, .inr 4, .inl (1, 201), .inl (0, 200), .inl (0, 200), .inl (1, 200), .inr 9, .inl (0, 3), .inl (6, 3), .inl (0, 3), .inl (0, 3), .inl (0, 3), .inr 6, .inl (1, 40), .inr 6, .inl (1, 40), .inr 6, .inl (1, 40), .inr 6, .inl (1, 40), .inr 2, .inr 1, .inl (0, 6), .inl (0, 6), .inl (0, 6), .inr 8, .inl (0, 40), .inl (0, 40), .inr 2, .inr 1]
def kI_67 : mI := va_up kI_66 52 (fun _ => 0)
def kL_50 : mL := va_up kL_49 52 (fun _ => 0)
def kR_100 : Nat → Nat → Option Nat := va_up kR_99 52 (fun _ => none)
def kI_68 : mI := gm_u kI_67 52 0 1
def kI_69 : mI := gm_u kI_68 52 1 100
def shp_54 : List gm_S := [.inr 10, .inl (2, 700), .inr 1, .inl (0, 6), .inl (0, 6), .inl (0, 6), .inr 5, .inr 8, .inl (0, 40), .inl (0, 40), .inr 0, .inr 3, .inl (1, 321), .inl (1, 321), .inl (4, 4), .inl (5, 2), .inr 1, .inl (0, 6), .inl (0, 6), .inl (0, 6), .inr 8, .inl (0, 40), .inl (0, 40), .inr 7, .inr 4, .inl (1, 201), .inl (0, 200), .inl (0, 200), .inl (1, 200), .inr 9, .inl (0, 3), .inl (6, 3), .inl (0, 3), .inl (0, 3), .inl (0, 3), .inr 6, .inl (1, 40), .inr 6, .inl (1, 40), .inr 6, .inl (1, 40), .inr 6, .inl (1, 40), .inr 2, .inr 1, .inl (0, 6), .inl (0, 6), .inl (0, 6), .inr 8, .inl (0, 40), .inl (0, 40), .inr 2, .inr 1, .inl (0, 6)]
def kI_70 : mI := va_up kI_69 53 (fun _ => 0)
def kL_51 : mL := va_up kL_50 53 (fun _ => 0)
def kR_101 : Nat → Nat → Option Nat := va_up kR_100 53 (fun _ => none)
def kR_102 : Nat → Nat → Option Nat := gm_u kR_101 52 6 (some 53)
def shp_55 : List gm_S := [.inr 10, .inl (2, 700), .inr 1, .inl (0, 6), .inl (0, 6), .inl (0, 6), .inr 5, .inr 8, .inl (0, 40), .inl (0, 40), .inr 0, .inr 3, .inl (1, 321), .inl (1, 321), .inl (4, 4), .inl (5, 2), .inr 1, .inl (0, 6), .inl (0, 6), .inl (0, 6), .inr 8, .inl (0, 40), .inl (0, 40), .inr 7, .inr 4, .inl (1, 201), .inl (0, 200), .inl (0, 200), .inl (1, 200), .inr 9, .inl (0, 3), .inl (6, 3), .inl (0, 3), .inl (0, 3), .inl (0, 3), .inr 6, .inl (1, 40), .inr 6, .inl (1, 40), .inr 6, .inl (1, 40), .inr 6, .inl (1, 40), .inr 2, .inr 1, .inl (0, 6), .inl (0, 6), .inl (0, 6), .inr 8, .inl (0, 40), .inl (0, 40), .inr 2, .inr 1, .inl (0, 6), .inl (0, 6)]
def kI_71 : mI := va_up kI_70 54 (fun _ => 0)
def kL_52 : mL := va_up kL_51 54 (fun _ => 0)
def kR_103 : Nat → Nat → Option Nat := va_up kR_102 54 (fun _ => none)
def kR_104 : Nat → Nat → Option Nat := gm_u kR_103 52 7 (some 54)
def shp_56 : List gm_S := [.inr 10, .inl (2, 700), .inr 1, .inl (0, 6), .inl (0, 6), .inl (0, 6), .inr 5, .inr 8, .inl (0, 40), .inl (0, 40), .inr 0, .inr 3, .inl (1, 321), .inl (1, 321), .inl (4, 4), .inl (5, 2), .inr 1, .inl (0, 6), .inl (0, 6), .inl (0, 6), .inr 8, .inl (0, 40), .inl (0, 40), .inr 7, .inr 4, .inl (1, 201), .inl (0, 200), .inl (0, 200), .inl (1, 200), .inr 9, .inl (0, 3), .inl (6, 3), .inl (0, 3), .inl (0, 3), .inl (0, 3), .inr 6, .inl (1, 40), .inr 6, .inl (1, 40), .inr 6, .inl (1, 40), .inr 6, .inl (1, 40), .inr 2, .inr 1, .inl (0, 6), .inl (0, 6), .inl (0, 6), .inr 8, .inl (0, 40), .inl (0, 40), .inr 2, .inr 1, .inl (0, 6), .inl (0, 6), .inl (0, 6)]
def kI_72 : mI := va_up kI_71 55 (fun _ => 0)
def kL_53 : mL := va_up kL_52 55 (fun _ => 0)
def kR_105 : Nat → Nat → Option Nat := va_up kR_104 55 (fun _ => none)
def kR_106 : Nat → Nat → Option Nat := gm_u kR_105 52 8 (some 55)
def kI_73 : mI := gm_u kI_72 52 10 10
def kI_74 : mI := gm_u kI_73 52 11 100
def kR_107 : Nat → Nat → Option Nat := gm_u kR_106 51 0 (some 52)
def shp_57 : List gm_S := [.inr 10, .inl (2, 700), .inr 1, .inl (0, 6), .inl (0, 6), .inl (0, 6), .inr 5, .inr 8, .inl (0, 40), .inl (0, 40), .inr 0, .inr 3, .inl (1, 321), .inl (1, 321), .inl (4, 4), .inl (5, 2), .inr 1, .inl (0, 6), .inl (0, 6), .inl (0, 6), .inr 8, .inl (0, 40), .inl (0, 40), .inr 7, .inr 4, .inl (1, 201), .inl (0, 200), .inl (0, 200), .inl (1, 200), .inr 9, .inl (0, 3), .inl (6, 3), .inl (0, 3), .inl (0, 3), .inl (0, 3), .inr 6, .inl (1, 40), .inr 6, .inl (1, 40), .inr 6, .inl (1, 40), .inr 6, .inl (1, 40), .inr 2, .inr 1, .inl (0, 6), .inl (0, 6), .inl (0, 6), .inr 8, .inl (0, 40), .inl (0, 40), .inr 2, .inr 1, .inl (0, 6), .inl (0, 6), .inl (0, 6), .inr 8]
def kI_75 : mI := va_up kI_74 56 (fun _ => 0)
def kL_54 : mL := va_up kL_53 56 (fun _ => 0)
def kR_108 : Nat → Nat → Option Nat := va_up kR_107 56 (fun _ => none)
def shp_58 : List gm_S := [.inr 10, .inl (2, 700), .inr 1, .inl (0, 6), .inl (0, 6), .inl (0, 6), .inr 5, .inr 8, .inl (0, 40), .inl (0, 40), .inr 0, .inr 3, .inl (1, 321), .inl (1, 321), .inl (4, 4), .inl (5, 2), .inr 1, .inl (0, 6), .inl (0, 6), .inl (0, 6), .inr 8, .inl (0, 40), .inl (0, 40), .inr 7, .inr 4, .inl (1, 201), .inl (0, 200), .inl (0, 200), .inl (1, 200), .inr 9, .inl (0, 3), .inl (6, 3), .inl (0, 3), .inl (0, 3), .inl (0, 3), .inr 6, .inl (1, 40), .inr 6, .inl (1, 40), .inr 6, .inl (1, 40), .inr 6, .inl (1, 40), .inr 2, .inr 1, .inl (0, 6), .inl (0, 6), .inl (0, 6), .inr 8, .inl (0, 40), .inl (0, 40), .inr 2, .inr 1, .inl (0, 6), .inl (0, 6), .inl (0, 6), .inr 8, .inl (0, 40)]
def kI_76 : mI := va_up kI_75 57 (fun _ => 0)
def kL_55 : mL := va_up kL_54 57 (fun _ => 0)
def kR_109 : Nat → Nat → Option Nat := va_up kR_108 57 (fun _ => none)
def kR_110 : Nat → Nat → Option Nat := gm_u kR_109 56 0 (some 57)
def shp_59 : List gm_S := [.inr 10, .inl (2, 700), .inr 1, .inl (0, 6), .inl (0, 6), .inl (0, 6), .inr 5, .inr 8, .inl (0, 40), .inl (0, 40), .inr 0, .inr 3, .inl (1, 321), .inl (1, 321), .inl (4, 4), .inl (5, 2), .inr 1, .inl (0, 6), .inl (0, 6), .inl (0, 6), .inr 8, .inl (0, 40), .inl (0, 40), .inr 7, .inr 4, .inl (1, 201), .inl (0, 200), .inl (0, 200), .inl (1, 200), .inr 9, .inl (0, 3), .inl (6, 3), .inl (0, 3), .inl (0, 3), .inl (0, 3), .inr 6, .inl (1, 40), .inr 6, .inl (1, 40), .inr 6, .inl (1, 40), .inr 6, .inl (1, 40), .inr 2, .inr 1, .inl (0, 6), .inl (0, 6), .inl (0, 6), .inr 8, .inl (0, 40), .inl (0, 40), .inr 2, .inr 1, .inl (0, 6), .inl (0, 6), .inl (0, 6), .inr 8, .inl (0, 40), .inl (0, 40)]
def kI_77 : mI := va_up kI_76 58 (fun _ => 0)
def kL_56 : mL := va_up kL_55 58 (fun _ => 0)
def kR_111 : Nat → Nat → Option Nat := va_up kR_110 58 (fun _ => none)
def kR_112 : Nat → Nat → Option Nat := gm_u kR_111 56 1 (some 58)
def kR_113 : Nat → Nat → Option Nat := gm_u kR_112 51 1 (some 56)
def kR_114 : Nat → Nat → Option Nat := gm_u kR_113 15 1 (some 51)
def shp_60 : List gm_S := [.inr 10, .inl (2, 700), .inr 1, .inl (0, 6), .inl (0, 6), .inl (0, 6), .inr 5, .inr 8, .inl (0, 40), .inl (0, 40), .inr 0, .inr 3, .inl (1, 321), .inl (1, 321), .inl (4, 4), .inl (5, 2), .inr 1, .inl (0, 6), .inl (0, 6), .inl (0, 6), .inr 8, .inl (0, 40), .inl (0, 40), .inr 7, .inr 4, .inl (1, 201), .inl (0, 200), .inl (0, 200), .inl (1, 200), .inr 9, .inl (0, 3), .inl (6, 3), .inl (0, 3), .inl (0, 3), .inl (0, 3), .inr 6, .inl (1, 40), .inr 6, .inl (1, 40), .inr 6, .inl (1, 40), .inr 6, .inl (1, 40), .inr 2, .inr 1, .inl (0, 6), .inl (0, 6), .inl (0, 6), .inr 8, .inl (0, 40), .inl (0, 40), .inr 2, .inr 1, .inl (0, 6), .inl (0, 6), .inl (0, 6), .inr 8, .inl (0, 40), .inl (0, 40), .inr 11]
def kI_78 : mI := va_up kI_77 59 (fun _ => 0)
def kL_57 : mL := va_up kL_56 59 (fun _ => 0)
def kR_115 : Nat → Nat → Option Nat := va_up kR_114 59 (fun _ => none)
def shp_61 : List gm_S := [.inr 10, .inl (2, 700), .inr 1, .inl (0, 6), .inl (0, 6), .inl (0, 6), .inr 5, .inr 8, .inl (0, 40), .inl (0, 40), .inr 0, .inr 3, .inl (1, 321), .inl (1, 321), .inl (4, 4), .inl (5, 2), .inr 1, .inl (0, 6), .inl (0, 6), .inl (0, 6), .inr 8, .inl (0, 40), .inl (0, 40), .inr 7, .inr 4, .inl (1, 201), .inl (0, 200), .inl (0, 200), .inl (1, 200), .inr 9, .inl (0, 3), .inl (6, 3), .inl (0, 3), .inl (0, 3), .inl (0, 3), .inr 6, .inl (1, 40), .inr 6, .inl (1, 40), .inr 6, .inl (1, 40), .inr 6, .inl (1, 40), .inr 2, .inr 1, .inl (0, 6), .inl (0, 6), .inl (0, 6), .inr 8, .inl (0, 40), .inl (0, 40), .inr 2, .inr 1, .inl (0, 6), .inl (0, 6), .inl (0, 6), .inr 8, .inl (0, 40), .inl (0, 40), .inr 11, .inl (0, 330)]
def kI_79 : mI := va_up kI_78 60 (fun _ => 0)
def kL_58 : mL := va_up kL_57 60 (fun _ => 0)
def kR_116 : Nat → Nat → Option Nat := va_up kR_115 60 (fun _ => none)
def kR_117 : Nat → Nat → Option Nat := gm_u kR_116 59 1 (some 60)
def shp_62 : List gm_S := [.inr 10, .inl (2, 700), .inr 1, .inl (0, 6), .inl (0, 6), .inl (0, 6), .inr 5, .inr 8, .inl (0, 40), .inl (0, 40), .inr 0, .inr 3, .inl (1, 321), .inl (1, 321), .inl (4, 4), .inl (5, 2), .inr 1, .inl (0, 6), .inl (0, 6), .inl (0, 6), .inr 8, .inl (0, 40), .inl (0, 40), .inr 7, .inr 4, .inl (1, 201), .inl (0, 200), .inl (0, 200), .inl (1, 200), .inr 9, .inl (0, 3), .inl (6, 3), .inl (0, 3), .inl (0, 3), .inl (0, 3), .inr 6, .inl (1, 40), .inr 6, .inl (1, 40), .inr 6, .inl (1, 40), .inr 6, .inl (1, 40), .inr 2, .inr 1, .inl (0, 6), .inl (0, 6), .inl (0, 6), .inr 8, .inl (0, 40), .inl (0, 40), .inr 2, .inr 1, .inl (0, 6), .inl (0, 6), .inl (0, 6), .inr 8, .inl (0, 40), .inl (0, 40), .inr 11, .inl (0, 330), .inl (3, 2)]
def kI_80 : mI := va_up kI_79 61 (fun _ => 0)
def kL_59 : mL := va_up kL_58 61 (fun _ => 0)
def kR_118 : Nat → Nat → Option Nat := va_up kR_117 61 (fun _ => none)
def kR_119 : Nat → Nat → Option Nat := gm_u kR_118 59 2 (some 61)
def shp_63 : List gm_S := [.inr 10, .inl (2, 700), .inr 1, .inl (0, 6), .inl (0, 6), .inl (0, 6), .inr 5, .inr 8, .inl (0, 40), .inl (0, 40), .inr 0, .inr 3, .inl (1, 321), .inl (1, 321), .inl (4, 4), .inl (5, 2), .inr 1, .inl (0, 6), .inl (0, 6), .inl (0, 6), .inr 8, .inl (0, 40), .inl (0, 40), .inr 7, .inr 4, .inl (1, 201), .inl (0, 200), .inl (0, 200), .inl (1, 200), .inr 9, .inl (0, 3), .inl (6, 3), .inl (0, 3), .inl (0, 3), .inl (0, 3), .inr 6, .inl (1, 40), .inr 6, .inl (1, 40), .inr 6, .inl (1, 40), .inr 6, .inl (1, 40), .inr 2, .inr 1, .inl (0, 6), .inl (0, 6), .inl (0, 6), .inr 8, .inl (0, 40), .inl (0, 40), .inr 2, .inr 1, .inl (0, 6), .inl (0, 6), .inl (0, 6), .inr 8, .inl (0, 40), .inl (0, 40), .inr 11, .inl (0, 330), .inl (3, 2), .inl (0, 700)]
def kI_81 : mI := va_up kI_80 62 (fun _ => 0)
def kL_60 : mL := va_up kL_59 62 (fun _ => 0)
def kR_120 : Nat → Nat → Option Nat := va_up kR_119 62 (fun _ => none)
def kR_121 : Nat → Nat → Option Nat := gm_u kR_120 59 3 (some 62)
def shp_64 : List gm_S := [.inr 10, .inl (2, 700), .inr 1, .inl (0, 6), .inl (0, 6), .inl (0, 6), .inr 5, .inr 8, .inl (0, 40), .inl (0, 40), .inr 0, .inr 3, .inl (1, 321), .inl (1, 321), .inl (4, 4), .inl (5, 2), .inr 1, .inl (0, 6), .inl (0, 6), .inl (0, 6), .inr 8, .inl (0, 40), .inl (0, 40), .inr 7, .inr 4, .inl (1, 201), .inl (0, 200), .inl (0, 200), .inl (1, 200), .inr 9, .inl (0, 3), .inl (6, 3), .inl (0, 3), .inl (0, 3), .inl (0, 3), .inr 6, .inl (1, 40), .inr 6, .inl (1, 40), .inr 6, .inl (1, 40), .inr 6, .inl (1, 40), .inr 2, .inr 1, .inl (0, 6), .inl (0, 6), .inl (0, 6), .inr 8, .inl (0, 40), .inl (0, 40), .inr 2, .inr 1, .inl (0, 6), .inl (0, 6), .inl (0, 6), .inr 8, .inl (0, 40), .inl (0, 40), .inr 11, .inl (0, 330), .inl (3, 2), .inl (0, 700), .inl (0, 110)]
def kI_82 : mI := va_up kI_81 63 (fun _ => 0)
def kL_61 : mL := va_up kL_60 63 (fun _ => 0)
def kR_122 : Nat → Nat → Option Nat := va_up kR_121 63 (fun _ => none)
def kR_123 : Nat → Nat → Option Nat := gm_u kR_122 59 4 (some 63)
def kI_83 : mI := gm_u kI_82 59 14 (-1)
def shp_65 : List gm_S := [.inr 10, .inl (2, 700), .inr 1, .inl (0, 6), .inl (0, 6), .inl (0, 6), .inr 5, .inr 8, .inl (0, 40), .inl (0, 40), .inr 0, .inr 3, .inl (1, 321), .inl (1, 321), .inl (4, 4), .inl (5, 2), .inr 1, .inl (0, 6), .inl (0, 6), .inl (0, 6), .inr 8, .inl (0, 40), .inl (0, 40), .inr 7, .inr 4, .inl (1, 201), .inl (0, 200), .inl (0, 200), .inl (1, 200), .inr 9, .inl (0, 3), .inl (6, 3), .inl (0, 3), .inl (0, 3), .inl (0, 3), .inr 6, .inl (1, 40), .inr 6, .inl (1, 40), .inr 6, .inl (1, 40), .inr 6, .inl (1, 40), .inr 2, .inr 1, .inl (0, 6), .inl (0, 6), .inl (0, 6), .inr 8, .inl (0, 40), .inl (0, 40), .inr 2, .inr 1, .inl (0, 6), .inl (0, 6), .inl (0, 6), .inr 8, .inl (0, 40), .inl (0, 40), .inr 11, .inl (0, 330), .inl (3, 2), .inl (0, 700), .inl (0, 110), .inl (0, 110)]
def kI_84 : mI := va_up kI_83 64 (fun _ => 0)
def kL_62 : mL := va_up kL_61 64 (fun _ => 0)
def kR_124 : Nat → Nat → Option Nat := va_up kR_123 64 (fun _ => none)
def kR_125 : Nat → Nat → Option Nat := gm_u kR_124 59 15 (some 64)
def shp_66 : List gm_S := [.inr 10, .inl (2, 700), .inr 1, .inl (0, 6), .inl (0, 6), .inl (0, 6), .inr 5, .inr 8, .inl (0, 40), .inl (0, 40), .inr 0, .inr 3, .inl (1, 321), .inl (1, 321), .inl (4, 4), .inl (5, 2), .inr 1, .inl (0, 6), .inl (0, 6), .inl (0, 6), .inr 8, .inl (0, 40), .inl (0, 40), .inr 7, .inr 4, .inl (1, 201), .inl (0, 200), .inl (0, 200), .inl (1, 200), .inr 9, .inl (0, 3), .inl (6, 3), .inl (0, 3), .inl (0, 3), .inl (0, 3), .inr 6, .inl (1, 40), .inr 6, .inl (1, 40), .inr 6, .inl (1, 40), .inr 6, .inl (1, 40), .inr 2, .inr 1, .inl (0, 6), .inl (0, 6), .inl (0, 6), .inr 8, .inl (0, 40), .inl (0, 40), .inr 2, .inr 1, .inl (0, 6), .inl (0, 6), .inl (0, 6), .inr 8, .inl (0, 40), .inl (0, 40), .inr 11, .inl (0, 330), .inl (3, 2), .inl (0, 700), .inl (0, 110), .inl (0, 110), .inl (1, 200)]
def kI_85 : mI := va_up kI_84 65 (fun _ => 0)
def kL_63 : mL := va_up kL_62 65 (fun _ => 0)
def kR_126 : Nat → Nat → Option Nat := va_up kR_125 65 (fun _ => none)
def kR_127 : Nat → Nat → Option Nat := gm_u kR_126 59 18 (some 65)
def shp_67 : List gm_S := [.inr 10, .inl (2, 700), .inr 1, .inl (0, 6), .inl (0, 6), .inl (0, 6), .inr 5, .inr 8, .inl (0, 40), .inl (0, 40), .inr 0, .inr 3, .inl (1, 321), .inl (1, 321), .inl (4, 4), .inl (5, 2), .inr 1, .inl (0, 6), .inl (0, 6), .inl (0, 6), .inr 8, .inl (0, 40), .inl (0, 40), .inr 7, .inr 4, .inl (1, 201), .inl (0, 200), .inl (0, 200), .inl (1, 200), .inr 9, .inl (0, 3), .inl (6, 3), .inl (0, 3), .inl (0, 3), .inl (0, 3), .inr 6, .inl (1, 40), .inr 6, .inl (1, 40), .inr 6, .inl (1, 40), .inr 6, .inl (1, 40), .inr 2, .inr 1, .inl (0, 6), .inl (0, 6), .inl (0, 6), .inr 8, .inl (0, 40), .inl (0, 40), .inr 2, .inr 1, .inl (0, 6), .inl (0, 6), .inl (0, 6), .inr 8, .inl (0, 40), .inl (0, 40), .inr 11, .inl (0, 330), .inl (3, 2), .inl (0, 700), .inl (0, 110), .inl (0, 110), .inl (1, 200), .inl (0, 200)]
def kI_86 : mI := va_up kI_85 66 (fun _ => 0)
def kL_64 : mL := va_up kL_63 66 (fun _ => 0)
def kR_128 : Nat → Nat → Option Nat := va_up kR_127 66 (fun _ => none)
def kR_129 : Nat → Nat → Option Nat := gm_u kR_128 59 20 (some 66)
def shp_68 : List gm_S := [.inr 10, .inl (2, 700), .inr 1, .inl (0, 6), .inl (0, 6), .inl (0, 6), .inr 5, .inr 8, .inl (0, 40), .inl (0, 40), .inr 0, .inr 3, .inl (1, 321), .inl (1, 321), .inl (4, 4), .inl (5, 2), .inr 1, .inl (0, 6), .inl (0, 6), .inl (0, 6), .inr 8, .inl (0, 40), .inl (0, 40), .inr 7, .inr 4, .inl (1, 201), .inl (0, 200), .inl (0, 200), .inl (1, 200), .inr 9, .inl (0, 3), .inl (6, 3), .inl (0, 3), .inl (0, 3), .inl (0, 3), .inr 6, .inl (1, 40), .inr 6, .inl (1, 40), .inr 6, .inl (1, 40), .inr 6, .inl (1, 40), .inr 2, .inr 1, .inl (0, 6), .inl (0, 6), .inl (0, 6), .inr 8, .inl (0, 40), .inl (0, 40), .inr 2, .inr 1, .inl (0, 6), .inl (0, 6), .inl (0, 6), .inr 8, .inl (0, 40), .inl (0, 40), .inr 11, .inl (0, 330), .inl (3, 2), .inl (0, 700), .inl (0, 110), .inl (0, 110), .inl (1, 200), .inl (0, 200), .inl (0, 3)]
def kI_87 : mI := va_up kI_86 67 (fun _ => 0)
def kL_65 : mL := va_up kL_64 67 (fun _ => 0)
def kR_130 : Nat → Nat → Option Nat := va_up kR_129 67 (fun _ => none)
def kR_131 : Nat → Nat → Option Nat := gm_u kR_130 59 25 (some 67)
def shp_69 : List gm_S := [.inr 10, .inl (2, 700), .inr 1, .inl (0, 6), .inl (0, 6), .inl (0, 6), .inr 5, .inr 8, .inl (0, 40), .inl (0, 40), .inr 0, .inr 3, .inl (1, 321), .inl (1, 321), .inl (4, 4), .inl (5, 2), .inr 1, .inl (0, 6), .inl (0, 6), .inl (0, 6), .inr 8, .inl (0, 40), .inl (0, 40), .inr 7, .inr 4, .inl (1, 201), .inl (0, 200), .inl (0, 200), .inl (1, 200), .inr 9, .inl (0, 3), .inl (6, 3), .inl (0, 3), .inl (0, 3), .inl (0, 3), .inr 6, .inl (1, 40), .inr 6, .inl (1, 40), .inr 6, .inl (1, 40), .inr 6, .inl (1, 40), .inr 2, .inr 1, .inl (0, 6), .inl (0, 6), .inl (0, 6), .inr 8, .inl (0, 40), .inl (0, 40), .inr 2, .inr 1, .inl (0, 6), .inl (0, 6), .inl (0, 6), .inr 8, .inl (0, 40), .inl (0, 40), .inr 11, .inl (0, 330), .inl (3, 2), .inl (0, 700), .inl (0, 110), .inl (0, 110), .inl (1, 200), .inl (0, 200), .inl (0, 3), .inl (0, 9)]
def kI_88 : mI := va_up kI_87 68 (fun _ => 0)
def kL_66 : mL := va_up kL_65 68 (fun _ => 0)
def kR_132 : Nat → Nat → Option Nat := va_up kR_131 68 (fun _ => none)
def kR_133 : Nat → Nat → Option Nat := gm_u kR_132 59 26 (some 68)
def shp_70 : List gm_S := [.inr 10, .inl (2, 700), .inr 1, .inl (0, 6), .inl (0, 6), .inl (0, 6), .inr 5, .inr 8, .inl (0, 40), .inl (0, 40), .inr 0, .inr 3, .inl (1, 321), .inl (1, 321), .inl (4, 4), .inl (5, 2), .inr 1, .inl (0, 6), .inl (0, 6), .inl (0, 6), .inr 8, .inl (0, 40), .inl (0, 40), .inr 7, .inr 4, .inl (1, 201), .inl (0, 200), .inl (0, 200), .inl (1, 200), .inr 9, .inl (0, 3), .inl (6, 3), .inl (0, 3), .inl (0, 3), .inl (0, 3), .inr 6, .inl (1, 40), .inr 6, .inl (1, 40), .inr 6, .inl (1, 40), .inr 6, .inl (1, 40), .inr 2, .inr 1, .inl (0, 6), .inl (0, 6), .inl (0, 6), .inr 8, .inl (0, 40), .inl (0, 40), .inr 2, .inr 1, .inl (0, 6), .inl (0, 6), .inl (0, 6), .inr 8, .inl (0, 40), .inl (0, 40), .inr 11, .inl (0, 330), .inl (3, 2), .inl (0, 700), .inl (0, 110), .inl (0, 110), .inl (1, 200), .inl (0, 200), .inl (0, 3), .inl (0, 9), .inl (1, 321)]
def kI_89 : mI := va_up kI_88 69 (fun _ => 0)
def kL_67 : mL := va_up kL_66 69 (fun _ => 0)
def kR_134 : Nat → Nat → Option Nat := va_up kR_133 69 (fun _ => none)
def kR_135 : Nat → Nat → Option Nat := gm_u kR_134 59 27 (some 69)
def shp_71 : List gm_S := [.inr 10, .inl (2, 700), .inr 1, .inl (0, 6), .inl (0, 6), .inl (0, 6), .inr 5, .inr 8, .inl (0, 40), .inl (0, 40), .inr 0, .inr 3, .inl (1, 321), .inl (1, 321), .inl (4, 4), .inl (5, 2), .inr 1, .inl (0, 6), .inl (0, 6), .inl (0, 6), .inr 8, .inl (0, 40), .inl (0, 40), .inr 7, .inr 4, .inl (1, 201), .inl (0, 200), .inl (0, 200), .inl (1, 200), .inr 9, .inl (0, 3), .inl (6, 3), .inl (0, 3), .inl (0, 3), .inl (0, 3), .inr 6, .inl (1, 40), .inr 6, .inl (1, 40), .inr 6, .inl (1, 40), .inr 6, .inl (1, 40), .inr 2, .inr 1, .inl (0, 6), .inl (0, 6), .inl (0, 6), .inr 8, .inl (0, 40), .inl (0, 40), .inr 2, .inr 1, .inl (0, 6), .inl (0, 6), .inl (0, 6), .inr 8, .inl (0, 40), .inl (0, 40), .inr 11, .inl (0, 330), .inl (3, 2), .inl (0, 700), .inl (0, 110), .inl (0, 110), .inl (1, 200), .inl (0, 200), .inl (0, 3), .inl (0, 9), .inl (1, 321), .inl (1, 321)]
def kI_90 : mI := va_up kI_89 70 (fun _ => 0)
def kL_68 : mL := va_up kL_67 70 (fun _ => 0)
def kR_136 : Nat → Nat → Option Nat := va_up kR_135 70 (fun _ => none)
def kR_137 : Nat → Nat → Option Nat := gm_u kR_136 59 28 (some 70)
def shp_72 : List gm_S := [.inr 10, .inl (2, 700), .inr 1, .inl (0, 6), .inl (0, 6), .inl (0, 6), .inr 5, .inr 8, .inl (0, 40), .inl (0, 40), .inr 0, .inr 3, .inl (1, 321), .inl (1, 321), .inl (4, 4), .inl (5, 2), .inr 1, .inl (0, 6), .inl (0, 6), .inl (0, 6), .inr 8, .inl (0, 40), .inl (0, 40), .inr 7, .inr 4, .inl (1, 201), .inl (0, 200), .inl (0, 200), .inl (1, 200), .inr 9, .inl (0, 3), .inl (6, 3), .inl (0, 3), .inl (0, 3), .inl (0, 3), .inr 6, .inl (1, 40), .inr 6, .inl (1, 40), .inr 6, .inl (1, 40), .inr 6, .inl (1, 40), .inr 2, .inr 1, .inl (0, 6), .inl (0, 6), .inl (0, 6), .inr 8, .inl (0, 40), .inl (0, 40), .inr 2, .inr 1, .inl (0, 6), .inl (0, 6), .inl (0, 6), .inr 8, .inl (0, 40), .inl (0, 40), .inr 11, .inl (0, 330), .inl (3, 2), .inl (0, 700), .inl (0, 110), .inl (0, 110), .inl (1, 200), .inl (0, 200), .inl (0, 3), .inl (0, 9), .inl (1, 321), .inl (1, 321), .inl (0, 4)]
def kI_91 : mI := va_up kI_90 71 (fun _ => 0)
def kL_69 : mL := va_up kL_68 71 (fun _ => 0)
def kR_138 : Nat → Nat → Option Nat := va_up kR_137 71 (fun _ => none)
def kI_92 : mI := gm_u kI_91 71 0 (-1)
def kI_93 : mI := gm_u kI_92 71 1 (-1)
def kI_94 : mI := gm_u kI_93 71 2 (-1)
def kI_95 : mI := gm_u kI_94 71 3 (-1)
def kR_139 : Nat → Nat → Option Nat := gm_u kR_138 59 29 (some 71)
def shp_73 : List gm_S := [.inr 10, .inl (2, 700), .inr 1, .inl (0, 6), .inl (0, 6), .inl (0, 6), .inr 5, .inr 8, .inl (0, 40), .inl (0, 40), .inr 0, .inr 3, .inl (1, 321), .inl (1, 321), .inl (4, 4), .inl (5, 2), .inr 1, .inl (0, 6), .inl (0, 6), .inl (0, 6), .inr 8, .inl (0, 40), .inl (0, 40), .inr 7, .inr 4, .inl (1, 201), .inl (0, 200), .inl (0, 200), .inl (1, 200), .inr 9, .inl (0, 3), .inl (6, 3), .inl (0, 3), .inl (0, 3), .inl (0, 3), .inr 6, .inl (1, 40), .inr 6, .inl (1, 40), .inr 6, .inl (1, 40), .inr 6, .inl (1, 40), .inr 2, .inr 1, .inl (0, 6), .inl (0, 6), .inl (0, 6), .inr 8, .inl (0, 40), .inl (0, 40), .inr 2, .inr 1, .inl (0, 6), .inl (0, 6), .inl (0, 6), .inr 8, .inl (0, 40), .inl (0, 40), .inr 11, .inl (0, 330), .inl (3, 2), .inl (0, 700), .inl (0, 110), .inl (0, 110), .inl (1, 200), .inl (0, 200), .inl (0, 3), .inl (0, 9), .inl (1, 321), .inl (1, 321), .inl (0, 4), .inl (0, 4)]
def kI_96 : mI := va_up kI_95 72 (fun _ => 0)
def kL_70 : mL := va_up kL_69 72 (fun _ => 0)
def kR_140 : Nat → Nat → Option Nat := va_up kR_139 72 (fun _ => none)
def kR_141 : Nat → Nat → Option Nat := gm_u kR_140 59 30 (some 72)
def shp_74 : List gm_S := [.inr 10, .inl (2, 700), .inr 1, .inl (0, 6), .inl (0, 6), .inl (0, 6), .inr 5, .inr 8, .inl (0, 40), .inl (0, 40), .inr 0, .inr 3, .inl (1, 321), .inl (1, 321), .inl (4, 4), .inl (5, 2), .inr 1, .inl (0, 6), .inl (0, 6), .inl (0, 6), .inr 8, .inl (0, 40), .inl (0, 40), .inr 7, .inr 4, .inl (1, 201), .inl (0, 200), .inl (0, 200), .inl (1, 200), .inr 9, .inl (0, 3), .inl (6, 3), .inl (0, 3), .inl (0, 3), .inl (0, 3), .inr 6, .inl (1, 40), .inr 6, .inl (1, 40), .inr 6, .inl (1, 40), .inr 6, .inl (1, 40), .inr 2, .inr 1, .inl (0, 6), .inl (0, 6), .inl (0, 6), .inr 8, .inl (0, 40), .inl (0, 40), .inr 2, .inr 1, .inl (0, 6), .inl (0, 6), .inl (0, 6), .inr 8, .inl (0, 40), .inl (0, 40), .inr 11, .inl (0, 330), .inl (3, 2), .inl (0, 700), .inl (0, 110), .inl (0, 110), .inl (1, 200), .inl (0, 200), .inl (0, 3), .inl (0, 9), .inl (1, 321), .inl (1, 321), .inl (0, 4), .inl (0, 4), .inl (1, 160)]
def kI_97 : mI := va_up kI_96 73 (fun _ => 0)
def kL_71 : mL := va_up kL_70 73 (fun _ => 0)
def kR_142 : Nat → Nat → Option Nat := va_up kR_141 73 (fun _ => none)
def kR_143 : Nat → Nat → Option Nat := gm_u kR_142 59 31 (some 73)
abbrev ZK_Fe_2 (g : gm_G) (Q : Option Value → gm_H → Prop) (cu su pc : Nat) (lv : List (Nat × Value)) (st : List Value) (h : gm_H) : Prop := gm_X g RX1 "<init>" cX1_init 1 none 1 3 18 Q cu su pc lv st h
set_option maxRecDepth 100000 in
theorem k_Fe_2 {g : gm_G} : gm_Met g yX1_init cX1_init 1 none 1 3 18 [.ref 2] (shp_3, kI_3, kL_3, kR_4) (fun v h => v = none ∧ h = (shp_6, kI_10, kL_6, kR_10)) := by
  refine gm_enter (lv := [(0, .ref 2)]) (by decide) rfl rfl rfl rfl ?_
  generalize hQ : (fun (v : Option Value) (h : gm_H) => v = none ∧ h = (shp_6, kI_10, kL_6, kR_10)) = Q
  have hq : Q none (shp_6, kI_10, kL_6, kR_10) := by rw [← hQ]; exact ⟨rfl, rfl⟩
  show ZK_Fe_2 g Q 0 0 0 [(0, .ref 2)] [] (shp_3, kI_3, kL_3, kR_4)
  refine gx_aload_n 0 dX1_init_0 rfl rfl ?_
  refine gx_obj dX1_init_1 ml_X1_3 mw_obj.1 mw_obj.2 rfl rfl ?_
  refine gx_aload_n 0 dX1_init_4 rfl rfl ?_
  refine gx_iconst (v := 1) dX1_init_5 (by decide) ?_
  refine gx_puti 1 0 dX1_init_6 fl_X1_9 rfl rfl rfl ⟨rfl, rfl⟩ ?_
  show ZK_Fe_2 g Q 0 0 9 [(0, .ref 2)] [] (shp_3, kI_4, kL_3, kR_4)
  refine gx_aload_n 0 dX1_init_9 rfl rfl ?_
  refine gx_bipush (v := 100) dX1_init_10 (by decide) ?_
  refine gx_puti 1 1 dX1_init_12 fl_X1_15 rfl rfl rfl ⟨rfl, rfl⟩ ?_
  show ZK_Fe_2 g Q 0 0 15 [(0, .ref 2)] [] (shp_3, kI_5, kL_3, kR_4)
  refine gx_aload_n 0 dX1_init_15 rfl rfl ?_
  refine gx_bipush (v := 6) dX1_init_16 (by decide) ?_
  refine gx_newa 0 (n := 6) (L := 3) dX1_init_18 rfl (by decide) aw_0 (by decide) rfl rfl ⟨rfl, rfl⟩ rfl rfl ?_
  show ZK_Fe_2 g Q 1 6 20 [(0, .ref 2)] [.ref 3, .ref 2] (shp_4, kI_6, kL_4, kR_5)
  refine gx_putF 1 6 (v := 3) dX1_init_20 fl_X1_18 rfl rfl rfl rfl rfl ⟨rfl, rfl⟩ ?_
  show ZK_Fe_2 g Q 1 6 23 [(0, .ref 2)] [] (shp_4, kI_6, kL_4, kR_6)
  refine gx_aload_n 0 dX1_init_23 rfl rfl ?_
  refine gx_bipush (v := 6) dX1_init_24 (by decide) ?_
  refine gx_newa 0 (n := 6) (L := 4) dX1_init_26 rfl (by decide) aw_0 (by decide) rfl rfl ⟨rfl, rfl⟩ rfl rfl ?_
  show ZK_Fe_2 g Q 2 12 28 [(0, .ref 2)] [.ref 4, .ref 2] (shp_5, kI_7, kL_5, kR_7)
  refine gx_putF 1 7 (v := 4) dX1_init_28 fl_X1_22 rfl rfl rfl rfl rfl ⟨rfl, rfl⟩ ?_
  show ZK_Fe_2 g Q 2 12 31 [(0, .ref 2)] [] (shp_5, kI_7, kL_5, kR_8)
  refine gx_aload_n 0 dX1_init_31 rfl rfl ?_
  refine gx_bipush (v := 6) dX1_init_32 (by decide) ?_
  refine gx_newa 0 (n := 6) (L := 5) dX1_init_34 rfl (by decide) aw_0 (by decide) rfl rfl ⟨rfl, rfl⟩ rfl rfl ?_
  show ZK_Fe_2 g Q 3 18 36 [(0, .ref 2)] [.ref 5, .ref 2] (shp_6, kI_8, kL_6, kR_9)
  refine gx_putF 1 8 (v := 5) dX1_init_36 fl_X1_25 rfl rfl rfl rfl rfl ⟨rfl, rfl⟩ ?_
  show ZK_Fe_2 g Q 3 18 39 [(0, .ref 2)] [] (shp_6, kI_8, kL_6, kR_10)
  refine gx_aload_n 0 dX1_init_39 rfl rfl ?_
  refine gx_bipush (v := 10) dX1_init_40 (by decide) ?_
  refine gx_puti 1 10 dX1_init_42 fl_X1_28 rfl rfl rfl ⟨rfl, rfl⟩ ?_
  show ZK_Fe_2 g Q 3 18 45 [(0, .ref 2)] [] (shp_6, kI_9, kL_6, kR_10)
  refine gx_aload_n 0 dX1_init_45 rfl rfl ?_
  refine gx_bipush (v := 100) dX1_init_46 (by decide) ?_
  refine gx_puti 1 11 dX1_init_48 fl_X1_31 rfl rfl rfl ⟨rfl, rfl⟩ ?_
  show ZK_Fe_2 g Q 3 18 51 [(0, .ref 2)] [] (shp_6, kI_10, kL_6, kR_10)
  exact gx_vret dX1_init_51 rfl rfl rfl hq
abbrev ZK_Rd_6 (g : gm_G) (Q : Option Value → gm_H → Prop) (cu su pc : Nat) (lv : List (Nat × Value)) (st : List Value) (h : gm_H) : Prop := gm_X g RX5 "<init>" cX5_init 1 none 1 0 0 Q cu su pc lv st h
set_option maxRecDepth 100000 in
theorem k_Rd_6 {g : gm_G} : gm_Met g yX5_init cX5_init 1 none 1 0 0 [.ref 6] (shp_7, kI_11, kL_7, kR_12) (fun v h => v = none ∧ h = (shp_7, kI_12, kL_7, kR_12)) := by
  refine gm_enter (lv := [(0, .ref 6)]) (by decide) rfl rfl rfl rfl ?_
  generalize hQ : (fun (v : Option Value) (h : gm_H) => v = none ∧ h = (shp_7, kI_12, kL_7, kR_12)) = Q
  have hq : Q none (shp_7, kI_12, kL_7, kR_12) := by rw [← hQ]; exact ⟨rfl, rfl⟩
  show ZK_Rd_6 g Q 0 0 0 [(0, .ref 6)] [] (shp_7, kI_11, kL_7, kR_12)
  refine gx_aload_n 0 dX5_init_0 rfl rfl ?_
  refine gx_obj dX5_init_1 ml_X5_3 mw_obj.1 mw_obj.2 rfl rfl ?_
  refine gx_aload_n 0 dX5_init_4 rfl rfl ?_
  refine gx_iconst (v := (-1)) dX5_init_5 (by decide) ?_
  refine gx_puti 5 1 dX5_init_6 fl_X5_9 rfl rfl rfl ⟨rfl, rfl⟩ ?_
  show ZK_Rd_6 g Q 0 0 9 [(0, .ref 6)] [] (shp_7, kI_12, kL_7, kR_12)
  exact gx_vret dX5_init_9 rfl rfl rfl hq
abbrev ZK_Sh_7 (g : gm_G) (Q : Option Value → gm_H → Prop) (cu su pc : Nat) (lv : List (Nat × Value)) (st : List Value) (h : gm_H) : Prop := gm_X g RX8 "<init>" cX8_init 1 none 1 2 80 Q cu su pc lv st h
set_option maxRecDepth 100000 in
theorem k_Sh_7 {g : gm_G} : gm_Met g yX8_init cX8_init 1 none 1 2 80 [.ref 7] (shp_8, kI_13, kL_8, kR_14) (fun v h => v = none ∧ h = (shp_10, kI_15, kL_10, kR_18)) := by
  refine gm_enter (lv := [(0, .ref 7)]) (by decide) rfl rfl rfl rfl ?_
  generalize hQ : (fun (v : Option Value) (h : gm_H) => v = none ∧ h = (shp_10, kI_15, kL_10, kR_18)) = Q
  have hq : Q none (shp_10, kI_15, kL_10, kR_18) := by rw [← hQ]; exact ⟨rfl, rfl⟩
  show ZK_Sh_7 g Q 0 0 0 [(0, .ref 7)] [] (shp_8, kI_13, kL_8, kR_14)
  refine gx_aload_n 0 dX8_init_0 rfl rfl ?_
  refine gx_obj dX8_init_1 ml_X8_3 mw_obj.1 mw_obj.2 rfl rfl ?_
  refine gx_aload_n 0 dX8_init_4 rfl rfl ?_
  refine gx_bipush (v := 40) dX8_init_5 (by decide) ?_
  refine gx_newa 0 (n := 40) (L := 8) dX8_init_7 rfl (by decide) aw_0 (by decide) rfl rfl ⟨rfl, rfl⟩ rfl rfl ?_
  show ZK_Sh_7 g Q 1 40 9 [(0, .ref 7)] [.ref 8, .ref 7] (shp_9, kI_14, kL_9, kR_15)
  refine gx_putF 8 0 (v := 8) dX8_init_9 fl_X8_9 rfl rfl rfl rfl rfl ⟨rfl, rfl⟩ ?_
  show ZK_Sh_7 g Q 1 40 12 [(0, .ref 7)] [] (shp_9, kI_14, kL_9, kR_16)
  refine gx_aload_n 0 dX8_init_12 rfl rfl ?_
  refine gx_bipush (v := 40) dX8_init_13 (by decide) ?_
  refine gx_newa 0 (n := 40) (L := 9) dX8_init_15 rfl (by decide) aw_0 (by decide) rfl rfl ⟨rfl, rfl⟩ rfl rfl ?_
  show ZK_Sh_7 g Q 2 80 17 [(0, .ref 7)] [.ref 9, .ref 7] (shp_10, kI_15, kL_10, kR_17)
  refine gx_putF 8 1 (v := 9) dX8_init_17 fl_X8_15 rfl rfl rfl rfl rfl ⟨rfl, rfl⟩ ?_
  show ZK_Sh_7 g Q 2 80 20 [(0, .ref 7)] [] (shp_10, kI_15, kL_10, kR_18)
  exact gx_vret dX8_init_20 rfl rfl rfl hq
abbrev ZK_Dr_10 (g : gm_G) (Q : Option Value → gm_H → Prop) (cu su pc : Nat) (lv : List (Nat × Value)) (st : List Value) (h : gm_H) : Prop := gm_X g RX0 "<init>" cX0_init 1 none 1 0 0 Q cu su pc lv st h
set_option maxRecDepth 100000 in
theorem k_Dr_10 {g : gm_G} : gm_Met g yX0_init cX0_init 1 none 1 0 0 [.ref 10] (shp_11, kI_16, kL_11, kR_20) (fun v h => v = none ∧ h = (shp_11, kI_16, kL_11, kR_20)) := by
  refine gm_enter (lv := [(0, .ref 10)]) (by decide) rfl rfl rfl rfl ?_
  generalize hQ : (fun (v : Option Value) (h : gm_H) => v = none ∧ h = (shp_11, kI_16, kL_11, kR_20)) = Q
  have hq : Q none (shp_11, kI_16, kL_11, kR_20) := by rw [← hQ]; exact ⟨rfl, rfl⟩
  show ZK_Dr_10 g Q 0 0 0 [(0, .ref 10)] [] (shp_11, kI_16, kL_11, kR_20)
  refine gx_aload_n 0 dX0_init_0 rfl rfl ?_
  refine gx_obj dX0_init_1 ml_X0_3 mw_obj.1 mw_obj.2 rfl rfl ?_
  exact gx_vret dX0_init_4 rfl rfl rfl hq
abbrev ZK_Of_11 (g : gm_G) (Q : Option Value → gm_H → Prop) (cu su pc : Nat) (lv : List (Nat × Value)) (st : List Value) (h : gm_H) : Prop := gm_X g RX3 "<init>" cX3_init 1 none 1 2 642 Q cu su pc lv st h
set_option maxRecDepth 100000 in
theorem k_Of_11 {g : gm_G} : gm_Met g yX3_init cX3_init 1 none 1 2 642 [.ref 11] (shp_12, kI_17, kL_12, kR_22) (fun v h => v = none ∧ h = (shp_14, kI_19, kL_14, kR_26)) := by
  refine gm_enter (lv := [(0, .ref 11)]) (by decide) rfl rfl rfl rfl ?_
  generalize hQ : (fun (v : Option Value) (h : gm_H) => v = none ∧ h = (shp_14, kI_19, kL_14, kR_26)) = Q
  have hq : Q none (shp_14, kI_19, kL_14, kR_26) := by rw [← hQ]; exact ⟨rfl, rfl⟩
  show ZK_Of_11 g Q 0 0 0 [(0, .ref 11)] [] (shp_12, kI_17, kL_12, kR_22)
  refine gx_aload_n 0 dX3_init_0 rfl rfl ?_
  refine gx_obj dX3_init_1 ml_X3_3 mw_obj.1 mw_obj.2 rfl rfl ?_
  refine gx_aload_n 0 dX3_init_4 rfl rfl ?_
  refine gx_sipush (v := 321) dX3_init_5 (by decide) ?_
  refine gx_newa 1 (n := 321) (L := 12) dX3_init_8 rfl (by decide) aw_1 (by decide) rfl rfl ⟨rfl, rfl⟩ rfl rfl ?_
  show ZK_Of_11 g Q 1 321 10 [(0, .ref 11)] [.ref 12, .ref 11] (shp_13, kI_18, kL_13, kR_23)
  refine gx_putr 3 3 (v := 12) dX3_init_10 fl_X3_11 rfl rfl rfl ⟨rfl, rfl⟩ ?_
  show ZK_Of_11 g Q 1 321 13 [(0, .ref 11)] [] (shp_13, kI_18, kL_13, kR_24)
  refine gx_aload_n 0 dX3_init_13 rfl rfl ?_
  refine gx_sipush (v := 321) dX3_init_14 (by decide) ?_
  refine gx_newa 1 (n := 321) (L := 13) dX3_init_17 rfl (by decide) aw_1 (by decide) rfl rfl ⟨rfl, rfl⟩ rfl rfl ?_
  show ZK_Of_11 g Q 2 642 19 [(0, .ref 11)] [.ref 13, .ref 11] (shp_14, kI_19, kL_14, kR_25)
  refine gx_putr 3 4 (v := 13) dX3_init_19 fl_X3_15 rfl rfl rfl ⟨rfl, rfl⟩ ?_
  show ZK_Of_11 g Q 2 642 22 [(0, .ref 11)] [] (shp_14, kI_19, kL_14, kR_26)
  exact gx_vret dX3_init_22 rfl rfl rfl hq
abbrev ZK_Fe_16 (g : gm_G) (Q : Option Value → gm_H → Prop) (cu su pc : Nat) (lv : List (Nat × Value)) (st : List Value) (h : gm_H) : Prop := gm_X g RX1 "<init>" cX1_init 1 none 1 3 18 Q cu su pc lv st h
set_option maxRecDepth 100000 in
theorem k_Fe_16 {g : gm_G} : gm_Met g yX1_init cX1_init 1 none 1 3 18 [.ref 16] (shp_17, kI_22, kL_17, kR_32) (fun v h => v = none ∧ h = (shp_20, kI_29, kL_20, kR_38)) := by
  refine gm_enter (lv := [(0, .ref 16)]) (by decide) rfl rfl rfl rfl ?_
  generalize hQ : (fun (v : Option Value) (h : gm_H) => v = none ∧ h = (shp_20, kI_29, kL_20, kR_38)) = Q
  have hq : Q none (shp_20, kI_29, kL_20, kR_38) := by rw [← hQ]; exact ⟨rfl, rfl⟩
  show ZK_Fe_16 g Q 0 0 0 [(0, .ref 16)] [] (shp_17, kI_22, kL_17, kR_32)
  refine gx_aload_n 0 dX1_init_0 rfl rfl ?_
  refine gx_obj dX1_init_1 ml_X1_3 mw_obj.1 mw_obj.2 rfl rfl ?_
  refine gx_aload_n 0 dX1_init_4 rfl rfl ?_
  refine gx_iconst (v := 1) dX1_init_5 (by decide) ?_
  refine gx_puti 1 0 dX1_init_6 fl_X1_9 rfl rfl rfl ⟨rfl, rfl⟩ ?_
  show ZK_Fe_16 g Q 0 0 9 [(0, .ref 16)] [] (shp_17, kI_23, kL_17, kR_32)
  refine gx_aload_n 0 dX1_init_9 rfl rfl ?_
  refine gx_bipush (v := 100) dX1_init_10 (by decide) ?_
  refine gx_puti 1 1 dX1_init_12 fl_X1_15 rfl rfl rfl ⟨rfl, rfl⟩ ?_
  show ZK_Fe_16 g Q 0 0 15 [(0, .ref 16)] [] (shp_17, kI_24, kL_17, kR_32)
  refine gx_aload_n 0 dX1_init_15 rfl rfl ?_
  refine gx_bipush (v := 6) dX1_init_16 (by decide) ?_
  refine gx_newa 0 (n := 6) (L := 17) dX1_init_18 rfl (by decide) aw_0 (by decide) rfl rfl ⟨rfl, rfl⟩ rfl rfl ?_
  show ZK_Fe_16 g Q 1 6 20 [(0, .ref 16)] [.ref 17, .ref 16] (shp_18, kI_25, kL_18, kR_33)
  refine gx_putF 1 6 (v := 17) dX1_init_20 fl_X1_18 rfl rfl rfl rfl rfl ⟨rfl, rfl⟩ ?_
  show ZK_Fe_16 g Q 1 6 23 [(0, .ref 16)] [] (shp_18, kI_25, kL_18, kR_34)
  refine gx_aload_n 0 dX1_init_23 rfl rfl ?_
  refine gx_bipush (v := 6) dX1_init_24 (by decide) ?_
  refine gx_newa 0 (n := 6) (L := 18) dX1_init_26 rfl (by decide) aw_0 (by decide) rfl rfl ⟨rfl, rfl⟩ rfl rfl ?_
  show ZK_Fe_16 g Q 2 12 28 [(0, .ref 16)] [.ref 18, .ref 16] (shp_19, kI_26, kL_19, kR_35)
  refine gx_putF 1 7 (v := 18) dX1_init_28 fl_X1_22 rfl rfl rfl rfl rfl ⟨rfl, rfl⟩ ?_
  show ZK_Fe_16 g Q 2 12 31 [(0, .ref 16)] [] (shp_19, kI_26, kL_19, kR_36)
  refine gx_aload_n 0 dX1_init_31 rfl rfl ?_
  refine gx_bipush (v := 6) dX1_init_32 (by decide) ?_
  refine gx_newa 0 (n := 6) (L := 19) dX1_init_34 rfl (by decide) aw_0 (by decide) rfl rfl ⟨rfl, rfl⟩ rfl rfl ?_
  show ZK_Fe_16 g Q 3 18 36 [(0, .ref 16)] [.ref 19, .ref 16] (shp_20, kI_27, kL_20, kR_37)
  refine gx_putF 1 8 (v := 19) dX1_init_36 fl_X1_25 rfl rfl rfl rfl rfl ⟨rfl, rfl⟩ ?_
  show ZK_Fe_16 g Q 3 18 39 [(0, .ref 16)] [] (shp_20, kI_27, kL_20, kR_38)
  refine gx_aload_n 0 dX1_init_39 rfl rfl ?_
  refine gx_bipush (v := 10) dX1_init_40 (by decide) ?_
  refine gx_puti 1 10 dX1_init_42 fl_X1_28 rfl rfl rfl ⟨rfl, rfl⟩ ?_
  show ZK_Fe_16 g Q 3 18 45 [(0, .ref 16)] [] (shp_20, kI_28, kL_20, kR_38)
  refine gx_aload_n 0 dX1_init_45 rfl rfl ?_
  refine gx_bipush (v := 100) dX1_init_46 (by decide) ?_
  refine gx_puti 1 11 dX1_init_48 fl_X1_31 rfl rfl rfl ⟨rfl, rfl⟩ ?_
  show ZK_Fe_16 g Q 3 18 51 [(0, .ref 16)] [] (shp_20, kI_29, kL_20, kR_38)
  exact gx_vret dX1_init_51 rfl rfl rfl hq
abbrev ZK_Sh_20 (g : gm_G) (Q : Option Value → gm_H → Prop) (cu su pc : Nat) (lv : List (Nat × Value)) (st : List Value) (h : gm_H) : Prop := gm_X g RX8 "<init>" cX8_init 1 none 1 2 80 Q cu su pc lv st h
set_option maxRecDepth 100000 in
theorem k_Sh_20 {g : gm_G} : gm_Met g yX8_init cX8_init 1 none 1 2 80 [.ref 20] (shp_21, kI_30, kL_21, kR_39) (fun v h => v = none ∧ h = (shp_23, kI_32, kL_23, kR_43)) := by
  refine gm_enter (lv := [(0, .ref 20)]) (by decide) rfl rfl rfl rfl ?_
  generalize hQ : (fun (v : Option Value) (h : gm_H) => v = none ∧ h = (shp_23, kI_32, kL_23, kR_43)) = Q
  have hq : Q none (shp_23, kI_32, kL_23, kR_43) := by rw [← hQ]; exact ⟨rfl, rfl⟩
  show ZK_Sh_20 g Q 0 0 0 [(0, .ref 20)] [] (shp_21, kI_30, kL_21, kR_39)
  refine gx_aload_n 0 dX8_init_0 rfl rfl ?_
  refine gx_obj dX8_init_1 ml_X8_3 mw_obj.1 mw_obj.2 rfl rfl ?_
  refine gx_aload_n 0 dX8_init_4 rfl rfl ?_
  refine gx_bipush (v := 40) dX8_init_5 (by decide) ?_
  refine gx_newa 0 (n := 40) (L := 21) dX8_init_7 rfl (by decide) aw_0 (by decide) rfl rfl ⟨rfl, rfl⟩ rfl rfl ?_
  show ZK_Sh_20 g Q 1 40 9 [(0, .ref 20)] [.ref 21, .ref 20] (shp_22, kI_31, kL_22, kR_40)
  refine gx_putF 8 0 (v := 21) dX8_init_9 fl_X8_9 rfl rfl rfl rfl rfl ⟨rfl, rfl⟩ ?_
  show ZK_Sh_20 g Q 1 40 12 [(0, .ref 20)] [] (shp_22, kI_31, kL_22, kR_41)
  refine gx_aload_n 0 dX8_init_12 rfl rfl ?_
  refine gx_bipush (v := 40) dX8_init_13 (by decide) ?_
  refine gx_newa 0 (n := 40) (L := 22) dX8_init_15 rfl (by decide) aw_0 (by decide) rfl rfl ⟨rfl, rfl⟩ rfl rfl ?_
  show ZK_Sh_20 g Q 2 80 17 [(0, .ref 20)] [.ref 22, .ref 20] (shp_23, kI_32, kL_23, kR_42)
  refine gx_putF 8 1 (v := 22) dX8_init_17 fl_X8_15 rfl rfl rfl rfl rfl ⟨rfl, rfl⟩ ?_
  show ZK_Sh_20 g Q 2 80 20 [(0, .ref 20)] [] (shp_23, kI_32, kL_23, kR_43)
  exact gx_vret dX8_init_20 rfl rfl rfl hq
abbrev ZK_Re_24 (g : gm_G) (Q : Option Value → gm_H → Prop) (cu su pc : Nat) (lv : List (Nat × Value)) (st : List Value) (h : gm_H) : Prop := gm_X g RX4 "<init>" cX4_init 1 none 1 0 0 Q cu su pc lv st h
set_option maxRecDepth 100000 in
theorem k_Re_24 {g : gm_G} : gm_Met g yX4_init cX4_init 1 none 1 0 0 [.ref 24] (shp_25, kI_34, kL_25, kR_45) (fun v h => v = none ∧ h = (shp_25, kI_34, kL_25, kR_45)) := by
  refine gm_enter (lv := [(0, .ref 24)]) (by decide) rfl rfl rfl rfl ?_
  generalize hQ : (fun (v : Option Value) (h : gm_H) => v = none ∧ h = (shp_25, kI_34, kL_25, kR_45)) = Q
  have hq : Q none (shp_25, kI_34, kL_25, kR_45) := by rw [← hQ]; exact ⟨rfl, rfl⟩
  show ZK_Re_24 g Q 0 0 0 [(0, .ref 24)] [] (shp_25, kI_34, kL_25, kR_45)
  refine gx_aload_n 0 dX4_init_0 rfl rfl ?_
  refine gx_obj dX4_init_1 ml_X4_1 mw_obj.1 mw_obj.2 rfl rfl ?_
  exact gx_vret dX4_init_4 rfl rfl rfl hq
abbrev ZK_Sr_23 (g : gm_G) (Q : Option Value → gm_H → Prop) (cu su pc : Nat) (lv : List (Nat × Value)) (st : List Value) (h : gm_H) : Prop := gm_X g RX7 "<init>" cX7_init 3 none 2 5 804 Q cu su pc lv st h
set_option maxRecDepth 100000 in
theorem k_Sr_23 {g : gm_G} : gm_Met g yX7_init cX7_init 3 none 2 5 804 [.ref 23, .ref 16, .ref 20] (shp_24, kI_33, kL_24, kR_44) (fun v h => v = none ∧ h = (shp_29, kI_38, kL_29, kR_56)) := by
  refine gm_enter (lv := [(0, .ref 23), (1, .ref 16), (2, .ref 20)]) (by decide) rfl rfl rfl rfl ?_
  generalize hQ : (fun (v : Option Value) (h : gm_H) => v = none ∧ h = (shp_29, kI_38, kL_29, kR_56)) = Q
  have hq : Q none (shp_29, kI_38, kL_29, kR_56) := by rw [← hQ]; exact ⟨rfl, rfl⟩
  show ZK_Sr_23 g Q 0 0 0 [(0, .ref 23), (1, .ref 16), (2, .ref 20)] [] (shp_24, kI_33, kL_24, kR_44)
  refine gx_aload_n 0 dX7_init_0 rfl rfl ?_
  refine gx_obj dX7_init_1 ml_X7_3 mw_obj.1 mw_obj.2 rfl rfl ?_
  refine gx_aload_n 0 dX7_init_4 rfl rfl ?_
  refine gx_new 4 (L := 24) dX7_init_5 (by decide) cl_X7_9 is_X4.1 is_X4.2 ⟨rfl, rfl⟩ rfl rfl ?_
  show ZK_Sr_23 g Q 1 3 8 [(0, .ref 23), (1, .ref 16), (2, .ref 20)] [.ref 24, .ref 23] (shp_25, kI_34, kL_25, kR_45)
  refine gx_dup dX7_init_8 rfl ?_
  refine gx_callIN (As := []) (st := [.ref 24, .ref 23]) dX7_init_9 "JarGuess" nl_X7_11 mm_X4_init rfl rfl rfl rfl rfl ⟨rfl, rfl⟩ k_Re_24 (fun v h2 hq => ?_)
  obtain ⟨rfl, rfl⟩ := hq
  show ZK_Sr_23 g Q 1 3 12 [(0, .ref 23), (1, .ref 16), (2, .ref 20)] [.ref 24, .ref 23] (shp_25, kI_34, kL_25, kR_45)
  refine gx_putF 7 2 (v := 24) dX7_init_12 fl_X7_12 rfl rfl rfl rfl rfl ⟨rfl, rfl⟩ ?_
  show ZK_Sr_23 g Q 1 3 15 [(0, .ref 23), (1, .ref 16), (2, .ref 20)] [] (shp_25, kI_34, kL_25, kR_46)
  refine gx_aload_n 0 dX7_init_15 rfl rfl ?_
  refine gx_sipush (v := 201) dX7_init_16 (by decide) ?_
  refine gx_newa 1 (n := 201) (L := 25) dX7_init_19 rfl (by decide) aw_1 (by decide) rfl rfl ⟨rfl, rfl⟩ rfl rfl ?_
  show ZK_Sr_23 g Q 2 204 21 [(0, .ref 23), (1, .ref 16), (2, .ref 20)] [.ref 25, .ref 23] (shp_26, kI_35, kL_26, kR_47)
  refine gx_putF 7 3 (v := 25) dX7_init_21 fl_X7_18 rfl rfl rfl rfl rfl ⟨rfl, rfl⟩ ?_
  show ZK_Sr_23 g Q 2 204 24 [(0, .ref 23), (1, .ref 16), (2, .ref 20)] [] (shp_26, kI_35, kL_26, kR_48)
  refine gx_aload_n 0 dX7_init_24 rfl rfl ?_
  refine gx_sipush (v := 200) dX7_init_25 (by decide) ?_
  refine gx_newa 0 (n := 200) (L := 26) dX7_init_28 rfl (by decide) aw_0 (by decide) rfl rfl ⟨rfl, rfl⟩ rfl rfl ?_
  show ZK_Sr_23 g Q 3 404 30 [(0, .ref 23), (1, .ref 16), (2, .ref 20)] [.ref 26, .ref 23] (shp_27, kI_36, kL_27, kR_49)
  refine gx_putF 7 4 (v := 26) dX7_init_30 fl_X7_22 rfl rfl rfl rfl rfl ⟨rfl, rfl⟩ ?_
  show ZK_Sr_23 g Q 3 404 33 [(0, .ref 23), (1, .ref 16), (2, .ref 20)] [] (shp_27, kI_36, kL_27, kR_50)
  refine gx_aload_n 0 dX7_init_33 rfl rfl ?_
  refine gx_sipush (v := 200) dX7_init_34 (by decide) ?_
  refine gx_newa 0 (n := 200) (L := 27) dX7_init_37 rfl (by decide) aw_0 (by decide) rfl rfl ⟨rfl, rfl⟩ rfl rfl ?_
  show ZK_Sr_23 g Q 4 604 39 [(0, .ref 23), (1, .ref 16), (2, .ref 20)] [.ref 27, .ref 23] (shp_28, kI_37, kL_28, kR_51)
  refine gx_putF 7 5 (v := 27) dX7_init_39 fl_X7_26 rfl rfl rfl rfl rfl ⟨rfl, rfl⟩ ?_
  show ZK_Sr_23 g Q 4 604 42 [(0, .ref 23), (1, .ref 16), (2, .ref 20)] [] (shp_28, kI_37, kL_28, kR_52)
  refine gx_aload_n 0 dX7_init_42 rfl rfl ?_
  refine gx_sipush (v := 200) dX7_init_43 (by decide) ?_
  refine gx_newa 1 (n := 200) (L := 28) dX7_init_46 rfl (by decide) aw_1 (by decide) rfl rfl ⟨rfl, rfl⟩ rfl rfl ?_
  show ZK_Sr_23 g Q 5 804 48 [(0, .ref 23), (1, .ref 16), (2, .ref 20)] [.ref 28, .ref 23] (shp_29, kI_38, kL_29, kR_53)
  refine gx_putF 7 6 (v := 28) dX7_init_48 fl_X7_29 rfl rfl rfl rfl rfl ⟨rfl, rfl⟩ ?_
  show ZK_Sr_23 g Q 5 804 51 [(0, .ref 23), (1, .ref 16), (2, .ref 20)] [] (shp_29, kI_38, kL_29, kR_54)
  refine gx_aload_n 0 dX7_init_51 rfl rfl ?_
  refine gx_aload_n 1 dX7_init_52 rfl rfl ?_
  refine gx_putF 7 0 (v := 16) dX7_init_53 fl_X7_32 rfl rfl rfl rfl rfl ⟨rfl, rfl⟩ ?_
  show ZK_Sr_23 g Q 5 804 56 [(0, .ref 23), (1, .ref 16), (2, .ref 20)] [] (shp_29, kI_38, kL_29, kR_55)
  refine gx_aload_n 0 dX7_init_56 rfl rfl ?_
  refine gx_aload_n 2 dX7_init_57 rfl rfl ?_
  refine gx_putF 7 1 (v := 20) dX7_init_58 fl_X7_36 rfl rfl rfl rfl rfl ⟨rfl, rfl⟩ ?_
  show ZK_Sr_23 g Q 5 804 61 [(0, .ref 23), (1, .ref 16), (2, .ref 20)] [] (shp_29, kI_38, kL_29, kR_56)
  exact gx_vret dX7_init_61 rfl rfl rfl hq
abbrev ZK_Wr_29 (g : gm_G) (Q : Option Value → gm_H → Prop) (cu su pc : Nat) (lv : List (Nat × Value)) (st : List Value) (h : gm_H) : Prop := gm_X g RX9 "<init>" cX9_init 2 none 1 5 15 Q cu su pc lv st h
set_option maxRecDepth 100000 in
theorem k_Wr_29 {g : gm_G} : gm_Met g yX9_init cX9_init 2 none 1 5 15 [.ref 29, .ref 23] (shp_30, kI_39, kL_30, kR_60) (fun v h => v = none ∧ h = (shp_35, kI_41, kL_32, kR_65)) := by
  refine gm_enter (lv := [(0, .ref 29), (1, .ref 23)]) (by decide) rfl rfl rfl rfl ?_
  generalize hQ : (fun (v : Option Value) (h : gm_H) => v = none ∧ h = (shp_35, kI_41, kL_32, kR_65)) = Q
  have hq : Q none (shp_35, kI_41, kL_32, kR_65) := by rw [← hQ]; exact ⟨rfl, rfl⟩
  show ZK_Wr_29 g Q 0 0 0 [(0, .ref 29), (1, .ref 23)] [] (shp_30, kI_39, kL_30, kR_60)
  refine gx_aload_n 0 dX9_init_0 rfl rfl ?_
  refine gx_obj dX9_init_1 ml_X9_3 mw_obj.1 mw_obj.2 rfl rfl ?_
  refine gx_aload_n 0 dX9_init_4 rfl rfl ?_
  refine gx_iconst (v := 3) dX9_init_5 (by decide) ?_
  refine gx_newa 0 (n := 3) (L := 30) dX9_init_6 rfl (by decide) aw_0 (by decide) rfl rfl ⟨rfl, rfl⟩ rfl rfl ?_
  show ZK_Wr_29 g Q 1 3 8 [(0, .ref 29), (1, .ref 23)] [.ref 30, .ref 29] (shp_31, kI_40, kL_31, kR_61)
  refine gx_putF 9 0 (v := 30) dX9_init_8 fl_X9_9 rfl rfl rfl rfl rfl ⟨rfl, rfl⟩ ?_
  show ZK_Wr_29 g Q 1 3 11 [(0, .ref 29), (1, .ref 23)] [] (shp_31, kI_40, kL_31, kR_62)
  refine gx_aload_n 0 dX9_init_11 rfl rfl ?_
  refine gx_iconst (v := 3) dX9_init_12 (by decide) ?_
  refine gx_iconst (v := 3) dX9_init_13 (by decide) ?_
  refine gx_mna (L := 31) dX9_init_14 cl_X9_15 ⟨rfl, rfl⟩ rfl rfl ?_
  show ZK_Wr_29 g Q 5 15 18 [(0, .ref 29), (1, .ref 23)] [.ref 31, .ref 29] (shp_35, kI_41, kL_32, kR_63)
  refine gx_putF 9 1 (v := 31) dX9_init_18 fl_X9_17 rfl rfl rfl rfl rfl ⟨rfl, rfl⟩ ?_
  show ZK_Wr_29 g Q 5 15 21 [(0, .ref 29), (1, .ref 23)] [] (shp_35, kI_41, kL_32, kR_64)
  refine gx_aload_n 0 dX9_init_21 rfl rfl ?_
  refine gx_aload_n 1 dX9_init_22 rfl rfl ?_
  refine gx_putF 9 2 (v := 23) dX9_init_23 fl_X9_20 rfl rfl rfl rfl rfl ⟨rfl, rfl⟩ ?_
  show ZK_Wr_29 g Q 5 15 26 [(0, .ref 29), (1, .ref 23)] [] (shp_35, kI_41, kL_32, kR_65)
  exact gx_vret dX9_init_26 rfl rfl rfl hq
abbrev ZK_Ro_35 (g : gm_G) (Q : Option Value → gm_H → Prop) (cu su pc : Nat) (lv : List (Nat × Value)) (st : List Value) (h : gm_H) : Prop := gm_X g RX6 "<init>" cX6_init 1 none 1 1 40 Q cu su pc lv st h
set_option maxRecDepth 100000 in
theorem k_Ro_35 {g : gm_G} : gm_Met g yX6_init cX6_init 1 none 1 1 40 [.ref 35] (shp_36, kI_42, kL_33, kR_67) (fun v h => v = none ∧ h = (shp_37, kI_44, kL_34, kR_69)) := by
  refine gm_enter (lv := [(0, .ref 35)]) (by decide) rfl rfl rfl rfl ?_
  generalize hQ : (fun (v : Option Value) (h : gm_H) => v = none ∧ h = (shp_37, kI_44, kL_34, kR_69)) = Q
  have hq : Q none (shp_37, kI_44, kL_34, kR_69) := by rw [← hQ]; exact ⟨rfl, rfl⟩
  show ZK_Ro_35 g Q 0 0 0 [(0, .ref 35)] [] (shp_36, kI_42, kL_33, kR_67)
  refine gx_aload_n 0 dX6_init_0 rfl rfl ?_
  refine gx_obj dX6_init_1 ml_X6_3 mw_obj.1 mw_obj.2 rfl rfl ?_
  refine gx_aload_n 0 dX6_init_4 rfl rfl ?_
  refine gx_bipush (v := 40) dX6_init_5 (by decide) ?_
  refine gx_newa 1 (n := 40) (L := 36) dX6_init_7 rfl (by decide) aw_1 (by decide) rfl rfl ⟨rfl, rfl⟩ rfl rfl ?_
  show ZK_Ro_35 g Q 1 40 9 [(0, .ref 35)] [.ref 36, .ref 35] (shp_37, kI_43, kL_34, kR_68)
  refine gx_putF 6 0 (v := 36) dX6_init_9 fl_X6_9 rfl rfl rfl rfl rfl ⟨rfl, rfl⟩ ?_
  show ZK_Ro_35 g Q 1 40 12 [(0, .ref 35)] [] (shp_37, kI_43, kL_34, kR_69)
  refine gx_aload_n 0 dX6_init_12 rfl rfl ?_
  refine gx_iconst (v := (-1)) dX6_init_13 (by decide) ?_
  refine gx_puti 6 1 dX6_init_14 fl_X6_15 rfl rfl rfl ⟨rfl, rfl⟩ ?_
  show ZK_Ro_35 g Q 1 40 17 [(0, .ref 35)] [] (shp_37, kI_44, kL_34, kR_69)
  exact gx_vret dX6_init_17 rfl rfl rfl hq
abbrev ZK_Ro_37 (g : gm_G) (Q : Option Value → gm_H → Prop) (cu su pc : Nat) (lv : List (Nat × Value)) (st : List Value) (h : gm_H) : Prop := gm_X g RX6 "<init>" cX6_init 1 none 1 1 40 Q cu su pc lv st h
set_option maxRecDepth 100000 in
theorem k_Ro_37 {g : gm_G} : gm_Met g yX6_init cX6_init 1 none 1 1 40 [.ref 37] (shp_38, kI_45, kL_35, kR_71) (fun v h => v = none ∧ h = (shp_39, kI_47, kL_36, kR_73)) := by
  refine gm_enter (lv := [(0, .ref 37)]) (by decide) rfl rfl rfl rfl ?_
  generalize hQ : (fun (v : Option Value) (h : gm_H) => v = none ∧ h = (shp_39, kI_47, kL_36, kR_73)) = Q
  have hq : Q none (shp_39, kI_47, kL_36, kR_73) := by rw [← hQ]; exact ⟨rfl, rfl⟩
  show ZK_Ro_37 g Q 0 0 0 [(0, .ref 37)] [] (shp_38, kI_45, kL_35, kR_71)
  refine gx_aload_n 0 dX6_init_0 rfl rfl ?_
  refine gx_obj dX6_init_1 ml_X6_3 mw_obj.1 mw_obj.2 rfl rfl ?_
  refine gx_aload_n 0 dX6_init_4 rfl rfl ?_
  refine gx_bipush (v := 40) dX6_init_5 (by decide) ?_
  refine gx_newa 1 (n := 40) (L := 38) dX6_init_7 rfl (by decide) aw_1 (by decide) rfl rfl ⟨rfl, rfl⟩ rfl rfl ?_
  show ZK_Ro_37 g Q 1 40 9 [(0, .ref 37)] [.ref 38, .ref 37] (shp_39, kI_46, kL_36, kR_72)
  refine gx_putF 6 0 (v := 38) dX6_init_9 fl_X6_9 rfl rfl rfl rfl rfl ⟨rfl, rfl⟩ ?_
  show ZK_Ro_37 g Q 1 40 12 [(0, .ref 37)] [] (shp_39, kI_46, kL_36, kR_73)
  refine gx_aload_n 0 dX6_init_12 rfl rfl ?_
  refine gx_iconst (v := (-1)) dX6_init_13 (by decide) ?_
  refine gx_puti 6 1 dX6_init_14 fl_X6_15 rfl rfl rfl ⟨rfl, rfl⟩ ?_
  show ZK_Ro_37 g Q 1 40 17 [(0, .ref 37)] [] (shp_39, kI_47, kL_36, kR_73)
  exact gx_vret dX6_init_17 rfl rfl rfl hq
abbrev ZK_Ro_39 (g : gm_G) (Q : Option Value → gm_H → Prop) (cu su pc : Nat) (lv : List (Nat × Value)) (st : List Value) (h : gm_H) : Prop := gm_X g RX6 "<init>" cX6_init 1 none 1 1 40 Q cu su pc lv st h
set_option maxRecDepth 100000 in
theorem k_Ro_39 {g : gm_G} : gm_Met g yX6_init cX6_init 1 none 1 1 40 [.ref 39] (shp_40, kI_48, kL_37, kR_75) (fun v h => v = none ∧ h = (shp_41, kI_50, kL_38, kR_77)) := by
  refine gm_enter (lv := [(0, .ref 39)]) (by decide) rfl rfl rfl rfl ?_
  generalize hQ : (fun (v : Option Value) (h : gm_H) => v = none ∧ h = (shp_41, kI_50, kL_38, kR_77)) = Q
  have hq : Q none (shp_41, kI_50, kL_38, kR_77) := by rw [← hQ]; exact ⟨rfl, rfl⟩
  show ZK_Ro_39 g Q 0 0 0 [(0, .ref 39)] [] (shp_40, kI_48, kL_37, kR_75)
  refine gx_aload_n 0 dX6_init_0 rfl rfl ?_
  refine gx_obj dX6_init_1 ml_X6_3 mw_obj.1 mw_obj.2 rfl rfl ?_
  refine gx_aload_n 0 dX6_init_4 rfl rfl ?_
  refine gx_bipush (v := 40) dX6_init_5 (by decide) ?_
  refine gx_newa 1 (n := 40) (L := 40) dX6_init_7 rfl (by decide) aw_1 (by decide) rfl rfl ⟨rfl, rfl⟩ rfl rfl ?_
  show ZK_Ro_39 g Q 1 40 9 [(0, .ref 39)] [.ref 40, .ref 39] (shp_41, kI_49, kL_38, kR_76)
  refine gx_putF 6 0 (v := 40) dX6_init_9 fl_X6_9 rfl rfl rfl rfl rfl ⟨rfl, rfl⟩ ?_
  show ZK_Ro_39 g Q 1 40 12 [(0, .ref 39)] [] (shp_41, kI_49, kL_38, kR_77)
  refine gx_aload_n 0 dX6_init_12 rfl rfl ?_
  refine gx_iconst (v := (-1)) dX6_init_13 (by decide) ?_
  refine gx_puti 6 1 dX6_init_14 fl_X6_15 rfl rfl rfl ⟨rfl, rfl⟩ ?_
  show ZK_Ro_39 g Q 1 40 17 [(0, .ref 39)] [] (shp_41, kI_50, kL_38, kR_77)
  exact gx_vret dX6_init_17 rfl rfl rfl hq
abbrev ZK_Ro_41 (g : gm_G) (Q : Option Value → gm_H → Prop) (cu su pc : Nat) (lv : List (Nat × Value)) (st : List Value) (h : gm_H) : Prop := gm_X g RX6 "<init>" cX6_init 1 none 1 1 40 Q cu su pc lv st h
set_option maxRecDepth 100000 in
theorem k_Ro_41 {g : gm_G} : gm_Met g yX6_init cX6_init 1 none 1 1 40 [.ref 41] (shp_42, kI_51, kL_39, kR_79) (fun v h => v = none ∧ h = (shp_43, kI_53, kL_40, kR_81)) := by
  refine gm_enter (lv := [(0, .ref 41)]) (by decide) rfl rfl rfl rfl ?_
  generalize hQ : (fun (v : Option Value) (h : gm_H) => v = none ∧ h = (shp_43, kI_53, kL_40, kR_81)) = Q
  have hq : Q none (shp_43, kI_53, kL_40, kR_81) := by rw [← hQ]; exact ⟨rfl, rfl⟩
  show ZK_Ro_41 g Q 0 0 0 [(0, .ref 41)] [] (shp_42, kI_51, kL_39, kR_79)
  refine gx_aload_n 0 dX6_init_0 rfl rfl ?_
  refine gx_obj dX6_init_1 ml_X6_3 mw_obj.1 mw_obj.2 rfl rfl ?_
  refine gx_aload_n 0 dX6_init_4 rfl rfl ?_
  refine gx_bipush (v := 40) dX6_init_5 (by decide) ?_
  refine gx_newa 1 (n := 40) (L := 42) dX6_init_7 rfl (by decide) aw_1 (by decide) rfl rfl ⟨rfl, rfl⟩ rfl rfl ?_
  show ZK_Ro_41 g Q 1 40 9 [(0, .ref 41)] [.ref 42, .ref 41] (shp_43, kI_52, kL_40, kR_80)
  refine gx_putF 6 0 (v := 42) dX6_init_9 fl_X6_9 rfl rfl rfl rfl rfl ⟨rfl, rfl⟩ ?_
  show ZK_Ro_41 g Q 1 40 12 [(0, .ref 41)] [] (shp_43, kI_52, kL_40, kR_81)
  refine gx_aload_n 0 dX6_init_12 rfl rfl ?_
  refine gx_iconst (v := (-1)) dX6_init_13 (by decide) ?_
  refine gx_puti 6 1 dX6_init_14 fl_X6_15 rfl rfl rfl ⟨rfl, rfl⟩ ?_
  show ZK_Ro_41 g Q 1 40 17 [(0, .ref 41)] [] (shp_43, kI_53, kL_40, kR_81)
  exact gx_vret dX6_init_17 rfl rfl rfl hq
abbrev ZK_Fe_44 (g : gm_G) (Q : Option Value → gm_H → Prop) (cu su pc : Nat) (lv : List (Nat × Value)) (st : List Value) (h : gm_H) : Prop := gm_X g RX1 "<init>" cX1_init 1 none 1 3 18 Q cu su pc lv st h
set_option maxRecDepth 100000 in
theorem k_Fe_44 {g : gm_G} : gm_Met g yX1_init cX1_init 1 none 1 3 18 [.ref 44] (shp_45, kI_55, kL_42, kR_84) (fun v h => v = none ∧ h = (shp_48, kI_62, kL_45, kR_90)) := by
  refine gm_enter (lv := [(0, .ref 44)]) (by decide) rfl rfl rfl rfl ?_
  generalize hQ : (fun (v : Option Value) (h : gm_H) => v = none ∧ h = (shp_48, kI_62, kL_45, kR_90)) = Q
  have hq : Q none (shp_48, kI_62, kL_45, kR_90) := by rw [← hQ]; exact ⟨rfl, rfl⟩
  show ZK_Fe_44 g Q 0 0 0 [(0, .ref 44)] [] (shp_45, kI_55, kL_42, kR_84)
  refine gx_aload_n 0 dX1_init_0 rfl rfl ?_
  refine gx_obj dX1_init_1 ml_X1_3 mw_obj.1 mw_obj.2 rfl rfl ?_
  refine gx_aload_n 0 dX1_init_4 rfl rfl ?_
  refine gx_iconst (v := 1) dX1_init_5 (by decide) ?_
  refine gx_puti 1 0 dX1_init_6 fl_X1_9 rfl rfl rfl ⟨rfl, rfl⟩ ?_
  show ZK_Fe_44 g Q 0 0 9 [(0, .ref 44)] [] (shp_45, kI_56, kL_42, kR_84)
  refine gx_aload_n 0 dX1_init_9 rfl rfl ?_
  refine gx_bipush (v := 100) dX1_init_10 (by decide) ?_
  refine gx_puti 1 1 dX1_init_12 fl_X1_15 rfl rfl rfl ⟨rfl, rfl⟩ ?_
  show ZK_Fe_44 g Q 0 0 15 [(0, .ref 44)] [] (shp_45, kI_57, kL_42, kR_84)
  refine gx_aload_n 0 dX1_init_15 rfl rfl ?_
  refine gx_bipush (v := 6) dX1_init_16 (by decide) ?_
  refine gx_newa 0 (n := 6) (L := 45) dX1_init_18 rfl (by decide) aw_0 (by decide) rfl rfl ⟨rfl, rfl⟩ rfl rfl ?_
  show ZK_Fe_44 g Q 1 6 20 [(0, .ref 44)] [.ref 45, .ref 44] (shp_46, kI_58, kL_43, kR_85)
  refine gx_putF 1 6 (v := 45) dX1_init_20 fl_X1_18 rfl rfl rfl rfl rfl ⟨rfl, rfl⟩ ?_
  show ZK_Fe_44 g Q 1 6 23 [(0, .ref 44)] [] (shp_46, kI_58, kL_43, kR_86)
  refine gx_aload_n 0 dX1_init_23 rfl rfl ?_
  refine gx_bipush (v := 6) dX1_init_24 (by decide) ?_
  refine gx_newa 0 (n := 6) (L := 46) dX1_init_26 rfl (by decide) aw_0 (by decide) rfl rfl ⟨rfl, rfl⟩ rfl rfl ?_
  show ZK_Fe_44 g Q 2 12 28 [(0, .ref 44)] [.ref 46, .ref 44] (shp_47, kI_59, kL_44, kR_87)
  refine gx_putF 1 7 (v := 46) dX1_init_28 fl_X1_22 rfl rfl rfl rfl rfl ⟨rfl, rfl⟩ ?_
  show ZK_Fe_44 g Q 2 12 31 [(0, .ref 44)] [] (shp_47, kI_59, kL_44, kR_88)
  refine gx_aload_n 0 dX1_init_31 rfl rfl ?_
  refine gx_bipush (v := 6) dX1_init_32 (by decide) ?_
  refine gx_newa 0 (n := 6) (L := 47) dX1_init_34 rfl (by decide) aw_0 (by decide) rfl rfl ⟨rfl, rfl⟩ rfl rfl ?_
  show ZK_Fe_44 g Q 3 18 36 [(0, .ref 44)] [.ref 47, .ref 44] (shp_48, kI_60, kL_45, kR_89)
  refine gx_putF 1 8 (v := 47) dX1_init_36 fl_X1_25 rfl rfl rfl rfl rfl ⟨rfl, rfl⟩ ?_
  show ZK_Fe_44 g Q 3 18 39 [(0, .ref 44)] [] (shp_48, kI_60, kL_45, kR_90)
  refine gx_aload_n 0 dX1_init_39 rfl rfl ?_
  refine gx_bipush (v := 10) dX1_init_40 (by decide) ?_
  refine gx_puti 1 10 dX1_init_42 fl_X1_28 rfl rfl rfl ⟨rfl, rfl⟩ ?_
  show ZK_Fe_44 g Q 3 18 45 [(0, .ref 44)] [] (shp_48, kI_61, kL_45, kR_90)
  refine gx_aload_n 0 dX1_init_45 rfl rfl ?_
  refine gx_bipush (v := 100) dX1_init_46 (by decide) ?_
  refine gx_puti 1 11 dX1_init_48 fl_X1_31 rfl rfl rfl ⟨rfl, rfl⟩ ?_
  show ZK_Fe_44 g Q 3 18 51 [(0, .ref 44)] [] (shp_48, kI_62, kL_45, kR_90)
  exact gx_vret dX1_init_51 rfl rfl rfl hq
abbrev ZK_Sh_48 (g : gm_G) (Q : Option Value → gm_H → Prop) (cu su pc : Nat) (lv : List (Nat × Value)) (st : List Value) (h : gm_H) : Prop := gm_X g RX8 "<init>" cX8_init 1 none 1 2 80 Q cu su pc lv st h
set_option maxRecDepth 100000 in
theorem k_Sh_48 {g : gm_G} : gm_Met g yX8_init cX8_init 1 none 1 2 80 [.ref 48] (shp_49, kI_63, kL_46, kR_92) (fun v h => v = none ∧ h = (shp_51, kI_65, kL_48, kR_96)) := by
  refine gm_enter (lv := [(0, .ref 48)]) (by decide) rfl rfl rfl rfl ?_
  generalize hQ : (fun (v : Option Value) (h : gm_H) => v = none ∧ h = (shp_51, kI_65, kL_48, kR_96)) = Q
  have hq : Q none (shp_51, kI_65, kL_48, kR_96) := by rw [← hQ]; exact ⟨rfl, rfl⟩
  show ZK_Sh_48 g Q 0 0 0 [(0, .ref 48)] [] (shp_49, kI_63, kL_46, kR_92)
  refine gx_aload_n 0 dX8_init_0 rfl rfl ?_
  refine gx_obj dX8_init_1 ml_X8_3 mw_obj.1 mw_obj.2 rfl rfl ?_
  refine gx_aload_n 0 dX8_init_4 rfl rfl ?_
  refine gx_bipush (v := 40) dX8_init_5 (by decide) ?_
  refine gx_newa 0 (n := 40) (L := 49) dX8_init_7 rfl (by decide) aw_0 (by decide) rfl rfl ⟨rfl, rfl⟩ rfl rfl ?_
  show ZK_Sh_48 g Q 1 40 9 [(0, .ref 48)] [.ref 49, .ref 48] (shp_50, kI_64, kL_47, kR_93)
  refine gx_putF 8 0 (v := 49) dX8_init_9 fl_X8_9 rfl rfl rfl rfl rfl ⟨rfl, rfl⟩ ?_
  show ZK_Sh_48 g Q 1 40 12 [(0, .ref 48)] [] (shp_50, kI_64, kL_47, kR_94)
  refine gx_aload_n 0 dX8_init_12 rfl rfl ?_
  refine gx_bipush (v := 40) dX8_init_13 (by decide) ?_
  refine gx_newa 0 (n := 40) (L := 50) dX8_init_15 rfl (by decide) aw_0 (by decide) rfl rfl ⟨rfl, rfl⟩ rfl rfl ?_
  show ZK_Sh_48 g Q 2 80 17 [(0, .ref 48)] [.ref 50, .ref 48] (shp_51, kI_65, kL_48, kR_95)
  refine gx_putF 8 1 (v := 50) dX8_init_17 fl_X8_15 rfl rfl rfl rfl rfl ⟨rfl, rfl⟩ ?_
  show ZK_Sh_48 g Q 2 80 20 [(0, .ref 48)] [] (shp_51, kI_65, kL_48, kR_96)
  exact gx_vret dX8_init_20 rfl rfl rfl hq
abbrev ZK_Im_43 (g : gm_G) (Q : Option Value → gm_H → Prop) (cu su pc : Nat) (lv : List (Nat × Value)) (st : List Value) (h : gm_H) : Prop := gm_X g RX2 "<init>" cX2_init 1 none 2 7 115 Q cu su pc lv st h
set_option maxRecDepth 100000 in
theorem k_Im_43 {g : gm_G} : gm_Met g yX2_init cX2_init 1 none 2 7 115 [.ref 43] (shp_44, kI_54, kL_41, kR_83) (fun v h => v = none ∧ h = (shp_51, kI_65, kL_48, kR_97)) := by
  refine gm_enter (lv := [(0, .ref 43)]) (by decide) rfl rfl rfl rfl ?_
  generalize hQ : (fun (v : Option Value) (h : gm_H) => v = none ∧ h = (shp_51, kI_65, kL_48, kR_97)) = Q
  have hq : Q none (shp_51, kI_65, kL_48, kR_97) := by rw [← hQ]; exact ⟨rfl, rfl⟩
  show ZK_Im_43 g Q 0 0 0 [(0, .ref 43)] [] (shp_44, kI_54, kL_41, kR_83)
  refine gx_aload_n 0 dX2_init_0 rfl rfl ?_
  refine gx_obj dX2_init_1 ml_X2_1 mw_obj.1 mw_obj.2 rfl rfl ?_
  refine gx_aload_n 0 dX2_init_4 rfl rfl ?_
  refine gx_new 1 (L := 44) dX2_init_5 (by decide) cl_X2_7 is_X1.1 is_X1.2 ⟨rfl, rfl⟩ rfl rfl ?_
  show ZK_Im_43 g Q 1 14 8 [(0, .ref 43)] [.ref 44, .ref 43] (shp_45, kI_55, kL_42, kR_84)
  refine gx_dup dX2_init_8 rfl ?_
  refine gx_callIN (As := []) (st := [.ref 44, .ref 43]) dX2_init_9 "JarGuess" nl_X2_9 mm_X1_init rfl rfl rfl rfl rfl ⟨rfl, rfl⟩ k_Fe_44 (fun v h2 hq => ?_)
  obtain ⟨rfl, rfl⟩ := hq
  show ZK_Im_43 g Q 4 32 12 [(0, .ref 43)] [.ref 44, .ref 43] (shp_48, kI_62, kL_45, kR_90)
  refine gx_putF 2 0 (v := 44) dX2_init_12 fl_X2_10 rfl rfl rfl rfl rfl ⟨rfl, rfl⟩ ?_
  show ZK_Im_43 g Q 4 32 15 [(0, .ref 43)] [] (shp_48, kI_62, kL_45, kR_91)
  refine gx_aload_n 0 dX2_init_15 rfl rfl ?_
  refine gx_new 8 (L := 48) dX2_init_16 (by decide) cl_X2_16 is_X8.1 is_X8.2 ⟨rfl, rfl⟩ rfl rfl ?_
  show ZK_Im_43 g Q 5 35 19 [(0, .ref 43)] [.ref 48, .ref 43] (shp_49, kI_63, kL_46, kR_92)
  refine gx_dup dX2_init_19 rfl ?_
  refine gx_callIN (As := []) (st := [.ref 48, .ref 43]) dX2_init_20 "JarGuess" nl_X2_18 mm_X8_init rfl rfl rfl rfl rfl ⟨rfl, rfl⟩ k_Sh_48 (fun v h2 hq => ?_)
  obtain ⟨rfl, rfl⟩ := hq
  show ZK_Im_43 g Q 7 115 23 [(0, .ref 43)] [.ref 48, .ref 43] (shp_51, kI_65, kL_48, kR_96)
  refine gx_putF 2 1 (v := 48) dX2_init_23 fl_X2_19 rfl rfl rfl rfl rfl ⟨rfl, rfl⟩ ?_
  show ZK_Im_43 g Q 7 115 26 [(0, .ref 43)] [] (shp_51, kI_65, kL_48, kR_97)
  exact gx_vret dX2_init_26 rfl rfl rfl hq
abbrev ZK_Fe_52 (g : gm_G) (Q : Option Value → gm_H → Prop) (cu su pc : Nat) (lv : List (Nat × Value)) (st : List Value) (h : gm_H) : Prop := gm_X g RX1 "<init>" cX1_init 1 none 1 3 18 Q cu su pc lv st h
set_option maxRecDepth 100000 in
theorem k_Fe_52 {g : gm_G} : gm_Met g yX1_init cX1_init 1 none 1 3 18 [.ref 52] (shp_53, kI_67, kL_50, kR_100) (fun v h => v = none ∧ h = (shp_56, kI_74, kL_53, kR_106)) := by
  refine gm_enter (lv := [(0, .ref 52)]) (by decide) rfl rfl rfl rfl ?_
  generalize hQ : (fun (v : Option Value) (h : gm_H) => v = none ∧ h = (shp_56, kI_74, kL_53, kR_106)) = Q
  have hq : Q none (shp_56, kI_74, kL_53, kR_106) := by rw [← hQ]; exact ⟨rfl, rfl⟩
  show ZK_Fe_52 g Q 0 0 0 [(0, .ref 52)] [] (shp_53, kI_67, kL_50, kR_100)
  refine gx_aload_n 0 dX1_init_0 rfl rfl ?_
  refine gx_obj dX1_init_1 ml_X1_3 mw_obj.1 mw_obj.2 rfl rfl ?_
  refine gx_aload_n 0 dX1_init_4 rfl rfl ?_
  refine gx_iconst (v := 1) dX1_init_5 (by decide) ?_
  refine gx_puti 1 0 dX1_init_6 fl_X1_9 rfl rfl rfl ⟨rfl, rfl⟩ ?_
  show ZK_Fe_52 g Q 0 0 9 [(0, .ref 52)] [] (shp_53, kI_68, kL_50, kR_100)
  refine gx_aload_n 0 dX1_init_9 rfl rfl ?_
  refine gx_bipush (v := 100) dX1_init_10 (by decide) ?_
  refine gx_puti 1 1 dX1_init_12 fl_X1_15 rfl rfl rfl ⟨rfl, rfl⟩ ?_
  show ZK_Fe_52 g Q 0 0 15 [(0, .ref 52)] [] (shp_53, kI_69, kL_50, kR_100)
  refine gx_aload_n 0 dX1_init_15 rfl rfl ?_
  refine gx_bipush (v := 6) dX1_init_16 (by decide) ?_
  refine gx_newa 0 (n := 6) (L := 53) dX1_init_18 rfl (by decide) aw_0 (by decide) rfl rfl ⟨rfl, rfl⟩ rfl rfl ?_
  show ZK_Fe_52 g Q 1 6 20 [(0, .ref 52)] [.ref 53, .ref 52] (shp_54, kI_70, kL_51, kR_101)
  refine gx_putF 1 6 (v := 53) dX1_init_20 fl_X1_18 rfl rfl rfl rfl rfl ⟨rfl, rfl⟩ ?_
  show ZK_Fe_52 g Q 1 6 23 [(0, .ref 52)] [] (shp_54, kI_70, kL_51, kR_102)
  refine gx_aload_n 0 dX1_init_23 rfl rfl ?_
  refine gx_bipush (v := 6) dX1_init_24 (by decide) ?_
  refine gx_newa 0 (n := 6) (L := 54) dX1_init_26 rfl (by decide) aw_0 (by decide) rfl rfl ⟨rfl, rfl⟩ rfl rfl ?_
  show ZK_Fe_52 g Q 2 12 28 [(0, .ref 52)] [.ref 54, .ref 52] (shp_55, kI_71, kL_52, kR_103)
  refine gx_putF 1 7 (v := 54) dX1_init_28 fl_X1_22 rfl rfl rfl rfl rfl ⟨rfl, rfl⟩ ?_
  show ZK_Fe_52 g Q 2 12 31 [(0, .ref 52)] [] (shp_55, kI_71, kL_52, kR_104)
  refine gx_aload_n 0 dX1_init_31 rfl rfl ?_
  refine gx_bipush (v := 6) dX1_init_32 (by decide) ?_
  refine gx_newa 0 (n := 6) (L := 55) dX1_init_34 rfl (by decide) aw_0 (by decide) rfl rfl ⟨rfl, rfl⟩ rfl rfl ?_
  show ZK_Fe_52 g Q 3 18 36 [(0, .ref 52)] [.ref 55, .ref 52] (shp_56, kI_72, kL_53, kR_105)
  refine gx_putF 1 8 (v := 55) dX1_init_36 fl_X1_25 rfl rfl rfl rfl rfl ⟨rfl, rfl⟩ ?_
  show ZK_Fe_52 g Q 3 18 39 [(0, .ref 52)] [] (shp_56, kI_72, kL_53, kR_106)
  refine gx_aload_n 0 dX1_init_39 rfl rfl ?_
  refine gx_bipush (v := 10) dX1_init_40 (by decide) ?_
  refine gx_puti 1 10 dX1_init_42 fl_X1_28 rfl rfl rfl ⟨rfl, rfl⟩ ?_
  show ZK_Fe_52 g Q 3 18 45 [(0, .ref 52)] [] (shp_56, kI_73, kL_53, kR_106)
  refine gx_aload_n 0 dX1_init_45 rfl rfl ?_
  refine gx_bipush (v := 100) dX1_init_46 (by decide) ?_
  refine gx_puti 1 11 dX1_init_48 fl_X1_31 rfl rfl rfl ⟨rfl, rfl⟩ ?_
  show ZK_Fe_52 g Q 3 18 51 [(0, .ref 52)] [] (shp_56, kI_74, kL_53, kR_106)
  exact gx_vret dX1_init_51 rfl rfl rfl hq
abbrev ZK_Sh_56 (g : gm_G) (Q : Option Value → gm_H → Prop) (cu su pc : Nat) (lv : List (Nat × Value)) (st : List Value) (h : gm_H) : Prop := gm_X g RX8 "<init>" cX8_init 1 none 1 2 80 Q cu su pc lv st h
set_option maxRecDepth 100000 in
theorem k_Sh_56 {g : gm_G} : gm_Met g yX8_init cX8_init 1 none 1 2 80 [.ref 56] (shp_57, kI_75, kL_54, kR_108) (fun v h => v = none ∧ h = (shp_59, kI_77, kL_56, kR_112)) := by
  refine gm_enter (lv := [(0, .ref 56)]) (by decide) rfl rfl rfl rfl ?_
  generalize hQ : (fun (v : Option Value) (h : gm_H) => v = none ∧ h = (shp_59, kI_77, kL_56, kR_112)) = Q
  have hq : Q none (shp_59, kI_77, kL_56, kR_112) := by rw [← hQ]; exact ⟨rfl, rfl⟩
  show ZK_Sh_56 g Q 0 0 0 [(0, .ref 56)] [] (shp_57, kI_75, kL_54, kR_108)
  refine gx_aload_n 0 dX8_init_0 rfl rfl ?_
  refine gx_obj dX8_init_1 ml_X8_3 mw_obj.1 mw_obj.2 rfl rfl ?_
  refine gx_aload_n 0 dX8_init_4 rfl rfl ?_
  refine gx_bipush (v := 40) dX8_init_5 (by decide) ?_
  refine gx_newa 0 (n := 40) (L := 57) dX8_init_7 rfl (by decide) aw_0 (by decide) rfl rfl ⟨rfl, rfl⟩ rfl rfl ?_
  show ZK_Sh_56 g Q 1 40 9 [(0, .ref 56)] [.ref 57, .ref 56] (shp_58, kI_76, kL_55, kR_109)
  refine gx_putF 8 0 (v := 57) dX8_init_9 fl_X8_9 rfl rfl rfl rfl rfl ⟨rfl, rfl⟩ ?_
  show ZK_Sh_56 g Q 1 40 12 [(0, .ref 56)] [] (shp_58, kI_76, kL_55, kR_110)
  refine gx_aload_n 0 dX8_init_12 rfl rfl ?_
  refine gx_bipush (v := 40) dX8_init_13 (by decide) ?_
  refine gx_newa 0 (n := 40) (L := 58) dX8_init_15 rfl (by decide) aw_0 (by decide) rfl rfl ⟨rfl, rfl⟩ rfl rfl ?_
  show ZK_Sh_56 g Q 2 80 17 [(0, .ref 56)] [.ref 58, .ref 56] (shp_59, kI_77, kL_56, kR_111)
  refine gx_putF 8 1 (v := 58) dX8_init_17 fl_X8_15 rfl rfl rfl rfl rfl ⟨rfl, rfl⟩ ?_
  show ZK_Sh_56 g Q 2 80 20 [(0, .ref 56)] [] (shp_59, kI_77, kL_56, kR_112)
  exact gx_vret dX8_init_20 rfl rfl rfl hq
abbrev ZK_Im_51 (g : gm_G) (Q : Option Value → gm_H → Prop) (cu su pc : Nat) (lv : List (Nat × Value)) (st : List Value) (h : gm_H) : Prop := gm_X g RX2 "<init>" cX2_init 1 none 2 7 115 Q cu su pc lv st h
set_option maxRecDepth 100000 in
theorem k_Im_51 {g : gm_G} : gm_Met g yX2_init cX2_init 1 none 2 7 115 [.ref 51] (shp_52, kI_66, kL_49, kR_99) (fun v h => v = none ∧ h = (shp_59, kI_77, kL_56, kR_113)) := by
  refine gm_enter (lv := [(0, .ref 51)]) (by decide) rfl rfl rfl rfl ?_
  generalize hQ : (fun (v : Option Value) (h : gm_H) => v = none ∧ h = (shp_59, kI_77, kL_56, kR_113)) = Q
  have hq : Q none (shp_59, kI_77, kL_56, kR_113) := by rw [← hQ]; exact ⟨rfl, rfl⟩
  show ZK_Im_51 g Q 0 0 0 [(0, .ref 51)] [] (shp_52, kI_66, kL_49, kR_99)
  refine gx_aload_n 0 dX2_init_0 rfl rfl ?_
  refine gx_obj dX2_init_1 ml_X2_1 mw_obj.1 mw_obj.2 rfl rfl ?_
  refine gx_aload_n 0 dX2_init_4 rfl rfl ?_
  refine gx_new 1 (L := 52) dX2_init_5 (by decide) cl_X2_7 is_X1.1 is_X1.2 ⟨rfl, rfl⟩ rfl rfl ?_
  show ZK_Im_51 g Q 1 14 8 [(0, .ref 51)] [.ref 52, .ref 51] (shp_53, kI_67, kL_50, kR_100)
  refine gx_dup dX2_init_8 rfl ?_
  refine gx_callIN (As := []) (st := [.ref 52, .ref 51]) dX2_init_9 "JarGuess" nl_X2_9 mm_X1_init rfl rfl rfl rfl rfl ⟨rfl, rfl⟩ k_Fe_52 (fun v h2 hq => ?_)
  obtain ⟨rfl, rfl⟩ := hq
  show ZK_Im_51 g Q 4 32 12 [(0, .ref 51)] [.ref 52, .ref 51] (shp_56, kI_74, kL_53, kR_106)
  refine gx_putF 2 0 (v := 52) dX2_init_12 fl_X2_10 rfl rfl rfl rfl rfl ⟨rfl, rfl⟩ ?_
  show ZK_Im_51 g Q 4 32 15 [(0, .ref 51)] [] (shp_56, kI_74, kL_53, kR_107)
  refine gx_aload_n 0 dX2_init_15 rfl rfl ?_
  refine gx_new 8 (L := 56) dX2_init_16 (by decide) cl_X2_16 is_X8.1 is_X8.2 ⟨rfl, rfl⟩ rfl rfl ?_
  show ZK_Im_51 g Q 5 35 19 [(0, .ref 51)] [.ref 56, .ref 51] (shp_57, kI_75, kL_54, kR_108)
  refine gx_dup dX2_init_19 rfl ?_
  refine gx_callIN (As := []) (st := [.ref 56, .ref 51]) dX2_init_20 "JarGuess" nl_X2_18 mm_X8_init rfl rfl rfl rfl rfl ⟨rfl, rfl⟩ k_Sh_56 (fun v h2 hq => ?_)
  obtain ⟨rfl, rfl⟩ := hq
  show ZK_Im_51 g Q 7 115 23 [(0, .ref 51)] [.ref 56, .ref 51] (shp_59, kI_77, kL_56, kR_112)
  refine gx_putF 2 1 (v := 56) dX2_init_23 fl_X2_19 rfl rfl rfl rfl rfl ⟨rfl, rfl⟩ ?_
  show ZK_Im_51 g Q 7 115 26 [(0, .ref 51)] [] (shp_59, kI_77, kL_56, kR_113)
  exact gx_vret dX2_init_26 rfl rfl rfl hq
abbrev ZK_J_0 (g : gm_G) (Q : Option Value → gm_H → Prop) (cu su pc : Nat) (lv : List (Nat × Value)) (st : List Value) (h : gm_H) : Prop := gm_X g RX10 "<init>" cX10_init 5 none 3 58 2834 Q cu su pc lv st h
set_option maxRecDepth 100000 in
theorem k_J_0 {g : gm_G} : gm_Met g yX10_init cX10_init 5 none 3 58 2834 [.ref 0] (shp_1, kI_1, kL_1, kR_1) (fun v h => v = none ∧ h = (shp_59, kI_77, kL_56, kR_114)) := by
  refine gm_enter (lv := [(0, .ref 0)]) (by decide) rfl rfl rfl rfl ?_
  generalize hQ : (fun (v : Option Value) (h : gm_H) => v = none ∧ h = (shp_59, kI_77, kL_56, kR_114)) = Q
  have hq : Q none (shp_59, kI_77, kL_56, kR_114) := by rw [← hQ]; exact ⟨rfl, rfl⟩
  show ZK_J_0 g Q 0 0 0 [(0, .ref 0)] [] (shp_1, kI_1, kL_1, kR_1)
  refine gx_aload_n 0 dX10_init_0 rfl rfl ?_
  refine gx_obj dX10_init_1 ml_X10_1 mw_obj.1 mw_obj.2 rfl rfl ?_
  refine gx_aload_n 0 dX10_init_4 rfl rfl ?_
  refine gx_sipush (v := 700) dX10_init_5 (by decide) ?_
  refine gx_newa 2 (n := 700) (L := 1) dX10_init_8 rfl (by decide) aw_2 (by decide) rfl rfl ⟨rfl, rfl⟩ rfl rfl ?_
  show ZK_J_0 g Q 1 700 10 [(0, .ref 0)] [.ref 1, .ref 0] (shp_2, kI_2, kL_2, kR_2)
  refine gx_putF 10 0 (v := 1) dX10_init_10 fl_X10_9 rfl rfl rfl rfl rfl ⟨rfl, rfl⟩ ?_
  show ZK_J_0 g Q 1 700 13 [(0, .ref 0)] [] (shp_2, kI_2, kL_2, kR_3)
  refine gx_aload_n 0 dX10_init_13 rfl rfl ?_
  refine gx_new 1 (L := 2) dX10_init_14 (by decide) cl_X10_13 is_X1.1 is_X1.2 ⟨rfl, rfl⟩ rfl rfl ?_
  show ZK_J_0 g Q 2 714 17 [(0, .ref 0)] [.ref 2, .ref 0] (shp_3, kI_3, kL_3, kR_4)
  refine gx_dup dX10_init_17 rfl ?_
  refine gx_callIN (As := []) (st := [.ref 2, .ref 0]) dX10_init_18 "JarGuess" nl_X10_15 mm_X1_init rfl rfl rfl rfl rfl ⟨rfl, rfl⟩ k_Fe_2 (fun v h2 hq => ?_)
  obtain ⟨rfl, rfl⟩ := hq
  show ZK_J_0 g Q 5 732 21 [(0, .ref 0)] [.ref 2, .ref 0] (shp_6, kI_10, kL_6, kR_10)
  refine gx_putF 10 3 (v := 2) dX10_init_21 fl_X10_16 rfl rfl rfl rfl rfl ⟨rfl, rfl⟩ ?_
  show ZK_J_0 g Q 5 732 24 [(0, .ref 0)] [] (shp_6, kI_10, kL_6, kR_11)
  refine gx_aload_n 0 dX10_init_24 rfl rfl ?_
  refine gx_new 5 (L := 6) dX10_init_25 (by decide) cl_X10_20 is_X5.1 is_X5.2 ⟨rfl, rfl⟩ rfl rfl ?_
  show ZK_J_0 g Q 6 741 28 [(0, .ref 0)] [.ref 6, .ref 0] (shp_7, kI_11, kL_7, kR_12)
  refine gx_dup dX10_init_28 rfl ?_
  refine gx_callIN (As := []) (st := [.ref 6, .ref 0]) dX10_init_29 "JarGuess" nl_X10_22 mm_X5_init rfl rfl rfl rfl rfl ⟨rfl, rfl⟩ k_Rd_6 (fun v h2 hq => ?_)
  obtain ⟨rfl, rfl⟩ := hq
  show ZK_J_0 g Q 6 741 32 [(0, .ref 0)] [.ref 6, .ref 0] (shp_7, kI_12, kL_7, kR_12)
  refine gx_putF 10 4 (v := 6) dX10_init_32 fl_X10_23 rfl rfl rfl rfl rfl ⟨rfl, rfl⟩ ?_
  show ZK_J_0 g Q 6 741 35 [(0, .ref 0)] [] (shp_7, kI_12, kL_7, kR_13)
  refine gx_aload_n 0 dX10_init_35 rfl rfl ?_
  refine gx_new 8 (L := 7) dX10_init_36 (by decide) cl_X10_27 is_X8.1 is_X8.2 ⟨rfl, rfl⟩ rfl rfl ?_
  show ZK_J_0 g Q 7 744 39 [(0, .ref 0)] [.ref 7, .ref 0] (shp_8, kI_13, kL_8, kR_14)
  refine gx_dup dX10_init_39 rfl ?_
  refine gx_callIN (As := []) (st := [.ref 7, .ref 0]) dX10_init_40 "JarGuess" nl_X10_29 mm_X8_init rfl rfl rfl rfl rfl ⟨rfl, rfl⟩ k_Sh_7 (fun v h2 hq => ?_)
  obtain ⟨rfl, rfl⟩ := hq
  show ZK_J_0 g Q 9 824 43 [(0, .ref 0)] [.ref 7, .ref 0] (shp_10, kI_15, kL_10, kR_18)
  refine gx_putF 10 6 (v := 7) dX10_init_43 fl_X10_30 rfl rfl rfl rfl rfl ⟨rfl, rfl⟩ ?_
  show ZK_J_0 g Q 9 824 46 [(0, .ref 0)] [] (shp_10, kI_15, kL_10, kR_19)
  refine gx_aload_n 0 dX10_init_46 rfl rfl ?_
  refine gx_new 0 (L := 10) dX10_init_47 (by decide) cl_X10_34 is_X0.1 is_X0.2 ⟨rfl, rfl⟩ rfl rfl ?_
  show ZK_J_0 g Q 10 825 50 [(0, .ref 0)] [.ref 10, .ref 0] (shp_11, kI_16, kL_11, kR_20)
  refine gx_dup dX10_init_50 rfl ?_
  refine gx_callIN (As := []) (st := [.ref 10, .ref 0]) dX10_init_51 "JarGuess" nl_X10_36 mm_X0_init rfl rfl rfl rfl rfl ⟨rfl, rfl⟩ k_Dr_10 (fun v h2 hq => ?_)
  obtain ⟨rfl, rfl⟩ := hq
  show ZK_J_0 g Q 10 825 54 [(0, .ref 0)] [.ref 10, .ref 0] (shp_11, kI_16, kL_11, kR_20)
  refine gx_putF 10 7 (v := 10) dX10_init_54 fl_X10_37 rfl rfl rfl rfl rfl ⟨rfl, rfl⟩ ?_
  show ZK_J_0 g Q 10 825 57 [(0, .ref 0)] [] (shp_11, kI_16, kL_11, kR_21)
  refine gx_aload_n 0 dX10_init_57 rfl rfl ?_
  refine gx_new 3 (L := 11) dX10_init_58 (by decide) cl_X10_41 is_X3.1 is_X3.2 ⟨rfl, rfl⟩ rfl rfl ?_
  show ZK_J_0 g Q 11 830 61 [(0, .ref 0)] [.ref 11, .ref 0] (shp_12, kI_17, kL_12, kR_22)
  refine gx_dup dX10_init_61 rfl ?_
  refine gx_callIN (As := []) (st := [.ref 11, .ref 0]) dX10_init_62 "JarGuess" nl_X10_43 mm_X3_init rfl rfl rfl rfl rfl ⟨rfl, rfl⟩ k_Of_11 (fun v h2 hq => ?_)
  obtain ⟨rfl, rfl⟩ := hq
  show ZK_J_0 g Q 13 1472 65 [(0, .ref 0)] [.ref 11, .ref 0] (shp_14, kI_19, kL_14, kR_26)
  refine gx_putF 10 10 (v := 11) dX10_init_65 fl_X10_44 rfl rfl rfl rfl rfl ⟨rfl, rfl⟩ ?_
  show ZK_J_0 g Q 13 1472 68 [(0, .ref 0)] [] (shp_14, kI_19, kL_14, kR_27)
  refine gx_aload_n 0 dX10_init_68 rfl rfl ?_
  refine gx_iconst (v := 4) dX10_init_69 (by decide) ?_
  refine gx_newq 4 (C0 := "JarGuess$Row") (n := 4) (L := 14) dX10_init_70 rfl (by decide) (by decide) cl_X10_48 (by decide) rfl rfl ⟨rfl, rfl⟩ rfl rfl ?_
  show ZK_J_0 g Q 14 1476 73 [(0, .ref 0)] [.ref 14, .ref 0] (shp_15, kI_20, kL_15, kR_28)
  refine gx_putF 10 11 (v := 14) dX10_init_73 fl_X10_50 rfl rfl rfl rfl rfl ⟨rfl, rfl⟩ ?_
  show ZK_J_0 g Q 14 1476 76 [(0, .ref 0)] [] (shp_15, kI_20, kL_15, kR_29)
  refine gx_aload_n 0 dX10_init_76 rfl rfl ?_
  refine gx_iconst (v := 2) dX10_init_77 (by decide) ?_
  refine gx_newq 5 (C0 := "JarGuess$Image") (n := 2) (L := 15) dX10_init_78 rfl (by decide) (by decide) cl_X10_54 (by decide) rfl rfl ⟨rfl, rfl⟩ rfl rfl ?_
  show ZK_J_0 g Q 15 1478 81 [(0, .ref 0)] [.ref 15, .ref 0] (shp_16, kI_21, kL_16, kR_30)
  refine gx_putF 10 12 (v := 15) dX10_init_81 fl_X10_56 rfl rfl rfl rfl rfl ⟨rfl, rfl⟩ ?_
  show ZK_J_0 g Q 15 1478 84 [(0, .ref 0)] [] (shp_16, kI_21, kL_16, kR_31)
  refine gx_new 1 (L := 16) dX10_init_84 (by decide) cl_X10_13 is_X1.1 is_X1.2 ⟨rfl, rfl⟩ rfl rfl ?_
  show ZK_J_0 g Q 16 1492 87 [(0, .ref 0)] [.ref 16] (shp_17, kI_22, kL_17, kR_32)
  refine gx_dup dX10_init_87 rfl ?_
  refine gx_callIN (As := []) (st := [.ref 16]) dX10_init_88 "JarGuess" nl_X10_15 mm_X1_init rfl rfl rfl rfl rfl ⟨rfl, rfl⟩ k_Fe_16 (fun v h2 hq => ?_)
  obtain ⟨rfl, rfl⟩ := hq
  show ZK_J_0 g Q 19 1510 91 [(0, .ref 0)] [.ref 16] (shp_20, kI_29, kL_20, kR_38)
  refine gx_astore_n (lv' := [(0, .ref 0), (1, .ref 16)]) dX10_init_91 rfl rfl rfl ?_
  refine gx_new 8 (L := 20) dX10_init_92 (by decide) cl_X10_27 is_X8.1 is_X8.2 ⟨rfl, rfl⟩ rfl rfl ?_
  show ZK_J_0 g Q 20 1513 95 [(0, .ref 0), (1, .ref 16)] [.ref 20] (shp_21, kI_30, kL_21, kR_39)
  refine gx_dup dX10_init_95 rfl ?_
  refine gx_callIN (As := []) (st := [.ref 20]) dX10_init_96 "JarGuess" nl_X10_29 mm_X8_init rfl rfl rfl rfl rfl ⟨rfl, rfl⟩ k_Sh_20 (fun v h2 hq => ?_)
  obtain ⟨rfl, rfl⟩ := hq
  show ZK_J_0 g Q 22 1593 99 [(0, .ref 0), (1, .ref 16)] [.ref 20] (shp_23, kI_32, kL_23, kR_43)
  refine gx_astore_n (lv' := [(0, .ref 0), (1, .ref 16), (2, .ref 20)]) dX10_init_99 rfl rfl rfl ?_
  refine gx_new 7 (L := 23) dX10_init_100 (by decide) cl_X10_60 is_X7.1 is_X7.2 ⟨rfl, rfl⟩ rfl rfl ?_
  show ZK_J_0 g Q 23 1604 103 [(0, .ref 0), (1, .ref 16), (2, .ref 20)] [.ref 23] (shp_24, kI_33, kL_24, kR_44)
  refine gx_dup dX10_init_103 rfl ?_
  refine gx_aload_n 1 dX10_init_104 rfl rfl ?_
  refine gx_aload_n 2 dX10_init_105 rfl rfl ?_
  refine gx_callI (As := [.ref 16, .ref 20]) (st := [.ref 23]) dX10_init_106 ml_X10_62 mm_X7_init rfl rfl rfl rfl rfl ⟨rfl, rfl⟩ k_Sr_23 (fun v h2 hq => ?_)
  obtain ⟨rfl, rfl⟩ := hq
  show ZK_J_0 g Q 28 2408 109 [(0, .ref 0), (1, .ref 16), (2, .ref 20)] [.ref 23] (shp_29, kI_38, kL_29, kR_56)
  refine gx_astore_n (lv' := [(0, .ref 0), (1, .ref 16), (2, .ref 20), (3, .ref 23)]) dX10_init_109 rfl rfl rfl ?_
  refine gx_aload_n 0 dX10_init_110 rfl rfl ?_
  refine gx_aload_n 1 dX10_init_111 rfl rfl ?_
  refine gx_putF 10 2 (v := 16) dX10_init_112 fl_X10_65 rfl rfl rfl rfl rfl ⟨rfl, rfl⟩ ?_
  show ZK_J_0 g Q 28 2408 115 [(0, .ref 0), (1, .ref 16), (2, .ref 20), (3, .ref 23)] [] (shp_29, kI_38, kL_29, kR_57)
  refine gx_aload_n 0 dX10_init_115 rfl rfl ?_
  refine gx_aload_n 2 dX10_init_116 rfl rfl ?_
  refine gx_putF 10 5 (v := 20) dX10_init_117 fl_X10_68 rfl rfl rfl rfl rfl ⟨rfl, rfl⟩ ?_
  show ZK_J_0 g Q 28 2408 120 [(0, .ref 0), (1, .ref 16), (2, .ref 20), (3, .ref 23)] [] (shp_29, kI_38, kL_29, kR_58)
  refine gx_aload_n 0 dX10_init_120 rfl rfl ?_
  refine gx_aload_n 3 dX10_init_121 rfl rfl ?_
  refine gx_putF 10 8 (v := 23) dX10_init_122 fl_X10_71 rfl rfl rfl rfl rfl ⟨rfl, rfl⟩ ?_
  show ZK_J_0 g Q 28 2408 125 [(0, .ref 0), (1, .ref 16), (2, .ref 20), (3, .ref 23)] [] (shp_29, kI_38, kL_29, kR_59)
  refine gx_aload_n 0 dX10_init_125 rfl rfl ?_
  refine gx_new 9 (L := 29) dX10_init_126 (by decide) cl_X10_75 is_X9.1 is_X9.2 ⟨rfl, rfl⟩ rfl rfl ?_
  show ZK_J_0 g Q 29 2411 129 [(0, .ref 0), (1, .ref 16), (2, .ref 20), (3, .ref 23)] [.ref 29, .ref 0] (shp_30, kI_39, kL_30, kR_60)
  refine gx_dup dX10_init_129 rfl ?_
  refine gx_aload_n 3 dX10_init_130 rfl rfl ?_
  refine gx_callI (As := [.ref 23]) (st := [.ref 29, .ref 0]) dX10_init_131 ml_X10_77 mm_X9_init rfl rfl rfl rfl rfl ⟨rfl, rfl⟩ k_Wr_29 (fun v h2 hq => ?_)
  obtain ⟨rfl, rfl⟩ := hq
  show ZK_J_0 g Q 34 2426 134 [(0, .ref 0), (1, .ref 16), (2, .ref 20), (3, .ref 23)] [.ref 29, .ref 0] (shp_35, kI_41, kL_32, kR_65)
  refine gx_putF 10 9 (v := 29) dX10_init_134 fl_X10_80 rfl rfl rfl rfl rfl ⟨rfl, rfl⟩ ?_
  show ZK_J_0 g Q 34 2426 137 [(0, .ref 0), (1, .ref 16), (2, .ref 20), (3, .ref 23)] [] (shp_35, kI_41, kL_32, kR_66)
  refine gx_iconst (v := 0) dX10_init_137 (by decide) ?_
  refine gx_istore (lv' := [(0, .ref 0), (1, .ref 16), (2, .ref 20), (3, .ref 23), (4, .int 0)]) dX10_init_138 rfl rfl ?_
  refine gx_iload 4 dX10_init_140 rfl ?_
  refine gx_iconst (v := 4) dX10_init_142 (by decide) ?_
  refine gx_icmp_ge 166 dX10_init_143 (by decide) (br_f (by decide) ?_)
  refine gx_aload_n 0 dX10_init_146 rfl rfl ?_
  refine gx_getr 10 11 (v := 14) dX10_init_147 fl_X10_50 rfl rfl rfl ?_
  refine gx_iload 4 dX10_init_150 rfl ?_
  refine gx_new 6 (L := 35) dX10_init_152 (by decide) cl_X10_48 is_X6.1 is_X6.2 ⟨rfl, rfl⟩ rfl rfl ?_
  show ZK_J_0 g Q 35 2429 155 [(0, .ref 0), (1, .ref 16), (2, .ref 20), (3, .ref 23), (4, .int 0)] [.ref 35, .int 0, .ref 14] (shp_36, kI_42, kL_33, kR_67)
  refine gx_dup dX10_init_155 rfl ?_
  refine gx_callIN (As := []) (st := [.ref 35, .int 0, .ref 14]) dX10_init_156 "JarGuess" nl_X10_84 mm_X6_init rfl rfl rfl rfl rfl ⟨rfl, rfl⟩ k_Ro_35 (fun v h2 hq => ?_)
  obtain ⟨rfl, rfl⟩ := hq
  show ZK_J_0 g Q 36 2469 159 [(0, .ref 0), (1, .ref 16), (2, .ref 20), (3, .ref 23), (4, .int 0)] [.ref 35, .int 0, .ref 14] (shp_37, kI_44, kL_34, kR_69)
  refine gx_aast 4 6 dX10_init_159 rfl rfl (by decide) rfl (by decide) rfl rfl (gm_vin rfl) ?_
  show ZK_J_0 g Q 36 2469 160 [(0, .ref 0), (1, .ref 16), (2, .ref 20), (3, .ref 23), (4, .int 0)] [] (shp_37, kI_44, kL_34, kR_70)
  refine gx_iinc (v := 1) (lv' := [(0, .ref 0), (1, .ref 16), (2, .ref 20), (3, .ref 23), (4, .int 1)]) 4 dX10_init_160 rfl rfl rfl rfl ?_
  refine gx_goto 140 dX10_init_163 (by decide) ?_
  refine gx_iload 4 dX10_init_140 rfl ?_
  refine gx_iconst (v := 4) dX10_init_142 (by decide) ?_
  refine gx_icmp_ge 166 dX10_init_143 (by decide) (br_f (by decide) ?_)
  refine gx_aload_n 0 dX10_init_146 rfl rfl ?_
  refine gx_getr 10 11 (v := 14) dX10_init_147 fl_X10_50 rfl rfl rfl ?_
  refine gx_iload 4 dX10_init_150 rfl ?_
  refine gx_new 6 (L := 37) dX10_init_152 (by decide) cl_X10_48 is_X6.1 is_X6.2 ⟨rfl, rfl⟩ rfl rfl ?_
  show ZK_J_0 g Q 37 2472 155 [(0, .ref 0), (1, .ref 16), (2, .ref 20), (3, .ref 23), (4, .int 1)] [.ref 37, .int 1, .ref 14] (shp_38, kI_45, kL_35, kR_71)
  refine gx_dup dX10_init_155 rfl ?_
  refine gx_callIN (As := []) (st := [.ref 37, .int 1, .ref 14]) dX10_init_156 "JarGuess" nl_X10_84 mm_X6_init rfl rfl rfl rfl rfl ⟨rfl, rfl⟩ k_Ro_37 (fun v h2 hq => ?_)
  obtain ⟨rfl, rfl⟩ := hq
  show ZK_J_0 g Q 38 2512 159 [(0, .ref 0), (1, .ref 16), (2, .ref 20), (3, .ref 23), (4, .int 1)] [.ref 37, .int 1, .ref 14] (shp_39, kI_47, kL_36, kR_73)
  refine gx_aast 4 6 dX10_init_159 rfl rfl (by decide) rfl (by decide) rfl rfl (gm_vin rfl) ?_
  show ZK_J_0 g Q 38 2512 160 [(0, .ref 0), (1, .ref 16), (2, .ref 20), (3, .ref 23), (4, .int 1)] [] (shp_39, kI_47, kL_36, kR_74)
  refine gx_iinc (v := 2) (lv' := [(0, .ref 0), (1, .ref 16), (2, .ref 20), (3, .ref 23), (4, .int 2)]) 4 dX10_init_160 rfl rfl rfl rfl ?_
  refine gx_goto 140 dX10_init_163 (by decide) ?_
  refine gx_iload 4 dX10_init_140 rfl ?_
  refine gx_iconst (v := 4) dX10_init_142 (by decide) ?_
  refine gx_icmp_ge 166 dX10_init_143 (by decide) (br_f (by decide) ?_)
  refine gx_aload_n 0 dX10_init_146 rfl rfl ?_
  refine gx_getr 10 11 (v := 14) dX10_init_147 fl_X10_50 rfl rfl rfl ?_
  refine gx_iload 4 dX10_init_150 rfl ?_
  refine gx_new 6 (L := 39) dX10_init_152 (by decide) cl_X10_48 is_X6.1 is_X6.2 ⟨rfl, rfl⟩ rfl rfl ?_
  show ZK_J_0 g Q 39 2515 155 [(0, .ref 0), (1, .ref 16), (2, .ref 20), (3, .ref 23), (4, .int 2)] [.ref 39, .int 2, .ref 14] (shp_40, kI_48, kL_37, kR_75)
  refine gx_dup dX10_init_155 rfl ?_
  refine gx_callIN (As := []) (st := [.ref 39, .int 2, .ref 14]) dX10_init_156 "JarGuess" nl_X10_84 mm_X6_init rfl rfl rfl rfl rfl ⟨rfl, rfl⟩ k_Ro_39 (fun v h2 hq => ?_)
  obtain ⟨rfl, rfl⟩ := hq
  show ZK_J_0 g Q 40 2555 159 [(0, .ref 0), (1, .ref 16), (2, .ref 20), (3, .ref 23), (4, .int 2)] [.ref 39, .int 2, .ref 14] (shp_41, kI_50, kL_38, kR_77)
  refine gx_aast 4 6 dX10_init_159 rfl rfl (by decide) rfl (by decide) rfl rfl (gm_vin rfl) ?_
  show ZK_J_0 g Q 40 2555 160 [(0, .ref 0), (1, .ref 16), (2, .ref 20), (3, .ref 23), (4, .int 2)] [] (shp_41, kI_50, kL_38, kR_78)
  refine gx_iinc (v := 3) (lv' := [(0, .ref 0), (1, .ref 16), (2, .ref 20), (3, .ref 23), (4, .int 3)]) 4 dX10_init_160 rfl rfl rfl rfl ?_
  refine gx_goto 140 dX10_init_163 (by decide) ?_
  refine gx_iload 4 dX10_init_140 rfl ?_
  refine gx_iconst (v := 4) dX10_init_142 (by decide) ?_
  refine gx_icmp_ge 166 dX10_init_143 (by decide) (br_f (by decide) ?_)
  refine gx_aload_n 0 dX10_init_146 rfl rfl ?_
  refine gx_getr 10 11 (v := 14) dX10_init_147 fl_X10_50 rfl rfl rfl ?_
  refine gx_iload 4 dX10_init_150 rfl ?_
  refine gx_new 6 (L := 41) dX10_init_152 (by decide) cl_X10_48 is_X6.1 is_X6.2 ⟨rfl, rfl⟩ rfl rfl ?_
  show ZK_J_0 g Q 41 2558 155 [(0, .ref 0), (1, .ref 16), (2, .ref 20), (3, .ref 23), (4, .int 3)] [.ref 41, .int 3, .ref 14] (shp_42, kI_51, kL_39, kR_79)
  refine gx_dup dX10_init_155 rfl ?_
  refine gx_callIN (As := []) (st := [.ref 41, .int 3, .ref 14]) dX10_init_156 "JarGuess" nl_X10_84 mm_X6_init rfl rfl rfl rfl rfl ⟨rfl, rfl⟩ k_Ro_41 (fun v h2 hq => ?_)
  obtain ⟨rfl, rfl⟩ := hq
  show ZK_J_0 g Q 42 2598 159 [(0, .ref 0), (1, .ref 16), (2, .ref 20), (3, .ref 23), (4, .int 3)] [.ref 41, .int 3, .ref 14] (shp_43, kI_53, kL_40, kR_81)
  refine gx_aast 4 6 dX10_init_159 rfl rfl (by decide) rfl (by decide) rfl rfl (gm_vin rfl) ?_
  show ZK_J_0 g Q 42 2598 160 [(0, .ref 0), (1, .ref 16), (2, .ref 20), (3, .ref 23), (4, .int 3)] [] (shp_43, kI_53, kL_40, kR_82)
  refine gx_iinc (v := 4) (lv' := [(0, .ref 0), (1, .ref 16), (2, .ref 20), (3, .ref 23), (4, .int 4)]) 4 dX10_init_160 rfl rfl rfl rfl ?_
  refine gx_goto 140 dX10_init_163 (by decide) ?_
  refine gx_iload 4 dX10_init_140 rfl ?_
  refine gx_iconst (v := 4) dX10_init_142 (by decide) ?_
  refine gx_icmp_ge 166 dX10_init_143 (by decide) (br_t (by decide) ?_)
  refine gx_iconst (v := 0) dX10_init_166 (by decide) ?_
  refine gx_istore (lv' := [(0, .ref 0), (1, .ref 16), (2, .ref 20), (3, .ref 23), (4, .int 0)]) dX10_init_167 rfl rfl ?_
  refine gx_iload 4 dX10_init_169 rfl ?_
  refine gx_iconst (v := 2) dX10_init_171 (by decide) ?_
  refine gx_icmp_ge 195 dX10_init_172 (by decide) (br_f (by decide) ?_)
  refine gx_aload_n 0 dX10_init_175 rfl rfl ?_
  refine gx_getr 10 12 (v := 15) dX10_init_176 fl_X10_56 rfl rfl rfl ?_
  refine gx_iload 4 dX10_init_179 rfl ?_
  refine gx_new 2 (L := 43) dX10_init_181 (by decide) cl_X10_54 is_X2.1 is_X2.2 ⟨rfl, rfl⟩ rfl rfl ?_
  show ZK_J_0 g Q 43 2601 184 [(0, .ref 0), (1, .ref 16), (2, .ref 20), (3, .ref 23), (4, .int 0)] [.ref 43, .int 0, .ref 15] (shp_44, kI_54, kL_41, kR_83)
  refine gx_dup dX10_init_184 rfl ?_
  refine gx_callIN (As := []) (st := [.ref 43, .int 0, .ref 15]) dX10_init_185 "JarGuess" nl_X10_85 mm_X2_init rfl rfl rfl rfl rfl ⟨rfl, rfl⟩ k_Im_43 (fun v h2 hq => ?_)
  obtain ⟨rfl, rfl⟩ := hq
  show ZK_J_0 g Q 50 2716 188 [(0, .ref 0), (1, .ref 16), (2, .ref 20), (3, .ref 23), (4, .int 0)] [.ref 43, .int 0, .ref 15] (shp_51, kI_65, kL_48, kR_97)
  refine gx_aast 5 2 dX10_init_188 rfl rfl (by decide) rfl (by decide) rfl rfl (gm_vin rfl) ?_
  show ZK_J_0 g Q 50 2716 189 [(0, .ref 0), (1, .ref 16), (2, .ref 20), (3, .ref 23), (4, .int 0)] [] (shp_51, kI_65, kL_48, kR_98)
  refine gx_iinc (v := 1) (lv' := [(0, .ref 0), (1, .ref 16), (2, .ref 20), (3, .ref 23), (4, .int 1)]) 4 dX10_init_189 rfl rfl rfl rfl ?_
  refine gx_goto 169 dX10_init_192 (by decide) ?_
  refine gx_iload 4 dX10_init_169 rfl ?_
  refine gx_iconst (v := 2) dX10_init_171 (by decide) ?_
  refine gx_icmp_ge 195 dX10_init_172 (by decide) (br_f (by decide) ?_)
  refine gx_aload_n 0 dX10_init_175 rfl rfl ?_
  refine gx_getr 10 12 (v := 15) dX10_init_176 fl_X10_56 rfl rfl rfl ?_
  refine gx_iload 4 dX10_init_179 rfl ?_
  refine gx_new 2 (L := 51) dX10_init_181 (by decide) cl_X10_54 is_X2.1 is_X2.2 ⟨rfl, rfl⟩ rfl rfl ?_
  show ZK_J_0 g Q 51 2719 184 [(0, .ref 0), (1, .ref 16), (2, .ref 20), (3, .ref 23), (4, .int 1)] [.ref 51, .int 1, .ref 15] (shp_52, kI_66, kL_49, kR_99)
  refine gx_dup dX10_init_184 rfl ?_
  refine gx_callIN (As := []) (st := [.ref 51, .int 1, .ref 15]) dX10_init_185 "JarGuess" nl_X10_85 mm_X2_init rfl rfl rfl rfl rfl ⟨rfl, rfl⟩ k_Im_51 (fun v h2 hq => ?_)
  obtain ⟨rfl, rfl⟩ := hq
  show ZK_J_0 g Q 58 2834 188 [(0, .ref 0), (1, .ref 16), (2, .ref 20), (3, .ref 23), (4, .int 1)] [.ref 51, .int 1, .ref 15] (shp_59, kI_77, kL_56, kR_113)
  refine gx_aast 5 2 dX10_init_188 rfl rfl (by decide) rfl (by decide) rfl rfl (gm_vin rfl) ?_
  show ZK_J_0 g Q 58 2834 189 [(0, .ref 0), (1, .ref 16), (2, .ref 20), (3, .ref 23), (4, .int 1)] [] (shp_59, kI_77, kL_56, kR_114)
  refine gx_iinc (v := 2) (lv' := [(0, .ref 0), (1, .ref 16), (2, .ref 20), (3, .ref 23), (4, .int 2)]) 4 dX10_init_189 rfl rfl rfl rfl ?_
  refine gx_goto 169 dX10_init_192 (by decide) ?_
  refine gx_iload 4 dX10_init_169 rfl ?_
  refine gx_iconst (v := 2) dX10_init_171 (by decide) ?_
  refine gx_icmp_ge 195 dX10_init_172 (by decide) (br_t (by decide) ?_)
  exact gx_vret dX10_init_195 rfl rfl rfl hq
abbrev ZK_M_59 (g : gm_G) (Q : Option Value → gm_H → Prop) (cu su pc : Nat) (lv : List (Nat × Value)) (st : List Value) (h : gm_H) : Prop := gm_X g RX11 "<init>" cX11_init 1 none 3 14 2474 Q cu su pc lv st h
set_option maxRecDepth 100000 in
theorem k_M_pre {g : gm_G} {Q : Option Value → gm_H → Prop} (hq : ZK_M_59 g Q 14 2474 144 [(0, .ref 59)] [.ref 60] (shp_74, kI_97, kL_71, kR_143)) : ZK_M_59 g Q 0 0 0 [(0, .ref 59)] [] (shp_60, kI_78, kL_57, kR_115) := by
  show ZK_M_59 g Q 0 0 0 [(0, .ref 59)] [] (shp_60, kI_78, kL_57, kR_115)
  refine gx_aload_n 0 dX11_init_0 rfl rfl ?_
  refine gx_obj dX11_init_1 ml_X11_7 mw_obj.1 mw_obj.2 rfl rfl ?_
  refine gx_aload_n 0 dX11_init_4 rfl rfl ?_
  refine gx_sipush (v := 330) dX11_init_5 (by decide) ?_
  refine gx_newa 0 (n := 330) (L := 60) dX11_init_8 rfl (by decide) aw_0 (by decide) rfl rfl ⟨rfl, rfl⟩ rfl rfl ?_
  show ZK_M_59 g Q 1 330 10 [(0, .ref 59)] [.ref 60, .ref 59] (shp_61, kI_79, kL_58, kR_116)
  refine gx_putF 11 1 (v := 60) dX11_init_10 fl_X11_13 rfl rfl rfl rfl rfl ⟨rfl, rfl⟩ ?_
  show ZK_M_59 g Q 1 330 13 [(0, .ref 59)] [] (shp_61, kI_79, kL_58, kR_117)
  refine gx_aload_n 0 dX11_init_13 rfl rfl ?_
  refine gx_iconst (v := 2) dX11_init_14 (by decide) ?_
  refine gx_newa 3 (n := 2) (L := 61) dX11_init_15 rfl (by decide) aw_3 (by decide) rfl rfl ⟨rfl, rfl⟩ rfl rfl ?_
  show ZK_M_59 g Q 2 332 17 [(0, .ref 59)] [.ref 61, .ref 59] (shp_62, kI_80, kL_59, kR_118)
  refine gx_putF 11 2 (v := 61) dX11_init_17 fl_X11_17 rfl rfl rfl rfl rfl ⟨rfl, rfl⟩ ?_
  show ZK_M_59 g Q 2 332 20 [(0, .ref 59)] [] (shp_62, kI_80, kL_59, kR_119)
  refine gx_aload_n 0 dX11_init_20 rfl rfl ?_
  refine gx_sipush (v := 700) dX11_init_21 (by decide) ?_
  refine gx_newa 0 (n := 700) (L := 62) dX11_init_24 rfl (by decide) aw_0 (by decide) rfl rfl ⟨rfl, rfl⟩ rfl rfl ?_
  show ZK_M_59 g Q 3 1032 26 [(0, .ref 59)] [.ref 62, .ref 59] (shp_63, kI_81, kL_60, kR_120)
  refine gx_putF 11 3 (v := 62) dX11_init_26 fl_X11_21 rfl rfl rfl rfl rfl ⟨rfl, rfl⟩ ?_
  show ZK_M_59 g Q 3 1032 29 [(0, .ref 59)] [] (shp_63, kI_81, kL_60, kR_121)
  refine gx_aload_n 0 dX11_init_29 rfl rfl ?_
  refine gx_bipush (v := 110) dX11_init_30 (by decide) ?_
  refine gx_newa 0 (n := 110) (L := 63) dX11_init_32 rfl (by decide) aw_0 (by decide) rfl rfl ⟨rfl, rfl⟩ rfl rfl ?_
  show ZK_M_59 g Q 4 1142 34 [(0, .ref 59)] [.ref 63, .ref 59] (shp_64, kI_82, kL_61, kR_122)
  refine gx_putF 11 4 (v := 63) dX11_init_34 fl_X11_24 rfl rfl rfl rfl rfl ⟨rfl, rfl⟩ ?_
  show ZK_M_59 g Q 4 1142 37 [(0, .ref 59)] [] (shp_64, kI_82, kL_61, kR_123)
  refine gx_aload_n 0 dX11_init_37 rfl rfl ?_
  refine gx_iconst (v := (-1)) dX11_init_38 (by decide) ?_
  refine gx_puti 11 14 dX11_init_39 fl_X11_27 rfl rfl rfl ⟨rfl, rfl⟩ ?_
  show ZK_M_59 g Q 4 1142 42 [(0, .ref 59)] [] (shp_64, kI_83, kL_61, kR_123)
  refine gx_aload_n 0 dX11_init_42 rfl rfl ?_
  refine gx_bipush (v := 110) dX11_init_43 (by decide) ?_
  refine gx_newa 0 (n := 110) (L := 64) dX11_init_45 rfl (by decide) aw_0 (by decide) rfl rfl ⟨rfl, rfl⟩ rfl rfl ?_
  show ZK_M_59 g Q 5 1252 47 [(0, .ref 59)] [.ref 64, .ref 59] (shp_65, kI_84, kL_62, kR_124)
  refine gx_putF 11 15 (v := 64) dX11_init_47 fl_X11_30 rfl rfl rfl rfl rfl ⟨rfl, rfl⟩ ?_
  show ZK_M_59 g Q 5 1252 50 [(0, .ref 59)] [] (shp_65, kI_84, kL_62, kR_125)
  refine gx_aload_n 0 dX11_init_50 rfl rfl ?_
  refine gx_sipush (v := 200) dX11_init_51 (by decide) ?_
  refine gx_newa 1 (n := 200) (L := 65) dX11_init_54 rfl (by decide) aw_1 (by decide) rfl rfl ⟨rfl, rfl⟩ rfl rfl ?_
  show ZK_M_59 g Q 6 1452 56 [(0, .ref 59)] [.ref 65, .ref 59] (shp_66, kI_85, kL_63, kR_126)
  refine gx_putF 11 18 (v := 65) dX11_init_56 fl_X11_33 rfl rfl rfl rfl rfl ⟨rfl, rfl⟩ ?_
  show ZK_M_59 g Q 6 1452 59 [(0, .ref 59)] [] (shp_66, kI_85, kL_63, kR_127)
  refine gx_aload_n 0 dX11_init_59 rfl rfl ?_
  refine gx_sipush (v := 200) dX11_init_60 (by decide) ?_
  refine gx_newa 0 (n := 200) (L := 66) dX11_init_63 rfl (by decide) aw_0 (by decide) rfl rfl ⟨rfl, rfl⟩ rfl rfl ?_
  show ZK_M_59 g Q 7 1652 65 [(0, .ref 59)] [.ref 66, .ref 59] (shp_67, kI_86, kL_64, kR_128)
  refine gx_putF 11 20 (v := 66) dX11_init_65 fl_X11_37 rfl rfl rfl rfl rfl ⟨rfl, rfl⟩ ?_
  show ZK_M_59 g Q 7 1652 68 [(0, .ref 59)] [] (shp_67, kI_86, kL_64, kR_129)
  refine gx_aload_n 0 dX11_init_68 rfl rfl ?_
  refine gx_iconst (v := 3) dX11_init_69 (by decide) ?_
  refine gx_newa 0 (n := 3) (L := 67) dX11_init_70 rfl (by decide) aw_0 (by decide) rfl rfl ⟨rfl, rfl⟩ rfl rfl ?_
  show ZK_M_59 g Q 8 1655 72 [(0, .ref 59)] [.ref 67, .ref 59] (shp_68, kI_87, kL_65, kR_130)
  refine gx_putF 11 25 (v := 67) dX11_init_72 fl_X11_40 rfl rfl rfl rfl rfl ⟨rfl, rfl⟩ ?_
  show ZK_M_59 g Q 8 1655 75 [(0, .ref 59)] [] (shp_68, kI_87, kL_65, kR_131)
  refine gx_aload_n 0 dX11_init_75 rfl rfl ?_
  refine gx_bipush (v := 9) dX11_init_76 (by decide) ?_
  refine gx_newa 0 (n := 9) (L := 68) dX11_init_78 rfl (by decide) aw_0 (by decide) rfl rfl ⟨rfl, rfl⟩ rfl rfl ?_
  show ZK_M_59 g Q 9 1664 80 [(0, .ref 59)] [.ref 68, .ref 59] (shp_69, kI_88, kL_66, kR_132)
  refine gx_putF 11 26 (v := 68) dX11_init_80 fl_X11_43 rfl rfl rfl rfl rfl ⟨rfl, rfl⟩ ?_
  show ZK_M_59 g Q 9 1664 83 [(0, .ref 59)] [] (shp_69, kI_88, kL_66, kR_133)
  refine gx_aload_n 0 dX11_init_83 rfl rfl ?_
  refine gx_sipush (v := 321) dX11_init_84 (by decide) ?_
  refine gx_newa 1 (n := 321) (L := 69) dX11_init_87 rfl (by decide) aw_1 (by decide) rfl rfl ⟨rfl, rfl⟩ rfl rfl ?_
  show ZK_M_59 g Q 10 1985 89 [(0, .ref 59)] [.ref 69, .ref 59] (shp_70, kI_89, kL_67, kR_134)
  refine gx_putF 11 27 (v := 69) dX11_init_89 fl_X11_46 rfl rfl rfl rfl rfl ⟨rfl, rfl⟩ ?_
  show ZK_M_59 g Q 10 1985 92 [(0, .ref 59)] [] (shp_70, kI_89, kL_67, kR_135)
  refine gx_aload_n 0 dX11_init_92 rfl rfl ?_
  refine gx_sipush (v := 321) dX11_init_93 (by decide) ?_
  refine gx_newa 1 (n := 321) (L := 70) dX11_init_96 rfl (by decide) aw_1 (by decide) rfl rfl ⟨rfl, rfl⟩ rfl rfl ?_
  show ZK_M_59 g Q 11 2306 98 [(0, .ref 59)] [.ref 70, .ref 59] (shp_71, kI_90, kL_68, kR_136)
  refine gx_putF 11 28 (v := 70) dX11_init_98 fl_X11_49 rfl rfl rfl rfl rfl ⟨rfl, rfl⟩ ?_
  show ZK_M_59 g Q 11 2306 101 [(0, .ref 59)] [] (shp_71, kI_90, kL_68, kR_137)
  refine gx_aload_n 0 dX11_init_101 rfl rfl ?_
  refine gx_iconst (v := 4) dX11_init_102 (by decide) ?_
  refine gx_newa 0 (n := 4) (L := 71) dX11_init_103 rfl (by decide) aw_0 (by decide) rfl rfl ⟨rfl, rfl⟩ rfl rfl ?_
  show ZK_M_59 g Q 12 2310 105 [(0, .ref 59)] [.ref 71, .ref 59] (shp_72, kI_91, kL_69, kR_138)
  refine gx_dup dX11_init_105 rfl ?_
  refine gx_iconst (v := 0) dX11_init_106 (by decide) ?_
  refine gx_iconst (v := (-1)) dX11_init_107 (by decide) ?_
  refine gx_iast dX11_init_108 rfl rfl (gm_vin rfl) (k := 0) rfl ?_
  show ZK_M_59 g Q 12 2310 109 [(0, .ref 59)] [.ref 71, .ref 59] (shp_72, kI_92, kL_69, kR_138)
  refine gx_dup dX11_init_109 rfl ?_
  refine gx_iconst (v := 1) dX11_init_110 (by decide) ?_
  refine gx_iconst (v := (-1)) dX11_init_111 (by decide) ?_
  refine gx_iast dX11_init_112 rfl rfl (gm_vin rfl) (k := 1) rfl ?_
  show ZK_M_59 g Q 12 2310 113 [(0, .ref 59)] [.ref 71, .ref 59] (shp_72, kI_93, kL_69, kR_138)
  refine gx_dup dX11_init_113 rfl ?_
  refine gx_iconst (v := 2) dX11_init_114 (by decide) ?_
  refine gx_iconst (v := (-1)) dX11_init_115 (by decide) ?_
  refine gx_iast dX11_init_116 rfl rfl (gm_vin rfl) (k := 2) rfl ?_
  show ZK_M_59 g Q 12 2310 117 [(0, .ref 59)] [.ref 71, .ref 59] (shp_72, kI_94, kL_69, kR_138)
  refine gx_dup dX11_init_117 rfl ?_
  refine gx_iconst (v := 3) dX11_init_118 (by decide) ?_
  refine gx_iconst (v := (-1)) dX11_init_119 (by decide) ?_
  refine gx_iast dX11_init_120 rfl rfl (gm_vin rfl) (k := 3) rfl ?_
  show ZK_M_59 g Q 12 2310 121 [(0, .ref 59)] [.ref 71, .ref 59] (shp_72, kI_95, kL_69, kR_138)
  refine gx_putF 11 29 (v := 71) dX11_init_121 fl_X11_52 rfl rfl rfl rfl rfl ⟨rfl, rfl⟩ ?_
  show ZK_M_59 g Q 12 2310 124 [(0, .ref 59)] [] (shp_72, kI_95, kL_69, kR_139)
  refine gx_aload_n 0 dX11_init_124 rfl rfl ?_
  refine gx_iconst (v := 4) dX11_init_125 (by decide) ?_
  refine gx_newa 0 (n := 4) (L := 72) dX11_init_126 rfl (by decide) aw_0 (by decide) rfl rfl ⟨rfl, rfl⟩ rfl rfl ?_
  show ZK_M_59 g Q 13 2314 128 [(0, .ref 59)] [.ref 72, .ref 59] (shp_73, kI_96, kL_70, kR_140)
  refine gx_putF 11 30 (v := 72) dX11_init_128 fl_X11_55 rfl rfl rfl rfl rfl ⟨rfl, rfl⟩ ?_
  show ZK_M_59 g Q 13 2314 131 [(0, .ref 59)] [] (shp_73, kI_96, kL_70, kR_141)
  refine gx_aload_n 0 dX11_init_131 rfl rfl ?_
  refine gx_sipush (v := 160) dX11_init_132 (by decide) ?_
  refine gx_newa 1 (n := 160) (L := 73) dX11_init_135 rfl (by decide) aw_1 (by decide) rfl rfl ⟨rfl, rfl⟩ rfl rfl ?_
  show ZK_M_59 g Q 14 2474 137 [(0, .ref 59)] [.ref 73, .ref 59] (shp_74, kI_97, kL_71, kR_142)
  refine gx_putF 11 31 (v := 73) dX11_init_137 fl_X11_58 rfl rfl rfl rfl rfl ⟨rfl, rfl⟩ ?_
  show ZK_M_59 g Q 14 2474 140 [(0, .ref 59)] [] (shp_74, kI_97, kL_71, kR_143)
  refine gx_aload_n 0 dX11_init_140 rfl rfl ?_
  refine gx_getr 11 1 (v := 60) dX11_init_141 fl_X11_13 rfl rfl rfl ?_
  exact hq
