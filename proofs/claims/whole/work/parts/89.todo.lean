theorem st_clock {G : Gm} {μ : Mem} (h : Inv μ) : Both G mX7_clock mX8_clock [] μ := by sorry
theorem st_cut {G : Gm} {μ : Mem} {a0 a1 : Int} (h : Inv μ) (ha0 : R32 a0) (ha1 : a1 = 0 ∨ a1 = 1) : Both G mX7_cut mX8_cut [(0, a0), (0, a1)] μ := by sorry
theorem st_drift {G : Gm} {μ : Mem} {a0 : Int} (h : Inv μ) (ha0 : R32 a0) : Both G mX7_drift mX8_drift [(0, a0)] μ := by sorry
theorem st_next {G : Gm} {μ : Mem} {a0 : Int} (h : Inv μ) (ha0 : R32 a0) : Both G mX7_next mX8_next [(0, a0)] μ := by sorry
theorem st_together {G : Gm} {μ : Mem} {a0 : Int} (h : Inv μ) (ha0 : R32 a0) : Both G mX7_together mX8_together [(0, a0)] μ := by sorry
theorem st_again {G : Gm} {μ : Mem} (h : Inv μ) : Both G mX7_again mX8_again [] μ := by sorry
theorem st_added {G : Gm} {μ : Mem} {a0 a1 a2 a3 : Int} (h : Inv μ) (ha0 : R32 a0) (ha1 : R32 a1) (ha2 : R32 a2) (ha3 : R32 a3) : Both G mX7_added mX8_added [(0, a0), (0, a1), (0, a2), (0, a3)] μ := by sorry
theorem st_idlers {G : Gm} {μ : Mem} {a0 a1 a2 : Int} (h : Inv μ) (ha0 : R32 a0) (ha1 : R32 a1) (ha2 : R32 a2) : Both G mX7_idlers mX8_idlers [(0, a0), (0, a1), (0, a2)] μ := by sorry
theorem st_free {G : Gm} {μ : Mem} {a0 : Int} (h : Inv μ) (ha0 : R32 a0) : Both G mX7_free mX8_free [(0, a0)] μ := by sorry
theorem st_rest {G : Gm} {μ : Mem} {a0 a1 : Int} (h : Inv μ) (ha0 : R32 a0) (ha1 : R32 a1) : Both G mX7_rest mX8_rest [(0, a0), (0, a1)] μ := by sorry
theorem st_wear {G : Gm} {μ : Mem} {a0 a1 : Int} (h : Inv μ) (ha0 : R32 a0) (ha1 : R32 a1) : Both G mX7_wear mX8_wear [(0, a0), (0, a1)] μ := by sorry
theorem st_slips {G : Gm} {μ : Mem} {a0 a1 : Int} (h : Inv μ) (ha0 : R32 a0) (ha1 : R32 a1) : Both G mX7_slips mX8_slips [(0, a0), (0, a1)] μ := by sorry
theorem st_hidden {G : Gm} {μ : Mem} {a0 a1 a2 a3 : Int} (h : Inv μ) (ha0 : R32 a0) (ha1 : R32 a1) (ha2 : R32 a2) (ha3 : R32 a3) : Both G mX7_hidden mX8_hidden [(0, a0), (0, a1), (0, a2), (0, a3)] μ := by sorry
theorem st_teeth {G : Gm} {μ : Mem} {a0 a1 : Int} (h : Inv μ) (ha0 : R32 a0) (ha1 : R32 a1) : Both G mX7_teeth mX8_teeth [(0, a0), (0, a1)] μ := by sorry
theorem st_look {G : Gm} {μ : Mem} {a0 : Int} (h : Inv μ) (ha0 : R32 a0) : Both G mX7_look mX8_look [(0, a0)] μ := by sorry
