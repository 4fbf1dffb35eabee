/-! the words of classes, fields and links -/
theorem cl_0 : CLs 0 := by
  refine cls_of (C := RX0) (T := TX0) (N := 8) rfl (fun k hk => ?_) tyX0 tyX0_ok nmX0
  match k, hk with
  | 0, _ => exact tb1 176 _ rfl
  | 1, _ => exact tb1 178 _ rfl
  | 2, _ => exact tb1 180 _ rfl
  | 3, _ => exact tb1 182 _ rfl
  | 4, _ => exact tb1 184 _ rfl
  | 5, _ => exact tb1 186 _ rfl
  | 6, _ => exact tb1 188 _ rfl
  | 7, _ => exact tb1 190 _ rfl
    | k + 8, hk => exact absurd hk (by omega)
theorem fint_0_0 : fint 0 0 := fun C T N h => by
  have h0 : vwCl[0]? = some (RX0, TX0, 8) := rfl
  cases h0.symm.trans h
  rfl
theorem fint_0_1 : fint 0 1 := fun C T N h => by
  have h0 : vwCl[0]? = some (RX0, TX0, 8) := rfl
  cases h0.symm.trans h
  rfl
theorem fint_0_2 : fint 0 2 := fun C T N h => by
  have h0 : vwCl[0]? = some (RX0, TX0, 8) := rfl
  cases h0.symm.trans h
  rfl
theorem fint_0_3 : fint 0 3 := fun C T N h => by
  have h0 : vwCl[0]? = some (RX0, TX0, 8) := rfl
  cases h0.symm.trans h
  rfl
theorem fint_0_4 : fint 0 4 := fun C T N h => by
  have h0 : vwCl[0]? = some (RX0, TX0, 8) := rfl
  cases h0.symm.trans h
  rfl
theorem cl_1 : CLs 1 := by
  refine cls_of (C := RX1) (T := TX1) (N := 14) rfl (fun k hk => ?_) tyX1 tyX1_ok nmX1
  match k, hk with
  | 0, _ => exact tb2 140 _ rfl
  | 1, _ => exact tb2 142 _ rfl
  | 2, _ => exact tb2 144 _ rfl
  | 3, _ => exact tb2 146 _ rfl
  | 4, _ => exact tb2 148 _ rfl
  | 5, _ => exact tb2 150 _ rfl
  | 6, _ => exact tb2 152 _ rfl
  | 7, _ => exact tb2 154 _ rfl
  | 8, _ => exact tb2 156 _ rfl
  | 9, _ => exact tb2 158 _ rfl
  | 10, _ => exact tb2 160 _ rfl
  | 11, _ => exact tb2 162 _ rfl
  | 12, _ => exact tb2 164 _ rfl
  | 13, _ => exact tb2 166 _ rfl
    | k + 14, hk => exact absurd hk (by omega)
theorem fint_1_7 : fint 1 7 := fun C T N h => by
  have h0 : vwCl[1]? = some (RX1, TX1, 14) := rfl
  cases h0.symm.trans h
  rfl
theorem fint_1_8 : fint 1 8 := fun C T N h => by
  have h0 : vwCl[1]? = some (RX1, TX1, 14) := rfl
  cases h0.symm.trans h
  rfl
theorem fint_1_9 : fint 1 9 := fun C T N h => by
  have h0 : vwCl[1]? = some (RX1, TX1, 14) := rfl
  cases h0.symm.trans h
  rfl
theorem fint_1_10 : fint 1 10 := fun C T N h => by
  have h0 : vwCl[1]? = some (RX1, TX1, 14) := rfl
  cases h0.symm.trans h
  rfl
theorem fint_1_11 : fint 1 11 := fun C T N h => by
  have h0 : vwCl[1]? = some (RX1, TX1, 14) := rfl
  cases h0.symm.trans h
  rfl
theorem fint_1_12 : fint 1 12 := fun C T N h => by
  have h0 : vwCl[1]? = some (RX1, TX1, 14) := rfl
  cases h0.symm.trans h
  rfl
theorem fint_1_13 : fint 1 13 := fun C T N h => by
  have h0 : vwCl[1]? = some (RX1, TX1, 14) := rfl
  cases h0.symm.trans h
  rfl
theorem cl_2 : CLs 2 := by
  refine cls_of (C := RX2) (T := TX2) (N := 11) rfl (fun k hk => ?_) tyX2 tyX2_ok nmX2
  match k, hk with
  | 0, _ => exact tb2 40 _ rfl
  | 1, _ => exact tb2 42 _ rfl
  | 2, _ => exact tb2 44 _ rfl
  | 3, _ => exact tb2 46 _ rfl
  | 4, _ => exact tb2 48 _ rfl
  | 5, _ => exact tb2 50 _ rfl
  | 6, _ => exact tb2 52 _ rfl
  | 7, _ => exact tb2 54 _ rfl
  | 8, _ => exact tb2 56 _ rfl
  | 9, _ => exact tb2 58 _ rfl
  | 10, _ => exact tb2 60 _ rfl
    | k + 11, hk => exact absurd hk (by omega)
theorem fint_2_2 : fint 2 2 := fun C T N h => by
  have h0 : vwCl[2]? = some (RX2, TX2, 11) := rfl
  cases h0.symm.trans h
  rfl
theorem fint_2_3 : fint 2 3 := fun C T N h => by
  have h0 : vwCl[2]? = some (RX2, TX2, 11) := rfl
  cases h0.symm.trans h
  rfl
theorem fint_2_10 : fint 2 10 := fun C T N h => by
  have h0 : vwCl[2]? = some (RX2, TX2, 11) := rfl
  cases h0.symm.trans h
  rfl
theorem cl_3 : CLs 3 := by
  refine cls_of (C := RX3) (T := TX3) (N := 3) rfl (fun k hk => ?_) tyX3 tyX3_ok nmX3
  match k, hk with
  | 0, _ => exact tb2 113 _ rfl
  | 1, _ => exact tb2 115 _ rfl
  | 2, _ => exact tb2 117 _ rfl
    | k + 3, hk => exact absurd hk (by omega)
theorem fint_3_2 : fint 3 2 := fun C T N h => by
  have h0 : vwCl[3]? = some (RX3, TX3, 3) := rfl
  cases h0.symm.trans h
  rfl
theorem cl_4 : CLs 4 := by
  refine cls_of (C := RX4) (T := TX4) (N := 11) rfl (fun k hk => ?_) tyX4 tyX4_ok nmX4
  match k, hk with
  | 0, _ => exact tb2 81 _ rfl
  | 1, _ => exact tb2 83 _ rfl
  | 2, _ => exact tb2 85 _ rfl
  | 3, _ => exact tb2 87 _ rfl
  | 4, _ => exact tb2 89 _ rfl
  | 5, _ => exact tb2 91 _ rfl
  | 6, _ => exact tb2 93 _ rfl
  | 7, _ => exact tb2 95 _ rfl
  | 8, _ => exact tb2 97 _ rfl
  | 9, _ => exact tb2 99 _ rfl
  | 10, _ => exact tb2 101 _ rfl
    | k + 11, hk => exact absurd hk (by omega)
theorem fint_4_5 : fint 4 5 := fun C T N h => by
  have h0 : vwCl[4]? = some (RX4, TX4, 11) := rfl
  cases h0.symm.trans h
  rfl
theorem fint_4_6 : fint 4 6 := fun C T N h => by
  have h0 : vwCl[4]? = some (RX4, TX4, 11) := rfl
  cases h0.symm.trans h
  rfl
theorem fint_4_7 : fint 4 7 := fun C T N h => by
  have h0 : vwCl[4]? = some (RX4, TX4, 11) := rfl
  cases h0.symm.trans h
  rfl
theorem fint_4_8 : fint 4 8 := fun C T N h => by
  have h0 : vwCl[4]? = some (RX4, TX4, 11) := rfl
  cases h0.symm.trans h
  rfl
theorem fboo_4_9 : fboo 4 9 := fun C T N h => by
  have h0 : vwCl[4]? = some (RX4, TX4, 11) := rfl
  cases h0.symm.trans h
  rfl
theorem fint_4_10 : fint 4 10 := fun C T N h => by
  have h0 : vwCl[4]? = some (RX4, TX4, 11) := rfl
  cases h0.symm.trans h
  rfl
theorem cl_5 : CLs 5 := by
  refine cls_of (C := RX5) (T := TX5) (N := 15) rfl (fun k hk => ?_) tyX5 tyX5_ok nmX5
  match k, hk with
  | 0, _ => exact tb1 122 _ rfl
  | 1, _ => exact tb1 124 _ rfl
  | 2, _ => exact tb1 126 _ rfl
  | 3, _ => exact tb1 128 _ rfl
  | 4, _ => exact tb1 130 _ rfl
  | 5, _ => exact tb1 132 _ rfl
  | 6, _ => exact tb1 134 _ rfl
  | 7, _ => exact tb1 136 _ rfl
  | 8, _ => exact tb1 138 _ rfl
  | 9, _ => exact tb1 140 _ rfl
  | 10, _ => exact tb1 142 _ rfl
  | 11, _ => exact tb1 144 _ rfl
  | 12, _ => exact tb1 146 _ rfl
  | 13, _ => exact tb1 148 _ rfl
  | 14, _ => exact tb1 150 _ rfl
    | k + 15, hk => exact absurd hk (by omega)
theorem fint_5_0 : fint 5 0 := fun C T N h => by
  have h0 : vwCl[5]? = some (RX5, TX5, 15) := rfl
  cases h0.symm.trans h
  rfl
theorem fint_5_1 : fint 5 1 := fun C T N h => by
  have h0 : vwCl[5]? = some (RX5, TX5, 15) := rfl
  cases h0.symm.trans h
  rfl
theorem fint_5_5 : fint 5 5 := fun C T N h => by
  have h0 : vwCl[5]? = some (RX5, TX5, 15) := rfl
  cases h0.symm.trans h
  rfl
theorem fint_5_6 : fint 5 6 := fun C T N h => by
  have h0 : vwCl[5]? = some (RX5, TX5, 15) := rfl
  cases h0.symm.trans h
  rfl
theorem fint_5_7 : fint 5 7 := fun C T N h => by
  have h0 : vwCl[5]? = some (RX5, TX5, 15) := rfl
  cases h0.symm.trans h
  rfl
theorem fint_5_8 : fint 5 8 := fun C T N h => by
  have h0 : vwCl[5]? = some (RX5, TX5, 15) := rfl
  cases h0.symm.trans h
  rfl
theorem fint_5_10 : fint 5 10 := fun C T N h => by
  have h0 : vwCl[5]? = some (RX5, TX5, 15) := rfl
  cases h0.symm.trans h
  rfl
theorem fint_5_13 : fint 5 13 := fun C T N h => by
  have h0 : vwCl[5]? = some (RX5, TX5, 15) := rfl
  cases h0.symm.trans h
  rfl
theorem cl_6 : CLs 6 := by
  refine cls_of (C := RX6) (T := TX6) (N := 2) rfl (fun k hk => ?_) tyX6 tyX6_ok nmX6
  match k, hk with
  | 0, _ => exact tb1 239 _ rfl
  | 1, _ => exact tb2 1 _ rfl
    | k + 2, hk => exact absurd hk (by omega)
theorem cl_7 : CLs 7 := by
  refine cls_of (C := RX7) (T := TX7) (N := 10) rfl (fun k hk => ?_) tyX7 tyX7_ok nmX7
  match k, hk with
  | 0, _ => exact tb1 210 _ rfl
  | 1, _ => exact tb1 212 _ rfl
  | 2, _ => exact tb1 214 _ rfl
  | 3, _ => exact tb1 216 _ rfl
  | 4, _ => exact tb1 218 _ rfl
  | 5, _ => exact tb1 220 _ rfl
  | 6, _ => exact tb1 222 _ rfl
  | 7, _ => exact tb1 224 _ rfl
  | 8, _ => exact tb1 226 _ rfl
  | 9, _ => exact tb1 228 _ rfl
    | k + 10, hk => exact absurd hk (by omega)
theorem fint_7_0 : fint 7 0 := fun C T N h => by
  have h0 : vwCl[7]? = some (RX7, TX7, 10) := rfl
  cases h0.symm.trans h
  rfl
theorem fint_7_4 : fint 7 4 := fun C T N h => by
  have h0 : vwCl[7]? = some (RX7, TX7, 10) := rfl
  cases h0.symm.trans h
  rfl
theorem fint_7_6 : fint 7 6 := fun C T N h => by
  have h0 : vwCl[7]? = some (RX7, TX7, 10) := rfl
  cases h0.symm.trans h
  rfl
theorem fint_7_7 : fint 7 7 := fun C T N h => by
  have h0 : vwCl[7]? = some (RX7, TX7, 10) := rfl
  cases h0.symm.trans h
  rfl
theorem fint_7_8 : fint 7 8 := fun C T N h => by
  have h0 : vwCl[7]? = some (RX7, TX7, 10) := rfl
  cases h0.symm.trans h
  rfl
theorem fint_7_9 : fint 7 9 := fun C T N h => by
  have h0 : vwCl[7]? = some (RX7, TX7, 10) := rfl
  cases h0.symm.trans h
  rfl
theorem cl_8 : CLs 8 := by
  refine cls_of (C := RX8) (T := TX8) (N := 2) rfl (fun k hk => ?_) tyX8 tyX8_ok nmX8
  match k, hk with
  | 0, _ => exact tb2 12 _ rfl
  | 1, _ => exact tb2 14 _ rfl
    | k + 2, hk => exact absurd hk (by omega)
theorem cl_9 : CLs 9 := by
  refine cls_of (C := RX9) (T := TX9) (N := 7) rfl (fun k hk => ?_) tyX9 tyX9_ok nmX9
  match k, hk with
  | 0, _ => exact tb1 57 _ rfl
  | 1, _ => exact tb1 59 _ rfl
  | 2, _ => exact tb1 61 _ rfl
  | 3, _ => exact tb1 63 _ rfl
  | 4, _ => exact tb1 65 _ rfl
  | 5, _ => exact tb1 67 _ rfl
  | 6, _ => exact tb1 69 _ rfl
    | k + 7, hk => exact absurd hk (by omega)
theorem fint_9_1 : fint 9 1 := fun C T N h => by
  have h0 : vwCl[9]? = some (RX9, TX9, 7) := rfl
  cases h0.symm.trans h
  rfl
theorem fint_9_5 : fint 9 5 := fun C T N h => by
  have h0 : vwCl[9]? = some (RX9, TX9, 7) := rfl
  cases h0.symm.trans h
  rfl
theorem fint_9_6 : fint 9 6 := fun C T N h => by
  have h0 : vwCl[9]? = some (RX9, TX9, 7) := rfl
  cases h0.symm.trans h
  rfl
theorem cl_10 : CLs 10 := by
  refine cls_of (C := RX11) (T := TX11) (N := 17) rfl (fun k hk => ?_) tyX11 tyX11_ok nmX11
  match k, hk with
  | 0, _ => exact tb2 186 _ rfl
  | 1, _ => exact tb2 188 _ rfl
  | 2, _ => exact tb2 190 _ rfl
  | 3, _ => exact tb2 192 _ rfl
  | 4, _ => exact tb2 194 _ rfl
  | 5, _ => exact tb2 196 _ rfl
  | 6, _ => exact tb2 198 _ rfl
  | 7, _ => exact tb2 200 _ rfl
  | 8, _ => exact tb2 202 _ rfl
  | 9, _ => exact tb2 204 _ rfl
  | 10, _ => exact tb2 206 _ rfl
  | 11, _ => exact tb2 208 _ rfl
  | 12, _ => exact tb2 210 _ rfl
  | 13, _ => exact tb2 212 _ rfl
  | 14, _ => exact tb2 214 _ rfl
  | 15, _ => exact tb2 216 _ rfl
  | 16, _ => exact tb2 218 _ rfl
    | k + 17, hk => exact absurd hk (by omega)
theorem fboo_10_15 : fboo 10 15 := fun C T N h => by
  have h0 : vwCl[10]? = some (RX11, TX11, 17) := rfl
  cases h0.symm.trans h
  rfl
theorem fint_10_16 : fint 10 16 := fun C T N h => by
  have h0 : vwCl[10]? = some (RX11, TX11, 17) := rfl
  cases h0.symm.trans h
  rfl
theorem cl_11 : CLs 11 := by
  refine cls_of (C := RX12) (T := TX12) (N := 28) rfl (fun k hk => ?_) tyX12 tyX12_ok nmX12
  match k, hk with
  | 0, _ => exact tb6 135 _ rfl
  | 1, _ => exact tb6 137 _ rfl
  | 2, _ => exact tb6 139 _ rfl
  | 3, _ => exact tb6 141 _ rfl
  | 4, _ => exact tb6 143 _ rfl
  | 5, _ => exact tb6 145 _ rfl
  | 6, _ => exact tb6 147 _ rfl
  | 7, _ => exact tb6 149 _ rfl
  | 8, _ => exact tb6 151 _ rfl
  | 9, _ => exact tb6 153 _ rfl
  | 10, _ => exact tb6 155 _ rfl
  | 11, _ => exact tb6 157 _ rfl
  | 12, _ => exact tb6 159 _ rfl
  | 13, _ => exact tb6 161 _ rfl
  | 14, _ => exact tb6 163 _ rfl
  | 15, _ => exact tb6 165 _ rfl
  | 16, _ => exact tb6 167 _ rfl
  | 17, _ => exact tb6 169 _ rfl
  | 18, _ => exact tb6 171 _ rfl
  | 19, _ => exact tb6 173 _ rfl
  | 20, _ => exact tb6 175 _ rfl
  | 21, _ => exact tb6 177 _ rfl
  | 22, _ => exact tb6 179 _ rfl
  | 23, _ => exact tb6 181 _ rfl
  | 24, _ => exact tb6 183 _ rfl
  | 25, _ => exact tb6 185 _ rfl
  | 26, _ => exact tb6 187 _ rfl
  | 27, _ => exact tb6 189 _ rfl
    | k + 28, hk => exact absurd hk (by omega)
theorem fint_11_0 : fint 11 0 := fun C T N h => by
  have h0 : vwCl[11]? = some (RX12, TX12, 28) := rfl
  cases h0.symm.trans h
  rfl
theorem fboo_11_3 : fboo 11 3 := fun C T N h => by
  have h0 : vwCl[11]? = some (RX12, TX12, 28) := rfl
  cases h0.symm.trans h
  rfl
theorem fint_11_6 : fint 11 6 := fun C T N h => by
  have h0 : vwCl[11]? = some (RX12, TX12, 28) := rfl
  cases h0.symm.trans h
  rfl
theorem fint_11_7 : fint 11 7 := fun C T N h => by
  have h0 : vwCl[11]? = some (RX12, TX12, 28) := rfl
  cases h0.symm.trans h
  rfl
theorem fint_11_8 : fint 11 8 := fun C T N h => by
  have h0 : vwCl[11]? = some (RX12, TX12, 28) := rfl
  cases h0.symm.trans h
  rfl
theorem fint_11_9 : fint 11 9 := fun C T N h => by
  have h0 : vwCl[11]? = some (RX12, TX12, 28) := rfl
  cases h0.symm.trans h
  rfl
theorem fint_11_10 : fint 11 10 := fun C T N h => by
  have h0 : vwCl[11]? = some (RX12, TX12, 28) := rfl
  cases h0.symm.trans h
  rfl
theorem fint_11_11 : fint 11 11 := fun C T N h => by
  have h0 : vwCl[11]? = some (RX12, TX12, 28) := rfl
  cases h0.symm.trans h
  rfl
theorem fint_11_13 : fint 11 13 := fun C T N h => by
  have h0 : vwCl[11]? = some (RX12, TX12, 28) := rfl
  cases h0.symm.trans h
  rfl
theorem fint_11_17 : fint 11 17 := fun C T N h => by
  have h0 : vwCl[11]? = some (RX12, TX12, 28) := rfl
  cases h0.symm.trans h
  rfl
theorem fint_11_21 : fint 11 21 := fun C T N h => by
  have h0 : vwCl[11]? = some (RX12, TX12, 28) := rfl
  cases h0.symm.trans h
  rfl
theorem fint_11_22 : fint 11 22 := fun C T N h => by
  have h0 : vwCl[11]? = some (RX12, TX12, 28) := rfl
  cases h0.symm.trans h
  rfl
theorem fint_11_27 : fint 11 27 := fun C T N h => by
  have h0 : vwCl[11]? = some (RX12, TX12, 28) := rfl
  cases h0.symm.trans h
  rfl
theorem fl_X11_12 : FLk RX11 12 10 0 true := ⟨RX11, TX11, 17, rfl, by decide, rfl, Or.inl (tb2 169 _ rfl)⟩
theorem fl_X11_19 : FLk RX11 19 10 1 true := ⟨RX11, TX11, 17, rfl, by decide, rfl, Or.inl (tb2 170 _ rfl)⟩
theorem fl_X11_23 : FLk RX11 23 10 2 true := ⟨RX11, TX11, 17, rfl, by decide, rfl, Or.inl (tb2 171 _ rfl)⟩
theorem fl_X11_26 : FLk RX11 26 10 3 true := ⟨RX11, TX11, 17, rfl, by decide, rfl, Or.inl (tb2 172 _ rfl)⟩
theorem fl_X11_32 : FLk RX11 32 10 4 true := ⟨RX11, TX11, 17, rfl, by decide, rfl, Or.inl (tb2 173 _ rfl)⟩
theorem fl_X11_36 : FLk RX11 36 10 5 true := ⟨RX11, TX11, 17, rfl, by decide, rfl, Or.inl (tb2 174 _ rfl)⟩
theorem fl_X11_42 : FLk RX11 42 10 6 true := ⟨RX11, TX11, 17, rfl, by decide, rfl, Or.inl (tb2 175 _ rfl)⟩
theorem fl_X11_46 : FLk RX11 46 10 7 true := ⟨RX11, TX11, 17, rfl, by decide, rfl, Or.inl (tb2 176 _ rfl)⟩
theorem fl_X11_49 : FLk RX11 49 10 8 true := ⟨RX11, TX11, 17, rfl, by decide, rfl, Or.inl (tb2 177 _ rfl)⟩
theorem fl_X11_57 : FLk RX11 57 10 9 true := ⟨RX11, TX11, 17, rfl, by decide, rfl, Or.inl (tb2 178 _ rfl)⟩
theorem fl_X11_66 : FLk RX11 66 10 10 true := ⟨RX11, TX11, 17, rfl, by decide, rfl, Or.inl (tb2 179 _ rfl)⟩
theorem fl_X11_75 : FLk RX11 75 10 11 true := ⟨RX11, TX11, 17, rfl, by decide, rfl, Or.inl (tb2 180 _ rfl)⟩
theorem fl_X11_84 : FLk RX11 84 10 12 true := ⟨RX11, TX11, 17, rfl, by decide, rfl, Or.inl (tb2 181 _ rfl)⟩
theorem fl_X11_91 : FLk RX11 91 10 13 true := ⟨RX11, TX11, 17, rfl, by decide, rfl, Or.inl (tb2 182 _ rfl)⟩
theorem fl_X11_100 : FLk RX11 100 10 14 true := ⟨RX11, TX11, 17, rfl, by decide, rfl, Or.inl (tb2 183 _ rfl)⟩
theorem fl_X11_104 : FLk RX11 104 10 15 false := ⟨RX11, TX11, 17, rfl, by decide, rfl, Or.inl (tb2 184 _ rfl)⟩
theorem fl_X11_108 : FLk RX11 108 10 16 false := ⟨RX11, TX11, 17, rfl, by decide, rfl, Or.inl (tb2 185 _ rfl)⟩
theorem fl_X0_9 : FLk RX0 9 0 0 false := ⟨RX0, TX0, 8, rfl, by decide, rfl, Or.inl (tb1 161 _ rfl)⟩
theorem fl_X0_15 : FLk RX0 15 0 1 false := ⟨RX0, TX0, 8, rfl, by decide, rfl, Or.inl (tb1 163 _ rfl)⟩
theorem fl_X0_18 : FLk RX0 18 0 2 false := ⟨RX0, TX0, 8, rfl, by decide, rfl, Or.inl (tb1 165 _ rfl)⟩
theorem fl_X0_21 : FLk RX0 21 0 3 false := ⟨RX0, TX0, 8, rfl, by decide, rfl, Or.inl (tb1 167 _ rfl)⟩
theorem fl_X0_24 : FLk RX0 24 0 4 false := ⟨RX0, TX0, 8, rfl, by decide, rfl, Or.inl (tb1 169 _ rfl)⟩
theorem fl_X0_27 : FLk RX0 27 0 5 true := ⟨RX0, TX0, 8, rfl, by decide, rfl, Or.inl (tb1 171 _ rfl)⟩
theorem fl_X0_33 : FLk RX0 33 0 6 true := ⟨RX0, TX0, 8, rfl, by decide, rfl, Or.inl (tb1 173 _ rfl)⟩
theorem fl_X0_36 : FLk RX0 36 0 7 true := ⟨RX0, TX0, 8, rfl, by decide, rfl, Or.inl (tb1 175 _ rfl)⟩
theorem fl_X1_11 : FLk RX1 11 1 2 true := ⟨RX1, TX1, 14, rfl, by decide, rfl, Or.inl (tb2 128 _ rfl)⟩
theorem fl_X1_15 : FLk RX1 15 1 3 true := ⟨RX1, TX1, 14, rfl, by decide, rfl, Or.inl (tb2 129 _ rfl)⟩
theorem fl_X1_18 : FLk RX1 18 1 4 true := ⟨RX1, TX1, 14, rfl, by decide, rfl, Or.inl (tb2 130 _ rfl)⟩
theorem fl_X1_21 : FLk RX1 21 1 5 true := ⟨RX1, TX1, 14, rfl, by decide, rfl, Or.inl (tb2 131 _ rfl)⟩
theorem fl_X1_25 : FLk RX1 25 1 6 true := ⟨RX1, TX1, 14, rfl, by decide, rfl, Or.inl (tb2 132 _ rfl)⟩
theorem fl_X1_28 : FLk RX1 28 1 7 false := ⟨RX1, TX1, 14, rfl, by decide, rfl, Or.inl (tb2 133 _ rfl)⟩
theorem fl_X1_32 : FLk RX1 32 1 8 false := ⟨RX1, TX1, 14, rfl, by decide, rfl, Or.inl (tb2 134 _ rfl)⟩
theorem fl_X1_35 : FLk RX1 35 1 9 false := ⟨RX1, TX1, 14, rfl, by decide, rfl, Or.inl (tb2 135 _ rfl)⟩
theorem fl_X1_38 : FLk RX1 38 1 10 false := ⟨RX1, TX1, 14, rfl, by decide, rfl, Or.inl (tb2 136 _ rfl)⟩
theorem fl_X1_41 : FLk RX1 41 1 11 false := ⟨RX1, TX1, 14, rfl, by decide, rfl, Or.inl (tb2 137 _ rfl)⟩
theorem fl_X1_44 : FLk RX1 44 1 12 false := ⟨RX1, TX1, 14, rfl, by decide, rfl, Or.inl (tb2 138 _ rfl)⟩
theorem fl_X1_47 : FLk RX1 47 1 13 false := ⟨RX1, TX1, 14, rfl, by decide, rfl, Or.inl (tb2 139 _ rfl)⟩
theorem fl_X1_50 : FLk RX1 50 1 0 true := ⟨RX1, TX1, 14, rfl, by decide, rfl, Or.inl (tb2 126 _ rfl)⟩
theorem fl_X1_54 : FLk RX1 54 1 1 true := ⟨RX1, TX1, 14, rfl, by decide, rfl, Or.inl (tb2 127 _ rfl)⟩
theorem fl_X2_9 : FLk RX2 9 2 2 false := ⟨RX2, TX2, 11, rfl, by decide, rfl, Or.inl (tb2 25 _ rfl)⟩
theorem fl_X2_15 : FLk RX2 15 2 3 false := ⟨RX2, TX2, 11, rfl, by decide, rfl, Or.inl (tb2 28 _ rfl)⟩
theorem fl_X2_18 : FLk RX2 18 2 4 true := ⟨RX2, TX2, 11, rfl, by decide, rfl, Or.inl (tb2 29 _ rfl)⟩
theorem fl_X2_22 : FLk RX2 22 2 5 true := ⟨RX2, TX2, 11, rfl, by decide, rfl, Or.inl (tb2 31 _ rfl)⟩
theorem fl_X2_25 : FLk RX2 25 2 6 true := ⟨RX2, TX2, 11, rfl, by decide, rfl, Or.inl (tb2 32 _ rfl)⟩
theorem fl_X2_28 : FLk RX2 28 2 7 true := ⟨RX2, TX2, 11, rfl, by decide, rfl, Or.inl (tb2 33 _ rfl)⟩
theorem fl_X2_32 : FLk RX2 32 2 8 true := ⟨RX2, TX2, 11, rfl, by decide, rfl, Or.inl (tb2 34 _ rfl)⟩
theorem fl_X2_35 : FLk RX2 35 2 9 true := ⟨RX2, TX2, 11, rfl, by decide, rfl, Or.inl (tb2 36 _ rfl)⟩
theorem fl_X2_38 : FLk RX2 38 2 10 false := ⟨RX2, TX2, 11, rfl, by decide, rfl, Or.inl (tb2 38 _ rfl)⟩
theorem fl_X2_41 : FLk RX2 41 2 0 true := ⟨RX2, TX2, 11, rfl, by decide, rfl, Or.inl (tb2 23 _ rfl)⟩
theorem fl_X2_45 : FLk RX2 45 2 1 true := ⟨RX2, TX2, 11, rfl, by decide, rfl, Or.inl (tb2 24 _ rfl)⟩
theorem fl_X3_11 : FLk RX3 11 3 1 true := ⟨RX3, TX3, 3, rfl, by decide, rfl, Or.inl (tb2 111 _ rfl)⟩
theorem fl_X3_15 : FLk RX3 15 3 2 false := ⟨RX3, TX3, 3, rfl, by decide, rfl, Or.inl (tb2 112 _ rfl)⟩
theorem fl_X3_19 : FLk RX3 19 3 0 true := ⟨RX3, TX3, 3, rfl, by decide, rfl, Or.inl (tb2 110 _ rfl)⟩
theorem fl_X4_13 : FLk RX4 13 4 1 true := ⟨RX4, TX4, 11, rfl, by decide, rfl, Or.inl (tb2 71 _ rfl)⟩
theorem fl_X4_17 : FLk RX4 17 4 2 true := ⟨RX4, TX4, 11, rfl, by decide, rfl, Or.inl (tb2 72 _ rfl)⟩
theorem fl_X4_20 : FLk RX4 20 4 3 true := ⟨RX4, TX4, 11, rfl, by decide, rfl, Or.inl (tb2 73 _ rfl)⟩
theorem fl_X4_23 : FLk RX4 23 4 4 true := ⟨RX4, TX4, 11, rfl, by decide, rfl, Or.inl (tb2 74 _ rfl)⟩
theorem fl_X4_27 : FLk RX4 27 4 5 false := ⟨RX4, TX4, 11, rfl, by decide, rfl, Or.inl (tb2 75 _ rfl)⟩
theorem fl_X4_31 : FLk RX4 31 4 6 false := ⟨RX4, TX4, 11, rfl, by decide, rfl, Or.inl (tb2 76 _ rfl)⟩
theorem fl_X4_34 : FLk RX4 34 4 7 false := ⟨RX4, TX4, 11, rfl, by decide, rfl, Or.inl (tb2 77 _ rfl)⟩
theorem fl_X4_37 : FLk RX4 37 4 8 false := ⟨RX4, TX4, 11, rfl, by decide, rfl, Or.inl (tb2 78 _ rfl)⟩
theorem fl_X4_40 : FLk RX4 40 4 9 false := ⟨RX4, TX4, 11, rfl, by decide, rfl, Or.inl (tb2 79 _ rfl)⟩
theorem fl_X4_44 : FLk RX4 44 4 10 false := ⟨RX4, TX4, 11, rfl, by decide, rfl, Or.inl (tb2 80 _ rfl)⟩
theorem fl_X4_47 : FLk RX4 47 4 0 true := ⟨RX4, TX4, 11, rfl, by decide, rfl, Or.inl (tb2 70 _ rfl)⟩
theorem fl_X5_9 : FLk RX5 9 5 0 false := ⟨RX5, TX5, 15, rfl, by decide, rfl, Or.inl (tb1 82 _ rfl)⟩
theorem fl_X5_15 : FLk RX5 15 5 1 false := ⟨RX5, TX5, 15, rfl, by decide, rfl, Or.inl (tb1 84 _ rfl)⟩
theorem fl_X5_18 : FLk RX5 18 5 2 true := ⟨RX5, TX5, 15, rfl, by decide, rfl, Or.inl (tb1 88 _ rfl)⟩
theorem fl_X5_22 : FLk RX5 22 5 3 true := ⟨RX5, TX5, 15, rfl, by decide, rfl, Or.inl (tb1 90 _ rfl)⟩
theorem fl_X5_25 : FLk RX5 25 5 4 true := ⟨RX5, TX5, 15, rfl, by decide, rfl, Or.inl (tb1 93 _ rfl)⟩
theorem fl_X5_28 : FLk RX5 28 5 5 false := ⟨RX5, TX5, 15, rfl, by decide, rfl, Or.inl (tb1 96 _ rfl)⟩
theorem fl_X5_31 : FLk RX5 31 5 6 false := ⟨RX5, TX5, 15, rfl, by decide, rfl, Or.inl (tb1 99 _ rfl)⟩
theorem fl_X5_34 : FLk RX5 34 5 7 false := ⟨RX5, TX5, 15, rfl, by decide, rfl, Or.inl (tb1 103 _ rfl)⟩
theorem fl_X5_37 : FLk RX5 37 5 8 false := ⟨RX5, TX5, 15, rfl, by decide, rfl, Or.inl (tb1 107 _ rfl)⟩
theorem fl_X5_40 : FLk RX5 40 5 9 true := ⟨RX5, TX5, 15, rfl, by decide, rfl, Or.inl (tb1 111 _ rfl)⟩
theorem fl_X5_43 : FLk RX5 43 5 10 false := ⟨RX5, TX5, 15, rfl, by decide, rfl, Or.inl (tb1 114 _ rfl)⟩
theorem fl_X5_46 : FLk RX5 46 5 11 true := ⟨RX5, TX5, 15, rfl, by decide, rfl, Or.inl (tb1 116 _ rfl)⟩
theorem fl_X5_49 : FLk RX5 49 5 12 true := ⟨RX5, TX5, 15, rfl, by decide, rfl, Or.inl (tb1 117 _ rfl)⟩
theorem fl_X5_52 : FLk RX5 52 5 13 false := ⟨RX5, TX5, 15, rfl, by decide, rfl, Or.inl (tb1 118 _ rfl)⟩
theorem fl_X5_55 : FLk RX5 55 5 14 true := ⟨RX5, TX5, 15, rfl, by decide, rfl, Or.inl (tb1 120 _ rfl)⟩
theorem fl_X6_9 : FLk RX6 9 6 0 true := ⟨RX6, TX6, 2, rfl, by decide, rfl, Or.inl (tb1 237 _ rfl)⟩
theorem fl_X6_15 : FLk RX6 15 6 1 true := ⟨RX6, TX6, 2, rfl, by decide, rfl, Or.inl (tb1 238 _ rfl)⟩
theorem ft_X6_25 : FLt RX6 25 0 := ⟨by decide, tb4 48 _ rfl⟩
theorem ft_X6_35 : FLt RX6 35 23 := ⟨by decide, tb4 140 _ rfl⟩
theorem ft_X6_50 : FLt RX6 50 12 := ⟨by decide, tb4 91 _ rfl⟩
theorem ft_X6_56 : FLt RX6 56 14 := ⟨by decide, tb4 108 _ rfl⟩
theorem ft_X6_62 : FLt RX6 62 11 := ⟨by decide, tb4 119 _ rfl⟩
theorem ft_X6_71 : FLt RX6 71 3 := ⟨by decide, tb4 56 _ rfl⟩
theorem ft_X6_76 : FLt RX6 76 4 := ⟨by decide, tb4 58 _ rfl⟩
theorem ft_X6_79 : FLt RX6 79 5 := ⟨by decide, tb4 60 _ rfl⟩
theorem ft_X6_82 : FLt RX6 82 6 := ⟨by decide, tb4 62 _ rfl⟩
theorem ft_X6_96 : FLt RX6 96 7 := ⟨by decide, tb4 81 _ rfl⟩
theorem ft_X6_110 : FLt RX6 110 13 := ⟨by decide, tb4 102 _ rfl⟩
theorem ft_X6_127 : FLt RX6 127 8 := ⟨by decide, tb4 134 _ rfl⟩
theorem ft_X6_130 : FLt RX6 130 9 := ⟨by decide, tb4 136 _ rfl⟩
theorem ft_X6_133 : FLt RX6 133 10 := ⟨by decide, tb4 138 _ rfl⟩
theorem ft_X6_145 : FLt RX6 145 1 := ⟨by decide, tb4 80 _ rfl⟩
theorem fl_X7_9 : FLk RX7 9 7 0 false := ⟨RX7, TX7, 10, rfl, by decide, rfl, Or.inl (tb1 199 _ rfl)⟩
theorem fl_X7_15 : FLk RX7 15 7 1 true := ⟨RX7, TX7, 10, rfl, by decide, rfl, Or.inl (tb1 201 _ rfl)⟩
theorem fl_X7_19 : FLk RX7 19 7 2 true := ⟨RX7, TX7, 10, rfl, by decide, rfl, Or.inl (tb1 202 _ rfl)⟩
theorem fl_X7_22 : FLk RX7 22 7 3 true := ⟨RX7, TX7, 10, rfl, by decide, rfl, Or.inl (tb1 203 _ rfl)⟩
theorem fl_X7_25 : FLk RX7 25 7 4 false := ⟨RX7, TX7, 10, rfl, by decide, rfl, Or.inl (tb1 204 _ rfl)⟩
theorem fl_X7_28 : FLk RX7 28 7 5 true := ⟨RX7, TX7, 10, rfl, by decide, rfl, Or.inl (tb1 205 _ rfl)⟩
theorem fl_X7_31 : FLk RX7 31 7 6 false := ⟨RX7, TX7, 10, rfl, by decide, rfl, Or.inl (tb1 206 _ rfl)⟩
theorem fl_X7_34 : FLk RX7 34 7 7 false := ⟨RX7, TX7, 10, rfl, by decide, rfl, Or.inl (tb1 207 _ rfl)⟩
theorem fl_X7_37 : FLk RX7 37 7 8 false := ⟨RX7, TX7, 10, rfl, by decide, rfl, Or.inl (tb1 208 _ rfl)⟩
theorem fl_X7_40 : FLk RX7 40 7 9 false := ⟨RX7, TX7, 10, rfl, by decide, rfl, Or.inl (tb1 209 _ rfl)⟩
theorem fl_X8_9 : FLk RX8 9 8 0 true := ⟨RX8, TX8, 2, rfl, by decide, rfl, Or.inl (tb2 10 _ rfl)⟩
theorem fl_X8_15 : FLk RX8 15 8 1 true := ⟨RX8, TX8, 2, rfl, by decide, rfl, Or.inl (tb2 11 _ rfl)⟩
theorem ft_X8_30 : FLt RX8 30 0 := ⟨by decide, tb5 12 _ rfl⟩
theorem ft_X8_40 : FLt RX8 40 23 := ⟨by decide, tb5 74 _ rfl⟩
theorem ft_X8_51 : FLt RX8 51 1 := ⟨by decide, tb5 18 _ rfl⟩
theorem ft_X8_54 : FLt RX8 54 15 := ⟨by decide, tb5 20 _ rfl⟩
theorem ft_X8_71 : FLt RX8 71 16 := ⟨by decide, tb5 68 _ rfl⟩
theorem ft_X8_77 : FLt RX8 77 17 := ⟨by decide, tb5 66 _ rfl⟩
theorem ft_X8_80 : FLt RX8 80 18 := ⟨by decide, tb5 34 _ rfl⟩
theorem ft_X8_83 : FLt RX8 83 24 := ⟨by decide, tb5 36 _ rfl⟩
theorem ft_X8_86 : FLt RX8 86 25 := ⟨by decide, tb5 38 _ rfl⟩
theorem ft_X8_92 : FLt RX8 92 26 := ⟨by decide, tb5 62 _ rfl⟩
theorem ft_X8_95 : FLt RX8 95 27 := ⟨by decide, tb5 64 _ rfl⟩
theorem ft_X8_105 : FLt RX8 105 28 := ⟨by decide, tb5 60 _ rfl⟩
theorem ft_X8_108 : FLt RX8 108 19 := ⟨by decide, tb5 51 _ rfl⟩
theorem ft_X8_111 : FLt RX8 111 20 := ⟨by decide, tb5 53 _ rfl⟩
theorem ft_X8_114 : FLt RX8 114 21 := ⟨by decide, tb5 55 _ rfl⟩
theorem ft_X8_117 : FLt RX8 117 22 := ⟨by decide, tb5 57 _ rfl⟩
theorem fl_X9_9 : FLk RX9 9 9 0 true := ⟨RX9, TX9, 7, rfl, by decide, rfl, Or.inl (tb1 47 _ rfl)⟩
theorem fl_X9_15 : FLk RX9 15 9 1 false := ⟨RX9, TX9, 7, rfl, by decide, rfl, Or.inl (tb1 49 _ rfl)⟩
theorem fl_X9_21 : FLk RX9 21 9 2 true := ⟨RX9, TX9, 7, rfl, by decide, rfl, Or.inl (tb1 52 _ rfl)⟩
theorem fl_X9_25 : FLk RX9 25 9 3 true := ⟨RX9, TX9, 7, rfl, by decide, rfl, Or.inl (tb1 53 _ rfl)⟩
theorem fl_X9_28 : FLk RX9 28 9 4 true := ⟨RX9, TX9, 7, rfl, by decide, rfl, Or.inl (tb1 54 _ rfl)⟩
theorem fl_X9_31 : FLk RX9 31 9 5 false := ⟨RX9, TX9, 7, rfl, by decide, rfl, Or.inl (tb1 55 _ rfl)⟩
theorem fl_X9_34 : FLk RX9 34 9 6 false := ⟨RX9, TX9, 7, rfl, by decide, rfl, Or.inl (tb1 56 _ rfl)⟩
theorem ft_X9_45 : FLt RX9 45 0 := ⟨by decide, tb4 38 _ rfl⟩
theorem ft_X9_53 : FLt RX9 53 1 := ⟨by decide, tb3 212 _ rfl⟩
theorem ft_X9_56 : FLt RX9 56 2 := ⟨by decide, tb3 214 _ rfl⟩
theorem fl_X12_7 : FLk RX12 7 11 1 true := ⟨RX12, TX12, 28, rfl, by decide, rfl, Or.inl (tb6 108 _ rfl)⟩
theorem fl_X12_13 : FLk RX12 13 11 2 true := ⟨RX12, TX12, 28, rfl, by decide, rfl, Or.inl (tb6 109 _ rfl)⟩
theorem fl_X12_16 : FLk RX12 16 11 4 true := ⟨RX12, TX12, 28, rfl, by decide, rfl, Or.inl (tb6 111 _ rfl)⟩
theorem fl_X12_19 : FLk RX12 19 11 5 true := ⟨RX12, TX12, 28, rfl, by decide, rfl, Or.inl (tb6 112 _ rfl)⟩
theorem fl_X12_22 : FLk RX12 22 11 10 false := ⟨RX12, TX12, 28, rfl, by decide, rfl, Or.inl (tb6 117 _ rfl)⟩
theorem fl_X12_26 : FLk RX12 26 11 12 true := ⟨RX12, TX12, 28, rfl, by decide, rfl, Or.inl (tb6 119 _ rfl)⟩
theorem fl_X12_29 : FLk RX12 29 11 14 true := ⟨RX12, TX12, 28, rfl, by decide, rfl, Or.inl (tb6 121 _ rfl)⟩
theorem fl_X12_32 : FLk RX12 32 11 15 true := ⟨RX12, TX12, 28, rfl, by decide, rfl, Or.inl (tb6 122 _ rfl)⟩
theorem fl_X12_35 : FLk RX12 35 11 16 true := ⟨RX12, TX12, 28, rfl, by decide, rfl, Or.inl (tb6 123 _ rfl)⟩
theorem fl_X12_38 : FLk RX12 38 11 18 true := ⟨RX12, TX12, 28, rfl, by decide, rfl, Or.inl (tb6 125 _ rfl)⟩
theorem fl_X12_41 : FLk RX12 41 11 19 true := ⟨RX12, TX12, 28, rfl, by decide, rfl, Or.inl (tb6 126 _ rfl)⟩
theorem fl_X12_44 : FLk RX12 44 11 20 true := ⟨RX12, TX12, 28, rfl, by decide, rfl, Or.inl (tb6 127 _ rfl)⟩
theorem fl_X12_47 : FLk RX12 47 11 23 true := ⟨RX12, TX12, 28, rfl, by decide, rfl, Or.inl (tb6 130 _ rfl)⟩
theorem fl_X12_50 : FLk RX12 50 11 24 true := ⟨RX12, TX12, 28, rfl, by decide, rfl, Or.inl (tb6 131 _ rfl)⟩
theorem fl_X12_53 : FLk RX12 53 11 25 true := ⟨RX12, TX12, 28, rfl, by decide, rfl, Or.inl (tb6 132 _ rfl)⟩
theorem fl_X12_56 : FLk RX12 56 11 26 true := ⟨RX12, TX12, 28, rfl, by decide, rfl, Or.inl (tb6 133 _ rfl)⟩
theorem fl_X12_59 : FLk RX12 59 11 0 false := ⟨RX12, TX12, 28, rfl, by decide, rfl, Or.inl (tb6 107 _ rfl)⟩
theorem fl_X12_82 : FLk RX12 82 11 6 false := ⟨RX12, TX12, 28, rfl, by decide, rfl, Or.inl (tb6 113 _ rfl)⟩
theorem fl_X12_85 : FLk RX12 85 11 7 false := ⟨RX12, TX12, 28, rfl, by decide, rfl, Or.inl (tb6 114 _ rfl)⟩
theorem fl_X12_88 : FLk RX12 88 11 9 false := ⟨RX12, TX12, 28, rfl, by decide, rfl, Or.inl (tb6 116 _ rfl)⟩
theorem fl_X12_91 : FLk RX12 91 11 8 false := ⟨RX12, TX12, 28, rfl, by decide, rfl, Or.inl (tb6 115 _ rfl)⟩
theorem fl_X12_150 : FLk RX12 150 11 11 false := ⟨RX12, TX12, 28, rfl, by decide, rfl, Or.inl (tb6 118 _ rfl)⟩
theorem fl_X12_205 : FLk RX12 205 11 13 false := ⟨RX12, TX12, 28, rfl, by decide, rfl, Or.inl (tb6 120 _ rfl)⟩
theorem fl_X12_226 : FLk RX12 226 11 17 false := ⟨RX12, TX12, 28, rfl, by decide, rfl, Or.inl (tb6 124 _ rfl)⟩
theorem fl_X12_277 : FLk RX12 277 11 21 false := ⟨RX12, TX12, 28, rfl, by decide, rfl, Or.inl (tb6 128 _ rfl)⟩
theorem fl_X12_280 : FLk RX12 280 11 22 false := ⟨RX12, TX12, 28, rfl, by decide, rfl, Or.inl (tb6 129 _ rfl)⟩
theorem fl_X12_288 : FLk RX12 288 11 27 false := ⟨RX12, TX12, 28, rfl, by decide, rfl, Or.inl (tb6 134 _ rfl)⟩
theorem fl_X12_298 : FLk RX12 298 11 3 false := ⟨RX12, TX12, 28, rfl, by decide, rfl, Or.inl (tb6 110 _ rfl)⟩
theorem fl_X11_112 : FLk RX11 112 9 1 false := ⟨RX9, TX9, 7, rfl, by decide, rfl, Or.inr ⟨"RopeFerry", List.mem_of_getElem? (i := 2) rfl⟩⟩
theorem fl_X11_141 : FLk RX11 141 5 0 false := ⟨RX5, TX5, 15, rfl, by decide, rfl, Or.inr ⟨"RopeFerry", List.mem_of_getElem? (i := 3) rfl⟩⟩
theorem fl_X11_155 : FLk RX11 155 7 0 false := ⟨RX7, TX7, 10, rfl, by decide, rfl, Or.inr ⟨"RopeFerry", List.mem_of_getElem? (i := 35) rfl⟩⟩
theorem fl_X11_167 : FLk RX11 167 5 2 true := ⟨RX5, TX5, 15, rfl, by decide, rfl, Or.inr ⟨"RopeFerry", List.mem_of_getElem? (i := 7) rfl⟩⟩
theorem fl_X11_171 : FLk RX11 171 5 3 true := ⟨RX5, TX5, 15, rfl, by decide, rfl, Or.inr ⟨"RopeFerry", List.mem_of_getElem? (i := 9) rfl⟩⟩
theorem fl_X11_174 : FLk RX11 174 5 4 true := ⟨RX5, TX5, 15, rfl, by decide, rfl, Or.inr ⟨"RopeFerry", List.mem_of_getElem? (i := 11) rfl⟩⟩
theorem fl_X11_177 : FLk RX11 177 5 5 false := ⟨RX5, TX5, 15, rfl, by decide, rfl, Or.inr ⟨"RopeFerry", List.mem_of_getElem? (i := 12) rfl⟩⟩
theorem fl_X11_180 : FLk RX11 180 0 5 true := ⟨RX0, TX0, 8, rfl, by decide, rfl, Or.inr ⟨"RopeFerry", List.mem_of_getElem? (i := 33) rfl⟩⟩
theorem fl_X11_187 : FLk RX11 187 0 0 false := ⟨RX0, TX0, 8, rfl, by decide, rfl, Or.inr ⟨"RopeFerry", List.mem_of_getElem? (i := 28) rfl⟩⟩
theorem fl_X11_202 : FLk RX11 202 2 4 true := ⟨RX2, TX2, 11, rfl, by decide, rfl, Or.inr ⟨"RopeFerry", List.mem_of_getElem? (i := 38) rfl⟩⟩
theorem fl_X11_205 : FLk RX11 205 2 2 false := ⟨RX2, TX2, 11, rfl, by decide, rfl, Or.inr ⟨"RopeFerry", List.mem_of_getElem? (i := 37) rfl⟩⟩
theorem fl_X11_245 : FLk RX11 245 0 2 false := ⟨RX0, TX0, 8, rfl, by decide, rfl, Or.inr ⟨"RopeFerry", List.mem_of_getElem? (i := 30) rfl⟩⟩
theorem fl_X11_253 : FLk RX11 253 0 6 true := ⟨RX0, TX0, 8, rfl, by decide, rfl, Or.inr ⟨"RopeFerry", List.mem_of_getElem? (i := 34) rfl⟩⟩
theorem fl_X11_302 : FLk RX11 302 5 1 false := ⟨RX5, TX5, 15, rfl, by decide, rfl, Or.inr ⟨"RopeFerry", List.mem_of_getElem? (i := 6) rfl⟩⟩
theorem fl_X11_305 : FLk RX11 305 0 1 false := ⟨RX0, TX0, 8, rfl, by decide, rfl, Or.inr ⟨"RopeFerry", List.mem_of_getElem? (i := 29) rfl⟩⟩
theorem fl_X11_308 : FLk RX11 308 5 9 true := ⟨RX5, TX5, 15, rfl, by decide, rfl, Or.inr ⟨"RopeFerry", List.mem_of_getElem? (i := 24) rfl⟩⟩
theorem fl_X11_314 : FLk RX11 314 5 6 false := ⟨RX5, TX5, 15, rfl, by decide, rfl, Or.inr ⟨"RopeFerry", List.mem_of_getElem? (i := 16) rfl⟩⟩
theorem fl_X11_317 : FLk RX11 317 5 7 false := ⟨RX5, TX5, 15, rfl, by decide, rfl, Or.inr ⟨"RopeFerry", List.mem_of_getElem? (i := 19) rfl⟩⟩
theorem fl_X11_320 : FLk RX11 320 5 8 false := ⟨RX5, TX5, 15, rfl, by decide, rfl, Or.inr ⟨"RopeFerry", List.mem_of_getElem? (i := 22) rfl⟩⟩
theorem fl_X11_323 : FLk RX11 323 0 3 false := ⟨RX0, TX0, 8, rfl, by decide, rfl, Or.inr ⟨"RopeFerry", List.mem_of_getElem? (i := 31) rfl⟩⟩
theorem fl_X11_326 : FLk RX11 326 0 4 false := ⟨RX0, TX0, 8, rfl, by decide, rfl, Or.inr ⟨"RopeFerry", List.mem_of_getElem? (i := 32) rfl⟩⟩
theorem fl_X0_53 : FLk RX0 53 5 3 true := ⟨RX5, TX5, 15, rfl, by decide, rfl, Or.inr ⟨"RopeFerry", List.mem_of_getElem? (i := 8) rfl⟩⟩
theorem fl_X2_54 : FLk RX2 54 5 9 true := ⟨RX5, TX5, 15, rfl, by decide, rfl, Or.inr ⟨"RopeFerry", List.mem_of_getElem? (i := 23) rfl⟩⟩
theorem fl_X2_61 : FLk RX2 61 5 1 false := ⟨RX5, TX5, 15, rfl, by decide, rfl, Or.inr ⟨"RopeFerry", List.mem_of_getElem? (i := 4) rfl⟩⟩
theorem fl_X2_75 : FLk RX2 75 5 4 true := ⟨RX5, TX5, 15, rfl, by decide, rfl, Or.inr ⟨"RopeFerry", List.mem_of_getElem? (i := 10) rfl⟩⟩
theorem fl_X2_78 : FLk RX2 78 5 14 true := ⟨RX5, TX5, 15, rfl, by decide, rfl, Or.inr ⟨"RopeFerry", List.mem_of_getElem? (i := 27) rfl⟩⟩
theorem fl_X2_81 : FLk RX2 81 5 7 false := ⟨RX5, TX5, 15, rfl, by decide, rfl, Or.inr ⟨"RopeFerry", List.mem_of_getElem? (i := 17) rfl⟩⟩
theorem fl_X2_84 : FLk RX2 84 5 6 false := ⟨RX5, TX5, 15, rfl, by decide, rfl, Or.inr ⟨"RopeFerry", List.mem_of_getElem? (i := 14) rfl⟩⟩
theorem fl_X2_87 : FLk RX2 87 5 8 false := ⟨RX5, TX5, 15, rfl, by decide, rfl, Or.inr ⟨"RopeFerry", List.mem_of_getElem? (i := 20) rfl⟩⟩
theorem fl_X2_111 : FLk RX2 111 5 5 false := ⟨RX5, TX5, 15, rfl, by decide, rfl, Or.inr ⟨"RopeFerry", List.mem_of_getElem? (i := 13) rfl⟩⟩
theorem fl_X3_23 : FLk RX3 23 9 1 false := ⟨RX9, TX9, 7, rfl, by decide, rfl, Or.inr ⟨"RopeFerry", List.mem_of_getElem? (i := 1) rfl⟩⟩
theorem fl_X3_26 : FLk RX3 26 9 0 true := ⟨RX9, TX9, 7, rfl, by decide, rfl, Or.inr ⟨"RopeFerry", List.mem_of_getElem? (i := 0) rfl⟩⟩
theorem fl_X4_90 : FLk RX4 90 2 2 false := ⟨RX2, TX2, 11, rfl, by decide, rfl, Or.inr ⟨"RopeFerry", List.mem_of_getElem? (i := 36) rfl⟩⟩
theorem fl_X4_104 : FLk RX4 104 2 10 false := ⟨RX2, TX2, 11, rfl, by decide, rfl, Or.inr ⟨"RopeFerry", List.mem_of_getElem? (i := 41) rfl⟩⟩
theorem fl_X4_107 : FLk RX4 107 2 8 true := ⟨RX2, TX2, 11, rfl, by decide, rfl, Or.inr ⟨"RopeFerry", List.mem_of_getElem? (i := 39) rfl⟩⟩
theorem fl_X4_110 : FLk RX4 110 2 9 true := ⟨RX2, TX2, 11, rfl, by decide, rfl, Or.inr ⟨"RopeFerry", List.mem_of_getElem? (i := 40) rfl⟩⟩
theorem fl_X6_85 : FLk RX6 85 5 1 false := ⟨RX5, TX5, 15, rfl, by decide, rfl, Or.inr ⟨"RopeFerry", List.mem_of_getElem? (i := 5) rfl⟩⟩
theorem fl_X6_103 : FLk RX6 103 5 10 false := ⟨RX5, TX5, 15, rfl, by decide, rfl, Or.inr ⟨"RopeFerry", List.mem_of_getElem? (i := 25) rfl⟩⟩
theorem fl_X6_117 : FLk RX6 117 5 13 false := ⟨RX5, TX5, 15, rfl, by decide, rfl, Or.inr ⟨"RopeFerry", List.mem_of_getElem? (i := 26) rfl⟩⟩
theorem fl_X6_136 : FLk RX6 136 5 6 false := ⟨RX5, TX5, 15, rfl, by decide, rfl, Or.inr ⟨"RopeFerry", List.mem_of_getElem? (i := 15) rfl⟩⟩
theorem fl_X6_139 : FLk RX6 139 5 7 false := ⟨RX5, TX5, 15, rfl, by decide, rfl, Or.inr ⟨"RopeFerry", List.mem_of_getElem? (i := 18) rfl⟩⟩
theorem fl_X6_142 : FLk RX6 142 5 8 false := ⟨RX5, TX5, 15, rfl, by decide, rfl, Or.inr ⟨"RopeFerry", List.mem_of_getElem? (i := 21) rfl⟩⟩
theorem fx_X9_67 : (RX9, 67, "RopeFerry$Thing", "ALL", "[LRopeFerry$Thing;", "RopeFerry") ∈ nstF := List.mem_of_getElem? (i := 42) rfl
theorem fx_X9_70 : (RX9, 70, "RopeFerry$Thing", "text", "Ljava/lang/String;", "RopeFerry") ∈ nstF := List.mem_of_getElem? (i := 43) rfl
theorem cn_X1_74 : Cond.constant RX1 74 (1103515245) ∈ lw_tbl := tb6 45 _ rfl
theorem cn_X4_51 : Cond.constant RX4 51 (2147483647) ∈ lw_tbl := tb3 57 _ rfl
theorem cn_X4_74 : Cond.constant RX4 74 (262144) ∈ lw_tbl := tb3 130 _ rfl
theorem cn_X12_251 : Cond.constant RX12 251 (100000000) ∈ lw_tbl := tb7 176 _ rfl
theorem cn_X12_287 : Cond.constant RX12 287 (1103515245) ∈ lw_tbl := tb7 229 _ rfl
theorem cn_J6_265 : Cond.constant RJ6 265 (1431655765) ∈ lw_tbl := tb3 86 _ rfl
theorem cn_J6_266 : Cond.constant RJ6 266 (858993459) ∈ lw_tbl := tb3 87 _ rfl
theorem cn_J6_267 : Cond.constant RJ6 267 (252645135) ∈ lw_tbl := tb3 88 _ rfl
theorem lk_X11_115 : LkV RX11 115 yX9_append cX9_append 3 none 1 := ⟨tb2 228 _ rfl, tb1 2 _ rfl, tb2 225 _ rfl, tb2 226 _ rfl, tb2 227 _ rfl, ⟨by decide, by decide⟩, rfl⟩
theorem lk_X11_119 : LkV RX11 119 yX5_copyFrom cX5_copyFrom 2 none 1 := ⟨tb3 163 _ rfl, tb1 3 _ rfl, tb3 160 _ rfl, tb3 161 _ rfl, tb3 162 _ rfl, ⟨by decide, by decide⟩, rfl⟩
theorem lk_X11_123 : LkV RX11 123 yX9_split cX9_split 3 none 0 := ⟨tb3 198 _ rfl, tb1 2 _ rfl, tb3 195 _ rfl, tb3 196 _ rfl, tb3 197 _ rfl, ⟨by decide, by decide⟩, rfl⟩
theorem lk_X11_126 : LkV RX11 126 yX6_readText cX6_readText 2 (some .boolean) 0 := ⟨tb4 43 _ rfl, tb1 7 _ rfl, tb4 40 _ rfl, tb4 41 _ rfl, tb4 42 _ rfl, ⟨by decide, by decide⟩, rfl⟩
theorem lk_X11_130 : LkV RX11 130 yX11_endReading cX11_endReading 2 none 1 := ⟨tb4 145 _ rfl, tb1 1 _ rfl, tb4 142 _ rfl, tb4 144 _ rfl, tbs (q := 17) (List.mem_of_getElem? (i := 24) rfl), ⟨by decide, by decide⟩, rfl⟩
theorem lk_X11_149 : LkV RX11 149 yX8_readText cX8_readText 2 (some .boolean) 0 := ⟨tb5 6 _ rfl, tb1 8 _ rfl, tb5 3 _ rfl, tb5 4 _ rfl, tb5 5 _ rfl, ⟨by decide, by decide⟩, rfl⟩
theorem lk_X11_152 : LkV RX11 152 yX7_copyFrom cX7_copyFrom 2 none 1 := ⟨tb3 175 _ rfl, tb1 6 _ rfl, tb3 172 _ rfl, tb3 173 _ rfl, tb3 174 _ rfl, ⟨by decide, by decide⟩, rfl⟩
theorem lk_X11_158 : LkV RX11 158 yX5_hasBeing cX5_hasBeing 2 (some .boolean) 1 := ⟨tb3 121 _ rfl, tb1 3 _ rfl, tb5 85 _ rfl, tb3 119 _ rfl, tb3 120 _ rfl, ⟨by decide, by decide⟩, rfl⟩
theorem lk_X11_183 : LkV RX11 183 yX0_forceOf cX0_forceOf 3 (some .int) 2 := ⟨tb3 19 _ rfl, tb1 5 _ rfl, tb5 102 _ rfl, tb3 17 _ rfl, tb3 18 _ rfl, ⟨by decide, by decide⟩, rfl⟩
theorem lk_X11_190 : LkV RX11 190 yX0_balanceOf cX0_balanceOf 4 (some .int) 1 := ⟨tb5 106 _ rfl, tb1 5 _ rfl, tb5 103 _ rfl, tb5 104 _ rfl, tb5 105 _ rfl, ⟨by decide, by decide⟩, rfl⟩
theorem lk_X11_199 : LkV RX11 199 yX2_prepare cX2_prepare 2 none 0 := ⟨tb3 4 _ rfl, tb1 9 _ rfl, tb3 1 _ rfl, tb3 2 _ rfl, tb3 3 _ rfl, ⟨by decide, by decide⟩, rfl⟩
theorem lk_X11_208 : LkV RX11 208 yX2_needFor cX2_needFor 2 (some .int) 1 := ⟨tb3 34 _ rfl, tb1 9 _ rfl, tb3 31 _ rfl, tb3 32 _ rfl, tb3 33 _ rfl, ⟨by decide, by decide⟩, rfl⟩
theorem lk_X11_211 : LkV RX11 211 yX0_state cX0_state 1 (some .int) 0 := ⟨tb3 52 _ rfl, tb1 5 _ rfl, tb3 49 _ rfl, tb3 50 _ rfl, tb3 51 _ rfl, ⟨by decide, by decide⟩, rfl⟩
theorem lk_X11_215 : LkV RX11 215 yX2_crossing cX2_crossing 8 (some .int) 3 := ⟨tb3 96 _ rfl, tb1 9 _ rfl, tb5 131 _ rfl, tb3 94 _ rfl, tb3 95 _ rfl, ⟨by decide, by decide⟩, rfl⟩
theorem lk_X11_224 : LkV RX11 224 yX5_debtors cX5_debtors 3 (some .int) 0 := ⟨tb5 151 _ rfl, tb1 3 _ rfl, tb5 148 _ rfl, tb5 149 _ rfl, tb5 150 _ rfl, ⟨by decide, by decide⟩, rfl⟩
theorem lk_X11_227 : LkV RX11 227 yX0_noteCrossing cX0_noteCrossing 5 none 3 := ⟨tb5 155 _ rfl, tb1 5 _ rfl, tb5 152 _ rfl, tb5 153 _ rfl, tb5 154 _ rfl, ⟨by decide, by decide⟩, rfl⟩
theorem lk_X11_231 : LkV RX11 231 yX0_passMinutes cX0_passMinutes 4 none 1 := ⟨tb5 163 _ rfl, tb1 5 _ rfl, tb5 160 _ rfl, tb5 161 _ rfl, tb5 162 _ rfl, ⟨by decide, by decide⟩, rfl⟩
theorem lk_X11_234 : LkV RX11 234 yX2_swimming cX2_swimming 6 (some .int) 2 := ⟨tb3 117 _ rfl, tb1 9 _ rfl, tb5 171 _ rfl, tb3 115 _ rfl, tb3 116 _ rfl, ⟨by decide, by decide⟩, rfl⟩
theorem lk_X11_240 : LkV RX11 240 yX0_noteSwim cX0_noteSwim 2 none 1 := ⟨tb5 176 _ rfl, tb1 5 _ rfl, tb5 173 _ rfl, tb5 174 _ rfl, tb5 175 _ rfl, ⟨by decide, by decide⟩, rfl⟩
theorem lk_X11_248 : LkV RX11 248 yX5_everyone cX5_everyone 1 (some .int) 0 := ⟨tb3 8 _ rfl, tb1 3 _ rfl, tb3 39 _ rfl, tb3 6 _ rfl, tb3 7 _ rfl, ⟨by decide, by decide⟩, rfl⟩
theorem lk_X11_250 : LkV RX11 250 yX5_isPeaceful cX5_isPeaceful 3 (some .boolean) 1 := ⟨tb3 30 _ rfl, tb1 3 _ rfl, tb3 40 _ rfl, tb3 28 _ rfl, tb3 29 _ rfl, ⟨by decide, by decide⟩, rfl⟩
theorem lk_X11_259 : LkV RX11 259 yX0_payment cX0_payment 7 (some .int) 1 := ⟨tb5 203 _ rfl, tb1 5 _ rfl, tb5 200 _ rfl, tb5 201 _ rfl, tb5 202 _ rfl, ⟨by decide, by decide⟩, rfl⟩
theorem lk_X11_262 : LkV RX11 262 yX11_findPlan cX11_findPlan 3 (some .boolean) 2 := ⟨tb3 48 _ rfl, tb1 1 _ rfl, tb3 45 _ rfl, tb3 47 _ rfl, tbs (q := 17) (List.mem_of_getElem? (i := 1) rfl), ⟨by decide, by decide⟩, rfl⟩
theorem lk_X11_266 : LkV RX11 266 yX4_minutes cX4_minutes 1 (some .int) 0 := ⟨tb5 226 _ rfl, tb1 10 _ rfl, tb5 223 _ rfl, tb5 224 _ rfl, tb5 225 _ rfl, ⟨by decide, by decide⟩, rfl⟩
theorem lk_X11_269 : LkV RX11 269 yX4_length cX4_length 1 (some .int) 0 := ⟨tb5 230 _ rfl, tb1 10 _ rfl, tb5 227 _ rfl, tb5 228 _ rfl, tb5 229 _ rfl, ⟨by decide, by decide⟩, rfl⟩
theorem lk_X11_272 : LkV RX11 272 yX4_step cX4_step 5 (some .int) 1 := ⟨tb3 134 _ rfl, tb1 10 _ rfl, tb3 131 _ rfl, tb3 132 _ rfl, tb3 133 _ rfl, ⟨by decide, by decide⟩, rfl⟩
theorem lk_X11_275 : LkV RX11 275 yX4_leastLeft cX4_leastLeft 6 (some .int) 1 := ⟨tb3 150 _ rfl, tb1 10 _ rfl, tb3 147 _ rfl, tb3 148 _ rfl, tb3 149 _ rfl, ⟨by decide, by decide⟩, rfl⟩
theorem lk_X11_278 : LkV RX11 278 yX3_take cX3_take 5 (some .boolean) 1 := ⟨tb6 1 _ rfl, tb1 11 _ rfl, tb5 238 _ rfl, tb5 239 _ rfl, tb6 0 _ rfl, ⟨by decide, by decide⟩, rfl⟩
theorem lk_X11_284 : LkV RX11 284 yX3_howMany cX3_howMany 2 (some .int) 1 := ⟨tb6 6 _ rfl, tb1 11 _ rfl, tb6 3 _ rfl, tb6 4 _ rfl, tb6 5 _ rfl, ⟨by decide, by decide⟩, rfl⟩
theorem lk_X11_287 : LkV RX11 287 yX3_first cX3_first 7 (some .int) 2 := ⟨tb6 20 _ rfl, tb1 11 _ rfl, tb6 17 _ rfl, tb6 18 _ rfl, tb6 19 _ rfl, ⟨by decide, by decide⟩, rfl⟩
theorem lk_X11_292 : LkV RX11 292 yX1_hold cX1_hold 7 none 4 := ⟨tb6 36 _ rfl, tb1 12 _ rfl, tb6 33 _ rfl, tb6 34 _ rfl, tb6 35 _ rfl, ⟨by decide, by decide⟩, rfl⟩
theorem lk_X11_296 : LkV RX11 296 yX1_answer cX1_answer 2 (some .int) 1 := ⟨tb6 100 _ rfl, tb1 12 _ rfl, tb6 97 _ rfl, tb6 98 _ rfl, tb6 99 _ rfl, ⟨by decide, by decide⟩, rfl⟩
theorem lk_X11_299 : LkV RX11 299 yX0_copyFrom cX0_copyFrom 3 none 1 := ⟨tb3 170 _ rfl, tb1 5 _ rfl, tb3 167 _ rfl, tb3 168 _ rfl, tb3 169 _ rfl, ⟨by decide, by decide⟩, rfl⟩
theorem lk_X11_311 : LkV RX11 311 yX0_hour cX0_hour 1 (some .int) 0 := ⟨tb3 12 _ rfl, tb1 5 _ rfl, tb3 185 _ rfl, tb3 10 _ rfl, tb3 11 _ rfl, ⟨by decide, by decide⟩, rfl⟩
theorem lk_X11_329 : LkV RX11 329 yX9_start cX9_start 1 (some .int) 0 := ⟨tb4 149 _ rfl, tb1 2 _ rfl, tb4 146 _ rfl, tb4 147 _ rfl, tb4 148 _ rfl, ⟨by decide, by decide⟩, rfl⟩
theorem lk_X11_332 : LkV RX11 332 yX4_search cX4_search 6 (some .boolean) 3 := ⟨tb3 56 _ rfl, tb1 10 _ rfl, tb3 53 _ rfl, tb3 54 _ rfl, tb3 55 _ rfl, ⟨by decide, by decide⟩, rfl⟩
theorem lk_X0_47 : LkS RX0 47 yJ9_floorMod_7cf53 cJ9_floorMod_7cf53 3 (some .int) 2 := ⟨tb3 15 _ rfl, tb1 21 _ rfl, tb3 13 _ rfl, tb3 14 _ rfl, ⟨by decide, by decide⟩, rfl⟩
theorem lm_X0_56 : LkM RX0 56 Lib.Math.max.name Lib.Math.max.code := ⟨tb3 20 _ rfl, tb3 21 _ rfl, tb1 21 _ rfl, tb3 22 _ rfl⟩
theorem lk_X0_59 : LkV RX0 59 yX0_notePulls cX0_notePulls 4 none 2 := ⟨tb5 159 _ rfl, tb1 5 _ rfl, tb5 156 _ rfl, tb5 158 _ rfl, tbs (q := 8) (List.mem_of_getElem? (i := 31) rfl), ⟨by decide, by decide⟩, rfl⟩
theorem lk_X0_63 : LkV RX0 63 yX0_balanceOf cX0_balanceOf 4 (some .int) 1 := ⟨tb5 106 _ rfl, tb1 5 _ rfl, tb5 204 _ rfl, tb5 104 _ rfl, tb5 105 _ rfl, ⟨by decide, by decide⟩, rfl⟩
theorem lk_X0_67 : LkV RX0 67 yX0_greatest cX0_greatest 3 (some .int) 0 := ⟨tb5 208 _ rfl, tb1 5 _ rfl, tb5 205 _ rfl, tb5 207 _ rfl, tbs (q := 8) (List.mem_of_getElem? (i := 32) rfl), ⟨by decide, by decide⟩, rfl⟩
theorem lk_X0_71 : LkV RX0 71 yX0_least cX0_least 3 (some .int) 0 := ⟨tb5 212 _ rfl, tb1 5 _ rfl, tb5 209 _ rfl, tb5 211 _ rfl, tbs (q := 8) (List.mem_of_getElem? (i := 33) rfl), ⟨by decide, by decide⟩, rfl⟩
theorem lm_X0_74 : LkM RX0 74 Lib.Math.min.name Lib.Math.min.code := ⟨tb5 213 _ rfl, tb5 214 _ rfl, tb1 21 _ rfl, tb5 215 _ rfl⟩
theorem lk_X1_58 : LkV RX1 58 yX1_begin cX1_begin 2 none 1 := ⟨tb6 40 _ rfl, tb1 12 _ rfl, tb6 37 _ rfl, tb6 39 _ rfl, tbs (q := 14) (List.mem_of_getElem? (i := 37) rfl), ⟨by decide, by decide⟩, rfl⟩
theorem lk_X1_62 : LkV RX1 62 yX1_draw cX1_draw 1 (some .int) 0 := ⟨tb6 44 _ rfl, tb1 12 _ rfl, tb6 41 _ rfl, tb6 43 _ rfl, tbs (q := 14) (List.mem_of_getElem? (i := 38) rfl), ⟨by decide, by decide⟩, rfl⟩
theorem lk_X1_66 : LkV RX1 66 yX1_comeOne cX1_comeOne 3 none 2 := ⟨tb6 49 _ rfl, tb1 12 _ rfl, tb6 46 _ rfl, tb6 48 _ rfl, tbs (q := 14) (List.mem_of_getElem? (i := 39) rfl), ⟨by decide, by decide⟩, rfl⟩
theorem lk_X1_70 : LkV RX1 70 yX1_minutesAway cX1_minutesAway 6 (some .int) 2 := ⟨tb6 53 _ rfl, tb1 12 _ rfl, tb6 50 _ rfl, tb6 52 _ rfl, tbs (q := 14) (List.mem_of_getElem? (i := 40) rfl), ⟨by decide, by decide⟩, rfl⟩
theorem lk_X1_75 : LkV RX1 75 yX1_giveNumbers cX1_giveNumbers 3 none 1 := ⟨tb6 57 _ rfl, tb1 12 _ rfl, tb6 54 _ rfl, tb6 56 _ rfl, tbs (q := 14) (List.mem_of_getElem? (i := 41) rfl), ⟨by decide, by decide⟩, rfl⟩
theorem lk_X1_78 : LkV RX1 78 yX1_nextToAsk cX1_nextToAsk 3 (some .int) 0 := ⟨tb6 84 _ rfl, tb1 12 _ rfl, tb6 81 _ rfl, tb6 83 _ rfl, tbs (q := 14) (List.mem_of_getElem? (i := 45) rfl), ⟨by decide, by decide⟩, rfl⟩
theorem lk_X1_81 : LkV RX1 81 yX1_bears cX1_bears 3 (some .boolean) 2 := ⟨tb6 89 _ rfl, tb1 12 _ rfl, tb6 86 _ rfl, tb6 88 _ rfl, tbs (q := 14) (List.mem_of_getElem? (i := 46) rfl), ⟨by decide, by decide⟩, rfl⟩
theorem lk_X1_85 : LkV RX1 85 yX1_leave cX1_leave 5 none 1 := ⟨tb6 95 _ rfl, tb1 12 _ rfl, tb6 92 _ rfl, tb6 94 _ rfl, tbs (q := 14) (List.mem_of_getElem? (i := 47) rfl), ⟨by decide, by decide⟩, rfl⟩
theorem lk_X1_88 : LkV RX1 88 yX2_needFor cX2_needFor 2 (some .int) 1 := ⟨tb3 34 _ rfl, tb1 9 _ rfl, tb6 91 _ rfl, tb3 32 _ rfl, tb3 33 _ rfl, ⟨by decide, by decide⟩, rfl⟩
theorem lk_X1_94 : LkV RX1 94 yX2_minutesFor cX2_minutesFor 4 (some .int) 2 := ⟨tb3 109 _ rfl, tb1 9 _ rfl, tb6 96 _ rfl, tb3 107 _ rfl, tb3 108 _ rfl, ⟨by decide, by decide⟩, rfl⟩
theorem lk_X1_97 : LkV RX1 97 yX7_setHour cX7_setHour 3 none 2 := ⟨tb6 61 _ rfl, tb1 6 _ rfl, tb6 58 _ rfl, tb6 59 _ rfl, tb6 60 _ rfl, ⟨by decide, by decide⟩, rfl⟩
theorem lk_X1_102 : LkV RX1 102 yX7_numberOf cX7_numberOf 5 (some .int) 2 := ⟨tb6 65 _ rfl, tb1 6 _ rfl, tb6 62 _ rfl, tb6 63 _ rfl, tb6 64 _ rfl, ⟨by decide, by decide⟩, rfl⟩
theorem lm_X1_105 : LkM RX1 105 Lib.Math.max.name Lib.Math.max.code := ⟨tb6 85 _ rfl, tb3 21 _ rfl, tb1 21 _ rfl, tb3 22 _ rfl⟩
theorem lk_X1_110 : LkV RX1 110 yX2_ropeBears cX2_ropeBears 2 (some .boolean) 1 := ⟨tb3 101 _ rfl, tb1 9 _ rfl, tb6 90 _ rfl, tb3 99 _ rfl, tb3 100 _ rfl, ⟨by decide, by decide⟩, rfl⟩
theorem lk_X2_49 : LkV RX2 49 yX5_everyone cX5_everyone 1 (some .int) 0 := ⟨tb3 8 _ rfl, tb1 3 _ rfl, tb3 5 _ rfl, tb3 6 _ rfl, tb3 7 _ rfl, ⟨by decide, by decide⟩, rfl⟩
theorem lk_X2_56 : LkV RX2 56 yX0_hour cX0_hour 1 (some .int) 0 := ⟨tb3 12 _ rfl, tb1 5 _ rfl, tb3 9 _ rfl, tb3 10 _ rfl, tb3 11 _ rfl, ⟨by decide, by decide⟩, rfl⟩
theorem lk_X2_64 : LkV RX2 64 yX0_forceOf cX0_forceOf 3 (some .int) 2 := ⟨tb3 19 _ rfl, tb1 5 _ rfl, tb3 16 _ rfl, tb3 17 _ rfl, tb3 18 _ rfl, ⟨by decide, by decide⟩, rfl⟩
theorem lk_X2_67 : LkV RX2 67 yX2_prepareBeing cX2_prepareBeing 5 none 2 := ⟨tb3 26 _ rfl, tb1 9 _ rfl, tb3 23 _ rfl, tb3 25 _ rfl, tbs (q := 11) (List.mem_of_getElem? (i := 0) rfl), ⟨by decide, by decide⟩, rfl⟩
theorem lk_X2_71 : LkV RX2 71 yX5_isPeaceful cX5_isPeaceful 3 (some .boolean) 1 := ⟨tb3 30 _ rfl, tb1 3 _ rfl, tb3 27 _ rfl, tb3 28 _ rfl, tb3 29 _ rfl, ⟨by decide, by decide⟩, rfl⟩
theorem lk_X2_90 : LkV RX2 90 yX2_here cX2_here 2 (some .int) 1 := ⟨tb3 82 _ rfl, tb1 9 _ rfl, tb3 79 _ rfl, tb3 81 _ rfl, tbs (q := 11) (List.mem_of_getElem? (i := 6) rfl), ⟨by decide, by decide⟩, rfl⟩
theorem lk_X2_94 : LkV RX2 94 yX2_needFor cX2_needFor 2 (some .int) 1 := ⟨tb3 34 _ rfl, tb1 9 _ rfl, tb3 97 _ rfl, tb3 32 _ rfl, tb3 33 _ rfl, ⟨by decide, by decide⟩, rfl⟩
theorem lk_X2_97 : LkV RX2 97 yX2_ropeBears cX2_ropeBears 2 (some .boolean) 1 := ⟨tb3 101 _ rfl, tb1 9 _ rfl, tb3 98 _ rfl, tb3 99 _ rfl, tb3 100 _ rfl, ⟨by decide, by decide⟩, rfl⟩
theorem lk_X2_100 : LkV RX2 100 yX2_keepsPeace cX2_keepsPeace 4 (some .boolean) 3 := ⟨tb3 105 _ rfl, tb1 9 _ rfl, tb3 102 _ rfl, tb3 104 _ rfl, tbs (q := 11) (List.mem_of_getElem? (i := 7) rfl), ⟨by decide, by decide⟩, rfl⟩
theorem lk_X2_104 : LkV RX2 104 yX2_minutesFor cX2_minutesFor 4 (some .int) 2 := ⟨tb3 109 _ rfl, tb1 9 _ rfl, tb3 106 _ rfl, tb3 107 _ rfl, tb3 108 _ rfl, ⟨by decide, by decide⟩, rfl⟩
theorem lk_X2_108 : LkV RX2 108 yX5_hasBeing cX5_hasBeing 2 (some .boolean) 1 := ⟨tb3 121 _ rfl, tb1 3 _ rfl, tb3 118 _ rfl, tb3 119 _ rfl, tb3 120 _ rfl, ⟨by decide, by decide⟩, rfl⟩
theorem lk_X2_114 : LkV RX2 114 yX2_crossing cX2_crossing 8 (some .int) 3 := ⟨tb3 96 _ rfl, tb1 9 _ rfl, tb3 93 _ rfl, tb3 94 _ rfl, tb3 95 _ rfl, ⟨by decide, by decide⟩, rfl⟩
theorem lk_X2_118 : LkS RX2 118 yJ6_bitCount_0f7a4 cJ6_bitCount_0f7a4 1 (some .int) 1 := ⟨tb3 85 _ rfl, tb1 30 _ rfl, tb3 83 _ rfl, tb3 84 _ rfl, ⟨by decide, by decide⟩, rfl⟩
theorem lk_X2_123 : LkV RX2 123 yX2_ferrying cX2_ferrying 3 (some .int) 2 := ⟨tb3 92 _ rfl, tb1 9 _ rfl, tb3 89 _ rfl, tb3 90 _ rfl, tb3 91 _ rfl, ⟨by decide, by decide⟩, rfl⟩
theorem lk_X2_126 : LkV RX2 126 yX2_putMove cX2_putMove 3 none 2 := ⟨tb3 113 _ rfl, tb1 9 _ rfl, tb3 110 _ rfl, tb3 112 _ rfl, tbs (q := 11) (List.mem_of_getElem? (i := 8) rfl), ⟨by decide, by decide⟩, rfl⟩
theorem lk_X2_129 : LkV RX2 129 yX2_swimming cX2_swimming 6 (some .int) 2 := ⟨tb3 117 _ rfl, tb1 9 _ rfl, tb3 114 _ rfl, tb3 115 _ rfl, tb3 116 _ rfl, ⟨by decide, by decide⟩, rfl⟩
theorem lk_X3_29 : LkV RX3 29 yX3_ordersFrom cX3_ordersFrom 5 (some .int) 2 := ⟨tb6 10 _ rfl, tb1 11 _ rfl, tb6 7 _ rfl, tb6 9 _ rfl, tbs (q := 3) (List.mem_of_getElem? (i := 34) rfl), ⟨by decide, by decide⟩, rfl⟩
theorem lk_X3_33 : LkV RX3 33 yX3_firstNext cX3_firstNext 4 (some .int) 2 := ⟨tb6 24 _ rfl, tb1 11 _ rfl, tb6 21 _ rfl, tb6 23 _ rfl, tbs (q := 3) (List.mem_of_getElem? (i := 36) rfl), ⟨by decide, by decide⟩, rfl⟩
theorem lk_X3_36 : LkV RX3 36 yX2_behind cX2_behind 3 (some .int) 2 := ⟨tb3 125 _ rfl, tb1 9 _ rfl, tb6 16 _ rfl, tb3 123 _ rfl, tb3 124 _ rfl, ⟨by decide, by decide⟩, rfl⟩
theorem lk_X3_41 : LkV RX3 41 yX3_ordersThrough cX3_ordersThrough 4 (some .int) 3 := ⟨tb6 14 _ rfl, tb1 11 _ rfl, tb6 11 _ rfl, tb6 13 _ rfl, tbs (q := 3) (List.mem_of_getElem? (i := 35) rfl), ⟨by decide, by decide⟩, rfl⟩
theorem lk_X3_45 : LkV RX3 45 yX2_ferrying cX2_ferrying 3 (some .int) 2 := ⟨tb3 92 _ rfl, tb1 9 _ rfl, tb6 15 _ rfl, tb3 90 _ rfl, tb3 91 _ rfl, ⟨by decide, by decide⟩, rfl⟩
theorem lk_X4_52 : LkS RX4 52 yJ7_fill_53178 cJ7_fill_53178 4 none 2 := ⟨tb1 81 _ rfl, tb1 4 _ rfl, tb3 58 _ rfl, tb1 80 _ rfl, ⟨by decide, by decide⟩, rfl⟩
theorem lk_X4_58 : LkV RX4 58 yX4_reach cX4_reach 3 none 2 := ⟨tb3 62 _ rfl, tb1 10 _ rfl, tb3 59 _ rfl, tb3 61 _ rfl, tbs (q := 11) (List.mem_of_getElem? (i := 2) rfl), ⟨by decide, by decide⟩, rfl⟩
theorem lk_X4_62 : LkV RX4 62 yX4_takeCheapest cX4_takeCheapest 3 (some .int) 0 := ⟨tb3 66 _ rfl, tb1 10 _ rfl, tb3 63 _ rfl, tb3 65 _ rfl, tbs (q := 11) (List.mem_of_getElem? (i := 3) rfl), ⟨by decide, by decide⟩, rfl⟩
theorem lk_X4_66 : LkV RX4 66 yX4_isGoal cX4_isGoal 2 (some .boolean) 1 := ⟨tb3 70 _ rfl, tb1 10 _ rfl, tb3 67 _ rfl, tb3 69 _ rfl, tbs (q := 11) (List.mem_of_getElem? (i := 4) rfl), ⟨by decide, by decide⟩, rfl⟩
theorem lk_X4_70 : LkV RX4 70 yX4_spread cX4_spread 4 none 1 := ⟨tb3 74 _ rfl, tb1 10 _ rfl, tb3 71 _ rfl, tb3 73 _ rfl, tbs (q := 11) (List.mem_of_getElem? (i := 5) rfl), ⟨by decide, by decide⟩, rfl⟩
theorem lk_X4_75 : LkV RX4 75 yX4_markPlans cX4_markPlans 3 none 0 := ⟨tb3 138 _ rfl, tb1 10 _ rfl, tb3 135 _ rfl, tb3 137 _ rfl, tbs (q := 11) (List.mem_of_getElem? (i := 10) rfl), ⟨by decide, by decide⟩, rfl⟩
theorem lk_X4_78 : LkV RX4 78 yX4_firstOnPlan cX4_firstOnPlan 4 (some .int) 1 := ⟨tb3 142 _ rfl, tb1 10 _ rfl, tb3 139 _ rfl, tb3 141 _ rfl, tbs (q := 11) (List.mem_of_getElem? (i := 11) rfl), ⟨by decide, by decide⟩, rfl⟩
theorem lk_X4_82 : LkV RX4 82 yX2_behind cX2_behind 3 (some .int) 2 := ⟨tb3 125 _ rfl, tb1 9 _ rfl, tb3 122 _ rfl, tb3 123 _ rfl, tb3 124 _ rfl, ⟨by decide, by decide⟩, rfl⟩
theorem lk_X4_86 : LkV RX4 86 yX4_search cX4_search 6 (some .boolean) 3 := ⟨tb3 56 _ rfl, tb1 10 _ rfl, tb3 151 _ rfl, tb3 54 _ rfl, tb3 55 _ rfl, ⟨by decide, by decide⟩, rfl⟩
theorem lk_X4_93 : LkS RX4 93 yJ6_bitCount_0f7a4 cJ6_bitCount_0f7a4 1 (some .int) 1 := ⟨tb3 85 _ rfl, tb1 30 _ rfl, tb3 152 _ rfl, tb3 84 _ rfl, ⟨by decide, by decide⟩, rfl⟩
theorem lk_X4_98 : LkS RX4 98 yJ6_compare_7cf53 cJ6_compare_7cf53 2 (some .int) 2 := ⟨tb3 155 _ rfl, tb1 30 _ rfl, tb3 153 _ rfl, tb3 154 _ rfl, ⟨by decide, by decide⟩, rfl⟩
theorem lk_X4_101 : LkV RX4 101 yX2_list cX2_list 5 none 1 := ⟨tb3 78 _ rfl, tb1 9 _ rfl, tb3 75 _ rfl, tb3 76 _ rfl, tb3 77 _ rfl, ⟨by decide, by decide⟩, rfl⟩
theorem lk_X4_113 : LkV RX4 113 yX4_price cX4_price 2 (some .int) 1 := ⟨tb3 129 _ rfl, tb1 10 _ rfl, tb3 126 _ rfl, tb3 128 _ rfl, tbs (q := 11) (List.mem_of_getElem? (i := 9) rfl), ⟨by decide, by decide⟩, rfl⟩
theorem lk_X5_58 : LkS RX5 58 yJ7_fill_53178 cJ7_fill_53178 4 none 2 := ⟨tb1 81 _ rfl, tb1 4 _ rfl, tb1 79 _ rfl, tb1 80 _ rfl, ⟨by decide, by decide⟩, rfl⟩
theorem lk_X5_70 : LkV RX5 70 yX5_hasBeing cX5_hasBeing 2 (some .boolean) 1 := ⟨tb3 121 _ rfl, tb1 3 _ rfl, tb4 118 _ rfl, tb3 119 _ rfl, tb3 120 _ rfl, ⟨by decide, by decide⟩, rfl⟩
theorem lm_X5_74 : LkM RX5 74 Lib.Math.max.name Lib.Math.max.code := ⟨tb4 129 _ rfl, tb3 21 _ rfl, tb1 21 _ rfl, tb3 22 _ rfl⟩
theorem lk_X6_19 : LkV RX6 19 yX9_thing cX9_thing 1 (some (.object "RopeFerry$Thing")) 0 := ⟨tb4 47 _ rfl, tb1 2 _ rfl, tb4 44 _ rfl, tb4 45 _ rfl, tb4 46 _ rfl, ⟨by decide, by decide⟩, rfl⟩
theorem lk_X6_31 : LkV RX6 31 yX6_readLine cX6_readLine 3 (some .boolean) 0 := ⟨tb4 52 _ rfl, tb1 7 _ rfl, tb4 49 _ rfl, tb4 51 _ rfl, tbs (q := 2) (List.mem_of_getElem? (i := 16) rfl), ⟨by decide, by decide⟩, rfl⟩
theorem lk_X6_38 : LkV RX6 38 yX9_take cX9_take 2 (some .boolean) 1 := ⟨tb4 86 _ rfl, tb1 2 _ rfl, tb4 83 _ rfl, tb4 84 _ rfl, tb4 85 _ rfl, ⟨by decide, by decide⟩, rfl⟩
theorem lk_X6_42 : LkS RX6 42 yX6_kindOf cX6_kindOf 1 (some .int) 1 := ⟨tb4 55 _ rfl, tb1 7 _ rfl, tb4 53 _ rfl, tb4 54 _ rfl, ⟨by decide, by decide⟩, rfl⟩
theorem lk_X6_46 : LkV RX6 46 yX6_readBeing cX6_readBeing 6 (some .boolean) 1 := ⟨tb4 67 _ rfl, tb1 7 _ rfl, tb4 64 _ rfl, tb4 66 _ rfl, tbs (q := 2) (List.mem_of_getElem? (i := 17) rfl), ⟨by decide, by decide⟩, rfl⟩
theorem lk_X6_53 : LkV RX6 53 yX6_readApart cX6_readApart 5 (some .boolean) 0 := ⟨tb4 96 _ rfl, tb1 7 _ rfl, tb4 93 _ rfl, tb4 95 _ rfl, tbs (q := 2) (List.mem_of_getElem? (i := 19) rfl), ⟨by decide, by decide⟩, rfl⟩
theorem lk_X6_59 : LkV RX6 59 yX6_readWith cX6_readWith 3 (some .boolean) 0 := ⟨tb4 113 _ rfl, tb1 7 _ rfl, tb4 110 _ rfl, tb4 112 _ rfl, tbs (q := 2) (List.mem_of_getElem? (i := 21) rfl), ⟨by decide, by decide⟩, rfl⟩
theorem lk_X6_65 : LkV RX6 65 yX6_readStream cX6_readStream 3 (some .boolean) 0 := ⟨tb4 124 _ rfl, tb1 7 _ rfl, tb4 121 _ rfl, tb4 123 _ rfl, tbs (q := 2) (List.mem_of_getElem? (i := 22) rfl), ⟨by decide, by decide⟩, rfl⟩
theorem lk_X6_68 : LkV RX6 68 yX6_readMeasure cX6_readMeasure 5 (some .boolean) 1 := ⟨tb4 133 _ rfl, tb1 7 _ rfl, tb4 130 _ rfl, tb4 132 _ rfl, tbs (q := 2) (List.mem_of_getElem? (i := 23) rfl), ⟨by decide, by decide⟩, rfl⟩
theorem lk_X6_89 : LkV RX6 89 yX9_next cX9_next 1 none 0 := ⟨tb4 71 _ rfl, tb1 2 _ rfl, tb4 68 _ rfl, tb4 69 _ rfl, tb4 70 _ rfl, ⟨by decide, by decide⟩, rfl⟩
theorem lk_X6_92 : LkV RX6 92 yX6_readNumber cX6_readNumber 4 (some .int) 2 := ⟨tb4 75 _ rfl, tb1 7 _ rfl, tb4 72 _ rfl, tb4 74 _ rfl, tbs (q := 2) (List.mem_of_getElem? (i := 18) rfl), ⟨by decide, by decide⟩, rfl⟩
theorem lk_X6_99 : LkV RX6 99 yX5_addBeing cX5_addBeing 5 (some .boolean) 4 := ⟨tb4 90 _ rfl, tb1 3 _ rfl, tb4 87 _ rfl, tb4 88 _ rfl, tb4 89 _ rfl, ⟨by decide, by decide⟩, rfl⟩
theorem lk_X6_106 : LkV RX6 106 yX6_readOther cX6_readOther 2 (some .int) 1 := ⟨tb4 100 _ rfl, tb1 7 _ rfl, tb4 97 _ rfl, tb4 99 _ rfl, tbs (q := 2) (List.mem_of_getElem? (i := 20) rfl), ⟨by decide, by decide⟩, rfl⟩
theorem lk_X6_113 : LkV RX6 113 yX5_addApart cX5_addApart 3 (some .boolean) 2 := ⟨tb4 107 _ rfl, tb1 3 _ rfl, tb4 104 _ rfl, tb4 105 _ rfl, tb4 106 _ rfl, ⟨by decide, by decide⟩, rfl⟩
theorem lk_X6_120 : LkV RX6 120 yX5_addWith cX5_addWith 3 (some .boolean) 2 := ⟨tb4 117 _ rfl, tb1 3 _ rfl, tb4 114 _ rfl, tb4 115 _ rfl, tb4 116 _ rfl, ⟨by decide, by decide⟩, rfl⟩
theorem lk_X6_123 : LkV RX6 123 yX5_setStream cX5_setStream 4 none 2 := ⟨tb4 128 _ rfl, tb1 3 _ rfl, tb4 125 _ rfl, tb4 126 _ rfl, tb4 127 _ rfl, ⟨by decide, by decide⟩, rfl⟩
theorem lk_X6_148 : LkV RX6 148 yX9_number cX9_number 1 (some .int) 0 := ⟨tb4 79 _ rfl, tb1 2 _ rfl, tb4 76 _ rfl, tb4 77 _ rfl, tb4 78 _ rfl, ⟨by decide, by decide⟩, rfl⟩
theorem lk_X6_152 : LkV RX6 152 yX5_hasBeing cX5_hasBeing 2 (some .boolean) 1 := ⟨tb3 121 _ rfl, tb1 3 _ rfl, tb4 101 _ rfl, tb3 119 _ rfl, tb3 120 _ rfl, ⟨by decide, by decide⟩, rfl⟩
theorem lk_X7_49 : LkV RX7 49 yX7_holds cX7_holds 5 (some .boolean) 2 := ⟨tb6 69 _ rfl, tb1 6 _ rfl, tb6 66 _ rfl, tb6 68 _ rfl, tbs (q := 10) (List.mem_of_getElem? (i := 42) rfl), ⟨by decide, by decide⟩, rfl⟩
theorem lk_X7_53 : LkV RX7 53 yX7_doStep cX7_doStep 3 (some .int) 2 := ⟨tb6 73 _ rfl, tb1 6 _ rfl, tb6 70 _ rfl, tb6 72 _ rfl, tbs (q := 10) (List.mem_of_getElem? (i := 43) rfl), ⟨by decide, by decide⟩, rfl⟩
theorem lk_X7_57 : LkV RX7 57 yX7_partOf cX7_partOf 2 (some .int) 1 := ⟨tb6 77 _ rfl, tb1 6 _ rfl, tb6 74 _ rfl, tb6 76 _ rfl, tbs (q := 10) (List.mem_of_getElem? (i := 44) rfl), ⟨by decide, by decide⟩, rfl⟩
theorem lk_X7_61 : LkS RX7 61 yX7_join cX7_join 3 (some .int) 3 := ⟨tb6 80 _ rfl, tb1 6 _ rfl, tb6 78 _ rfl, tb6 79 _ rfl, ⟨by decide, by decide⟩, rfl⟩
theorem lk_X8_19 : LkV RX8 19 yX7_begin cX7_begin 1 none 0 := ⟨tb5 10 _ rfl, tb1 6 _ rfl, tb5 7 _ rfl, tb5 8 _ rfl, tb5 9 _ rfl, ⟨by decide, by decide⟩, rfl⟩
theorem lk_X8_24 : LkV RX8 24 yX9_thing cX9_thing 1 (some (.object "RopeFerry$Thing")) 0 := ⟨tb4 47 _ rfl, tb1 2 _ rfl, tb5 11 _ rfl, tb4 45 _ rfl, tb4 46 _ rfl, ⟨by decide, by decide⟩, rfl⟩
theorem lk_X8_36 : LkV RX8 36 yX8_readLine cX8_readLine 2 (some .boolean) 0 := ⟨tb5 16 _ rfl, tb1 8 _ rfl, tb5 13 _ rfl, tb5 15 _ rfl, tbs (q := 2) (List.mem_of_getElem? (i := 26) rfl), ⟨by decide, by decide⟩, rfl⟩
theorem lk_X8_43 : LkV RX8 43 yX9_take cX9_take 2 (some .boolean) 1 := ⟨tb4 86 _ rfl, tb1 2 _ rfl, tb5 19 _ rfl, tb4 84 _ rfl, tb4 85 _ rfl, ⟨by decide, by decide⟩, rfl⟩
theorem lk_X8_47 : LkV RX8 47 yX9_number cX9_number 1 (some .int) 0 := ⟨tb4 79 _ rfl, tb1 2 _ rfl, tb5 17 _ rfl, tb4 77 _ rfl, tb4 78 _ rfl, ⟨by decide, by decide⟩, rfl⟩
theorem lk_X8_57 : LkV RX8 57 yX8_readAny cX8_readAny 3 (some .boolean) 1 := ⟨tb5 25 _ rfl, tb1 8 _ rfl, tb5 22 _ rfl, tb5 24 _ rfl, tbs (q := 2) (List.mem_of_getElem? (i := 27) rfl), ⟨by decide, by decide⟩, rfl⟩
theorem lk_X8_61 : LkV RX8 61 yX7_endLine cX7_endLine 2 none 1 := ⟨tb5 73 _ rfl, tb1 6 _ rfl, tb5 70 _ rfl, tb5 71 _ rfl, tb5 72 _ rfl, ⟨by decide, by decide⟩, rfl⟩
theorem lk_X8_65 : LkV RX8 65 yX8_readAll cX8_readAll 3 (some .boolean) 1 := ⟨tb5 29 _ rfl, tb1 8 _ rfl, tb5 26 _ rfl, tb5 28 _ rfl, tbs (q := 2) (List.mem_of_getElem? (i := 28) rfl), ⟨by decide, by decide⟩, rfl⟩
theorem lk_X8_68 : LkV RX8 68 yX7_putStep cX7_putStep 2 none 1 := ⟨tb5 43 _ rfl, tb1 6 _ rfl, tb5 40 _ rfl, tb5 41 _ rfl, tb5 42 _ rfl, ⟨by decide, by decide⟩, rfl⟩
theorem lk_X8_74 : LkV RX8 74 yX8_readAtom cX8_readAtom 4 (some .boolean) 1 := ⟨tb5 33 _ rfl, tb1 8 _ rfl, tb5 30 _ rfl, tb5 32 _ rfl, tbs (q := 2) (List.mem_of_getElem? (i := 29) rfl), ⟨by decide, by decide⟩, rfl⟩
theorem lk_X8_89 : LkV RX8 89 yX8_readSum cX8_readSum 3 (some .boolean) 0 := ⟨tb5 47 _ rfl, tb1 8 _ rfl, tb5 44 _ rfl, tb5 46 _ rfl, tbs (q := 2) (List.mem_of_getElem? (i := 30) rfl), ⟨by decide, by decide⟩, rfl⟩
theorem lk_X8_98 : LkV RX8 98 yX9_next cX9_next 1 none 0 := ⟨tb4 71 _ rfl, tb1 2 _ rfl, tb5 59 _ rfl, tb4 69 _ rfl, tb4 70 _ rfl, ⟨by decide, by decide⟩, rfl⟩
theorem lk_X8_101 : LkS RX8 101 yX8_partOf cX8_partOf 2 (some .int) 2 := ⟨tb5 50 _ rfl, tb1 8 _ rfl, tb5 48 _ rfl, tb5 49 _ rfl, ⟨by decide, by decide⟩, rfl⟩
theorem lk_X9_37 : LkS RX9 37 yX9_goOn cX9_goOn 2 (some .boolean) 2 := ⟨tb3 201 _ rfl, tb1 2 _ rfl, tb3 199 _ rfl, tb3 200 _ rfl, ⟨by decide, by decide⟩, rfl⟩
theorem lk_X9_41 : LkV RX9 41 yX9_putThing cX9_putThing 4 none 2 := ⟨tb3 211 _ rfl, tb1 2 _ rfl, tb3 208 _ rfl, tb3 210 _ rfl, tbs (q := 7) (List.mem_of_getElem? (i := 12) rfl), ⟨by decide, by decide⟩, rfl⟩
theorem lk_X9_49 : LkS RX9 49 yX9_isDigit cX9_isDigit 1 (some .boolean) 1 := ⟨tb3 204 _ rfl, tb1 2 _ rfl, tb3 202 _ rfl, tb3 203 _ rfl, ⟨by decide, by decide⟩, rfl⟩
theorem lk_X9_59 : LkV RX9 59 yX9_numberOf cX9_numberOf 5 (some .int) 2 := ⟨tb3 219 _ rfl, tb1 2 _ rfl, tb3 216 _ rfl, tb3 218 _ rfl, tbs (q := 7) (List.mem_of_getElem? (i := 13) rfl), ⟨by decide, by decide⟩, rfl⟩
theorem lk_X9_63 : LkV RX9 63 yX9_nameOf cX9_nameOf 4 (some (.object "RopeFerry$Thing")) 2 := ⟨tb3 223 _ rfl, tb1 2 _ rfl, tb3 220 _ rfl, tb3 222 _ rfl, tbs (q := 7) (List.mem_of_getElem? (i := 14) rfl), ⟨by decide, by decide⟩, rfl⟩
theorem lk_X9_74 : LkV RX9 74 yX9_isText cX9_isText 5 (some .boolean) 3 := ⟨tb3 229 _ rfl, tb1 2 _ rfl, tb3 226 _ rfl, tb3 228 _ rfl, tbs (q := 7) (List.mem_of_getElem? (i := 15) rfl), ⟨by decide, by decide⟩, rfl⟩
theorem lk_X9_78 : LkV RX9 78 yJ0_length_8abf5 cJ0_length_8abf5 1 (some .int) 0 := ⟨tb3 233 _ rfl, tb1 17 _ rfl, tb3 230 _ rfl, tb3 231 _ rfl, tb3 232 _ rfl, ⟨by decide, by decide⟩, rfl⟩
theorem lk_X9_84 : LkV RX9 84 yJ0_charAt_5068e cJ0_charAt_5068e 2 (some .char) 1 := ⟨tb4 3 _ rfl, tb1 17 _ rfl, tb4 0 _ rfl, tb4 1 _ rfl, tb4 2 _ rfl, ⟨by decide, by decide⟩, rfl⟩
theorem lk_X9_88 : LkS RX9 88 yX9_isLetter cX9_isLetter 1 (some .boolean) 1 := ⟨tb3 207 _ rfl, tb1 2 _ rfl, tb3 205 _ rfl, tb3 206 _ rfl, ⟨by decide, by decide⟩, rfl⟩
theorem lk_L_7 : LkV RL 7 yX11_river cX11_river 2 (some .int) 0 := ⟨tb3 194 _ rfl, tb1 1 _ rfl, tb3 191 _ rfl, tb3 192 _ rfl, tb3 193 _ rfl, ⟨by decide, by decide⟩, rfl⟩
theorem lk_L_17 : LkV RL 17 yX11_rule cX11_rule 2 (some .int) 0 := ⟨tb5 2 _ rfl, tb1 1 _ rfl, tb4 239 _ rfl, tb5 0 _ rfl, tb5 1 _ rfl, ⟨by decide, by decide⟩, rfl⟩
theorem lk_L_20 : LkV RL 20 yX11_look cX11_look 3 (some .int) 2 := ⟨tb5 84 _ rfl, tb1 1 _ rfl, tb5 81 _ rfl, tb5 82 _ rfl, tb5 83 _ rfl, ⟨by decide, by decide⟩, rfl⟩
theorem lk_L_28 : LkV RL 28 yX11_cross cX11_cross 4 (some .int) 2 := ⟨tb5 130 _ rfl, tb1 1 _ rfl, tb5 127 _ rfl, tb5 128 _ rfl, tb5 129 _ rfl, ⟨by decide, by decide⟩, rfl⟩
theorem lk_L_33 : LkV RL 33 yX11_swim cX11_swim 3 (some .int) 1 := ⟨tb5 170 _ rfl, tb1 1 _ rfl, tb5 167 _ rfl, tb5 168 _ rfl, tb5 169 _ rfl, ⟨by decide, by decide⟩, rfl⟩
theorem lk_L_37 : LkV RL 37 yX11_rest cX11_rest 2 (some .int) 1 := ⟨tb5 183 _ rfl, tb1 1 _ rfl, tb5 180 _ rfl, tb5 181 _ rfl, tb5 182 _ rfl, ⟨by decide, by decide⟩, rfl⟩
theorem lk_L_40 : LkV RL 40 yX11_owed cX11_owed 3 (some .int) 2 := ⟨tb5 191 _ rfl, tb1 1 _ rfl, tb5 188 _ rfl, tb5 189 _ rfl, tb5 190 _ rfl, ⟨by decide, by decide⟩, rfl⟩
theorem lk_L_43 : LkV RL 43 yX11_clear cX11_clear 2 (some .int) 1 := ⟨tb5 198 _ rfl, tb1 1 _ rfl, tb5 195 _ rfl, tb5 196 _ rfl, tb5 197 _ rfl, ⟨by decide, by decide⟩, rfl⟩
theorem lk_L_46 : LkV RL 46 yX11_plan cX11_plan 4 (some .int) 3 := ⟨tb5 222 _ rfl, tb1 1 _ rfl, tb5 219 _ rfl, tb5 220 _ rfl, tb5 221 _ rfl, ⟨by decide, by decide⟩, rfl⟩
theorem lk_L_50 : LkV RL 50 yX11_lost cX11_lost 3 (some .int) 1 := ⟨tb5 237 _ rfl, tb1 1 _ rfl, tb5 234 _ rfl, tb5 235 _ rfl, tb5 236 _ rfl, ⟨by decide, by decide⟩, rfl⟩
theorem lk_L_53 : LkV RL 53 yX11_fair cX11_fair 6 (some .int) 5 := ⟨tb6 31 _ rfl, tb1 1 _ rfl, tb6 28 _ rfl, tb6 29 _ rfl, tb6 30 _ rfl, ⟨by decide, by decide⟩, rfl⟩
theorem lk_L_61 : LkV RL 61 yX11_feed cX11_feed 6 (some .int) 5 := ⟨tb2 224 _ rfl, tb1 1 _ rfl, tb2 221 _ rfl, tb2 222 _ rfl, tb2 223 _ rfl, ⟨by decide, by decide⟩, rfl⟩
theorem lk_L_64 : LkV RL 64 yX12_feed cX12_feed 8 (some .int) 5 := ⟨tb6 199 _ rfl, tb1 13 _ rfl, tb6 196 _ rfl, tb6 197 _ rfl, tb6 198 _ rfl, ⟨by decide, by decide⟩, rfl⟩
theorem lk_L_65 : LkV RL 65 yX11_end cX11_end 2 (some .boolean) 1 := ⟨tb2 232 _ rfl, tb1 1 _ rfl, tb2 229 _ rfl, tb2 230 _ rfl, tb2 231 _ rfl, ⟨by decide, by decide⟩, rfl⟩
theorem lk_L_69 : LkV RL 69 yX12_end cX12_end 2 (some .boolean) 1 := ⟨tb6 203 _ rfl, tb1 13 _ rfl, tb6 200 _ rfl, tb6 201 _ rfl, tb6 202 _ rfl, ⟨by decide, by decide⟩, rfl⟩
theorem lk_L_75 : LkV RL 75 yX12_river cX12_river 2 (some .int) 0 := ⟨tb6 210 _ rfl, tb1 13 _ rfl, tb6 207 _ rfl, tb6 208 _ rfl, tb6 209 _ rfl, ⟨by decide, by decide⟩, rfl⟩
theorem lk_L_76 : LkV RL 76 yX12_thrown cX12_thrown 1 (some .int) 0 := ⟨tb6 195 _ rfl, tb1 13 _ rfl, tb6 192 _ rfl, tb6 193 _ rfl, tb6 194 _ rfl, ⟨by decide, by decide⟩, rfl⟩
theorem lk_L_81 : LkV RL 81 yX12_rule cX12_rule 3 (some .int) 0 := ⟨tb7 68 _ rfl, tb1 13 _ rfl, tb7 65 _ rfl, tb7 66 _ rfl, tb7 67 _ rfl, ⟨by decide, by decide⟩, rfl⟩
theorem lk_L_82 : LkV RL 82 yX11_fault cX11_fault 1 (some .int) 0 := ⟨tb2 236 _ rfl, tb1 1 _ rfl, tb2 233 _ rfl, tb2 234 _ rfl, tb2 235 _ rfl, ⟨by decide, by decide⟩, rfl⟩
theorem lk_L_85 : LkV RL 85 yX12_fault cX12_fault 1 (some .int) 0 := ⟨tb7 72 _ rfl, tb1 13 _ rfl, tb7 69 _ rfl, tb7 70 _ rfl, tb7 71 _ rfl, ⟨by decide, by decide⟩, rfl⟩
theorem lk_L_89 : LkV RL 89 yX12_look cX12_look 3 (some .int) 2 := ⟨tb7 155 _ rfl, tb1 13 _ rfl, tb7 152 _ rfl, tb7 153 _ rfl, tb7 154 _ rfl, ⟨by decide, by decide⟩, rfl⟩
theorem lk_L_90 : LkV RL 90 yX11_need cX11_need 2 (some .int) 1 := ⟨tb3 0 _ rfl, tb1 1 _ rfl, tb2 237 _ rfl, tb2 238 _ rfl, tb2 239 _ rfl, ⟨by decide, by decide⟩, rfl⟩
theorem lk_L_93 : LkV RL 93 yX12_need cX12_need 2 (some .int) 1 := ⟨tb7 76 _ rfl, tb1 13 _ rfl, tb7 73 _ rfl, tb7 74 _ rfl, tb7 75 _ rfl, ⟨by decide, by decide⟩, rfl⟩
theorem lk_L_96 : LkV RL 96 yX12_cross cX12_cross 6 (some .int) 2 := ⟨tb7 99 _ rfl, tb1 13 _ rfl, tb7 96 _ rfl, tb7 97 _ rfl, tb7 98 _ rfl, ⟨by decide, by decide⟩, rfl⟩
theorem lk_L_100 : LkV RL 100 yX12_swim cX12_swim 3 (some .int) 1 := ⟨tb7 131 _ rfl, tb1 13 _ rfl, tb7 128 _ rfl, tb7 129 _ rfl, tb7 130 _ rfl, ⟨by decide, by decide⟩, rfl⟩
theorem lk_L_103 : LkV RL 103 yX12_rest cX12_rest 2 (some .int) 1 := ⟨tb7 147 _ rfl, tb1 13 _ rfl, tb7 144 _ rfl, tb7 145 _ rfl, tb7 146 _ rfl, ⟨by decide, by decide⟩, rfl⟩
theorem lk_L_104 : LkV RL 104 yX11_may cX11_may 2 (some .boolean) 1 := ⟨tb3 38 _ rfl, tb1 1 _ rfl, tb3 35 _ rfl, tb3 36 _ rfl, tb3 37 _ rfl, ⟨by decide, by decide⟩, rfl⟩
theorem lk_L_107 : LkV RL 107 yX12_may cX12_may 2 (some .boolean) 1 := ⟨tb7 151 _ rfl, tb1 13 _ rfl, tb7 148 _ rfl, tb7 149 _ rfl, tb7 150 _ rfl, ⟨by decide, by decide⟩, rfl⟩
theorem lk_L_110 : LkV RL 110 yX12_owed cX12_owed 3 (some .int) 2 := ⟨tb7 163 _ rfl, tb1 13 _ rfl, tb7 160 _ rfl, tb7 161 _ rfl, tb7 162 _ rfl, ⟨by decide, by decide⟩, rfl⟩
theorem lk_L_113 : LkV RL 113 yX12_clear cX12_clear 7 (some .int) 1 := ⟨tb7 167 _ rfl, tb1 13 _ rfl, tb7 164 _ rfl, tb7 165 _ rfl, tb7 166 _ rfl, ⟨by decide, by decide⟩, rfl⟩
theorem lk_L_117 : LkV RL 117 yX12_plan cX12_plan 5 (some .int) 3 := ⟨tb7 171 _ rfl, tb1 13 _ rfl, tb7 168 _ rfl, tb7 169 _ rfl, tb7 170 _ rfl, ⟨by decide, by decide⟩, rfl⟩
theorem lk_L_118 : LkV RL 118 yX11_row cX11_row 4 (some .int) 3 := ⟨tb3 44 _ rfl, tb1 1 _ rfl, tb3 41 _ rfl, tb3 42 _ rfl, tb3 43 _ rfl, ⟨by decide, by decide⟩, rfl⟩
theorem lk_L_121 : LkV RL 121 yX12_row cX12_row 7 (some .int) 3 := ⟨tb7 204 _ rfl, tb1 13 _ rfl, tb7 201 _ rfl, tb7 202 _ rfl, tb7 203 _ rfl, ⟨by decide, by decide⟩, rfl⟩
theorem lk_L_122 : LkV RL 122 yX11_left cX11_left 1 (some .int) 0 := ⟨tb3 146 _ rfl, tb1 1 _ rfl, tb3 143 _ rfl, tb3 144 _ rfl, tb3 145 _ rfl, ⟨by decide, by decide⟩, rfl⟩
theorem lk_L_125 : LkV RL 125 yX12_left cX12_left 8 (some .int) 0 := ⟨tb7 212 _ rfl, tb1 13 _ rfl, tb7 209 _ rfl, tb7 210 _ rfl, tb7 211 _ rfl, ⟨by decide, by decide⟩, rfl⟩
theorem lk_L_128 : LkV RL 128 yX12_lost cX12_lost 5 (some .int) 1 := ⟨tb7 216 _ rfl, tb1 13 _ rfl, tb7 213 _ rfl, tb7 214 _ rfl, tb7 215 _ rfl, ⟨by decide, by decide⟩, rfl⟩
theorem lk_L_132 : LkV RL 132 yX12_fair cX12_fair 21 (some .int) 5 := ⟨tb7 224 _ rfl, tb1 13 _ rfl, tb7 221 _ rfl, tb7 222 _ rfl, tb7 223 _ rfl, ⟨by decide, by decide⟩, rfl⟩
theorem lk_L_133 : LkV RL 133 yX11_image cX11_image 1 none 0 := ⟨tb3 159 _ rfl, tb1 1 _ rfl, tb3 156 _ rfl, tb3 157 _ rfl, tb3 158 _ rfl, ⟨by decide, by decide⟩, rfl⟩
theorem lk_L_136 : LkV RL 136 yX12_image cX12_image 2 none 0 := ⟨tb7 237 _ rfl, tb1 13 _ rfl, tb7 234 _ rfl, tb7 235 _ rfl, tb7 236 _ rfl, ⟨by decide, by decide⟩, rfl⟩
theorem lk_L_137 : LkV RL 137 yX11_back cX11_back 1 (some .boolean) 0 := ⟨tb3 180 _ rfl, tb1 1 _ rfl, tb3 177 _ rfl, tb3 178 _ rfl, tb3 179 _ rfl, ⟨by decide, by decide⟩, rfl⟩
theorem lk_L_141 : LkV RL 141 yX12_back cX12_back 2 (some .boolean) 0 := ⟨tb8 1 _ rfl, tb1 13 _ rfl, tb7 238 _ rfl, tb7 239 _ rfl, tb8 0 _ rfl, ⟨by decide, by decide⟩, rfl⟩
theorem lk_L_142 : LkV RL 142 yX11_count cX11_count 2 (some .int) 1 := ⟨tb3 184 _ rfl, tb1 1 _ rfl, tb3 181 _ rfl, tb3 182 _ rfl, tb3 183 _ rfl, ⟨by decide, by decide⟩, rfl⟩
theorem lk_L_145 : LkV RL 145 yX12_count cX12_count 2 (some .int) 1 := ⟨tb8 5 _ rfl, tb1 13 _ rfl, tb8 2 _ rfl, tb8 3 _ rfl, tb8 4 _ rfl, ⟨by decide, by decide⟩, rfl⟩
theorem lk_X12_62 : LkS RX12 62 yX12_isIn cX12_isIn 3 (some .boolean) 3 := ⟨tb6 206 _ rfl, tb1 13 _ rfl, tb6 204 _ rfl, tb6 205 _ rfl, ⟨by decide, by decide⟩, rfl⟩
theorem lk_X12_66 : LkV RX12 66 yX12_of cX12_of 3 (some .int) 2 := ⟨tb7 87 _ rfl, tb1 13 _ rfl, tb7 84 _ rfl, tb7 86 _ rfl, tbs (q := 28) (List.mem_of_getElem? (i := 67) rfl), ⟨by decide, by decide⟩, rfl⟩
theorem lk_X12_70 : LkS RX12 70 yX12_isOf cX12_isOf 2 (some .boolean) 2 := ⟨tb7 83 _ rfl, tb1 13 _ rfl, tb7 81 _ rfl, tb7 82 _ rfl, ⟨by decide, by decide⟩, rfl⟩
theorem lk_X12_74 : LkV RX12 74 yX12_forceOf cX12_forceOf 3 (some .int) 1 := ⟨tb7 115 _ rfl, tb1 13 _ rfl, tb7 112 _ rfl, tb7 114 _ rfl, tbs (q := 28) (List.mem_of_getElem? (i := 73) rfl), ⟨by decide, by decide⟩, rfl⟩
theorem lk_X12_78 : LkV RX12 78 yX12_stream cX12_stream 1 (some .int) 0 := ⟨tb7 95 _ rfl, tb1 13 _ rfl, tb7 92 _ rfl, tb7 94 _ rfl, tbs (q := 28) (List.mem_of_getElem? (i := 69) rfl), ⟨by decide, by decide⟩, rfl⟩
theorem lk_X12_94 : LkV RX12 94 yX12_letter cX12_letter 2 (some .int) 1 := ⟨tb6 226 _ rfl, tb1 13 _ rfl, tb6 223 _ rfl, tb6 225 _ rfl, tbs (q := 28) (List.mem_of_getElem? (i := 51) rfl), ⟨by decide, by decide⟩, rfl⟩
theorem lk_X12_97 : LkV RX12 97 yX12_skip cX12_skip 1 none 0 := ⟨tb6 222 _ rfl, tb1 13 _ rfl, tb6 219 _ rfl, tb6 221 _ rfl, tbs (q := 28) (List.mem_of_getElem? (i := 50) rfl), ⟨by decide, by decide⟩, rfl⟩
theorem lk_X12_100 : LkV RX12 100 yJ0_length_8abf5 cJ0_length_8abf5 1 (some .int) 0 := ⟨tb3 233 _ rfl, tb1 17 _ rfl, tb7 4 _ rfl, tb3 231 _ rfl, tb3 232 _ rfl, ⟨by decide, by decide⟩, rfl⟩
theorem lk_X12_105 : LkV RX12 105 yJ0_charAt_5068e cJ0_charAt_5068e 2 (some .char) 1 := ⟨tb4 3 _ rfl, tb1 17 _ rfl, tb7 5 _ rfl, tb4 1 _ rfl, tb4 2 _ rfl, ⟨by decide, by decide⟩, rfl⟩
theorem lk_X12_109 : LkV RX12 109 yX12_wrong cX12_wrong 2 none 1 := ⟨tb6 230 _ rfl, tb1 13 _ rfl, tb6 227 _ rfl, tb6 229 _ rfl, tbs (q := 28) (List.mem_of_getElem? (i := 52) rfl), ⟨by decide, by decide⟩, rfl⟩
theorem lk_X12_113 : LkV RX12 113 yX12_figures cX12_figures 5 (some .int) 2 := ⟨tb6 238 _ rfl, tb1 13 _ rfl, tb6 235 _ rfl, tb6 237 _ rfl, tbs (q := 28) (List.mem_of_getElem? (i := 54) rfl), ⟨by decide, by decide⟩, rfl⟩
theorem lk_X12_118 : LkV RX12 118 yX12_has cX12_has 4 (some .boolean) 1 := ⟨tb7 3 _ rfl, tb1 13 _ rfl, tb7 0 _ rfl, tb7 2 _ rfl, tbs (q := 28) (List.mem_of_getElem? (i := 55) rfl), ⟨by decide, by decide⟩, rfl⟩
theorem lk_X12_124 : LkV RX12 124 yX12_comes cX12_comes 7 none 2 := ⟨tb7 49 _ rfl, tb1 13 _ rfl, tb7 46 _ rfl, tb7 48 _ rfl, tbs (q := 28) (List.mem_of_getElem? (i := 64) rfl), ⟨by decide, by decide⟩, rfl⟩
theorem lk_X12_143 : LkV RX12 143 yX12_being cX12_being 5 (some .int) 2 := ⟨tb7 62 _ rfl, tb1 13 _ rfl, tb7 59 _ rfl, tb7 61 _ rfl, tbs (q := 28) (List.mem_of_getElem? (i := 65) rfl), ⟨by decide, by decide⟩, rfl⟩
theorem lk_X12_153 : LkV RX12 153 yX12_ruleLine cX12_ruleLine 3 none 0 := ⟨tb6 234 _ rfl, tb1 13 _ rfl, tb6 231 _ rfl, tb6 233 _ rfl, tbs (q := 28) (List.mem_of_getElem? (i := 53) rfl), ⟨by decide, by decide⟩, rfl⟩
theorem lk_X12_156 : LkV RX12 156 yX12_riverLine cX12_riverLine 5 none 0 := ⟨tb7 44 _ rfl, tb1 13 _ rfl, tb7 41 _ rfl, tb7 43 _ rfl, tbs (q := 28) (List.mem_of_getElem? (i := 63) rfl), ⟨by decide, by decide⟩, rfl⟩
theorem lk_X12_159 : LkV RX12 159 yX12_isSign cX12_isSign 2 (some .boolean) 1 := ⟨tb7 22 _ rfl, tb1 13 _ rfl, tb7 19 _ rfl, tb7 21 _ rfl, tbs (q := 28) (List.mem_of_getElem? (i := 59) rfl), ⟨by decide, by decide⟩, rfl⟩
theorem lk_X12_163 : LkV RX12 163 yX12_begins cX12_begins 1 none 0 := ⟨tb6 214 _ rfl, tb1 13 _ rfl, tb6 211 _ rfl, tb6 213 _ rfl, tbs (q := 28) (List.mem_of_getElem? (i := 48) rfl), ⟨by decide, by decide⟩, rfl⟩
theorem lk_X12_166 : LkV RX12 166 yX12_read cX12_read 4 (some .int) 1 := ⟨tb6 218 _ rfl, tb1 13 _ rfl, tb6 215 _ rfl, tb6 217 _ rfl, tbs (q := 28) (List.mem_of_getElem? (i := 49) rfl), ⟨by decide, by decide⟩, rfl⟩
theorem lk_X12_178 : LkV RX12 178 yX12_part cX12_part 2 (some .int) 0 := ⟨tb7 34 _ rfl, tb1 13 _ rfl, tb7 31 _ rfl, tb7 33 _ rfl, tbs (q := 28) (List.mem_of_getElem? (i := 62) rfl), ⟨by decide, by decide⟩, rfl⟩
theorem lk_X12_181 : LkV RX12 181 yX12_sum cX12_sum 2 (some .int) 0 := ⟨tb7 30 _ rfl, tb1 13 _ rfl, tb7 27 _ rfl, tb7 29 _ rfl, tbs (q := 28) (List.mem_of_getElem? (i := 61) rfl), ⟨by decide, by decide⟩, rfl⟩
theorem lk_X12_186 : LkV RX12 186 yX12_plain cX12_plain 4 (some .boolean) 0 := ⟨tb7 26 _ rfl, tb1 13 _ rfl, tb7 23 _ rfl, tb7 25 _ rfl, tbs (q := 28) (List.mem_of_getElem? (i := 60) rfl), ⟨by decide, by decide⟩, rfl⟩
theorem lk_X12_190 : LkV RX12 190 yX12_atom cX12_atom 4 (some .boolean) 0 := ⟨tb7 17 _ rfl, tb1 13 _ rfl, tb7 14 _ rfl, tb7 16 _ rfl, tbs (q := 28) (List.mem_of_getElem? (i := 58) rfl), ⟨by decide, by decide⟩, rfl⟩
theorem lk_X12_193 : LkV RX12 193 yX12_some cX12_some 3 (some .boolean) 0 := ⟨tb7 9 _ rfl, tb1 13 _ rfl, tb7 6 _ rfl, tb7 8 _ rfl, tbs (q := 28) (List.mem_of_getElem? (i := 56) rfl), ⟨by decide, by decide⟩, rfl⟩
theorem lk_X12_198 : LkV RX12 198 yX12_every cX12_every 3 (some .boolean) 0 := ⟨tb7 13 _ rfl, tb1 13 _ rfl, tb7 10 _ rfl, tb7 12 _ rfl, tbs (q := 28) (List.mem_of_getElem? (i := 57) rfl), ⟨by decide, by decide⟩, rfl⟩
theorem lk_X12_208 : LkV RX12 208 yX12_everybody cX12_everybody 1 (some .int) 0 := ⟨tb7 107 _ rfl, tb1 13 _ rfl, tb7 104 _ rfl, tb7 106 _ rfl, tbs (q := 28) (List.mem_of_getElem? (i := 71) rfl), ⟨by decide, by decide⟩, rfl⟩
theorem lk_X12_211 : LkV RX12 211 yX12_weightOf cX12_weightOf 4 (some .int) 1 := ⟨tb7 80 _ rfl, tb1 13 _ rfl, tb7 77 _ rfl, tb7 79 _ rfl, tbs (q := 28) (List.mem_of_getElem? (i := 66) rfl), ⟨by decide, by decide⟩, rfl⟩
theorem lk_X12_214 : LkV RX12 214 yX12_needOf cX12_needOf 2 (some .int) 1 := ⟨tb7 91 _ rfl, tb1 13 _ rfl, tb7 88 _ rfl, tb7 90 _ rfl, tbs (q := 28) (List.mem_of_getElem? (i := 68) rfl), ⟨by decide, by decide⟩, rfl⟩
theorem lk_X12_217 : LkV RX12 217 yX12_forceOfAll cX12_forceOfAll 4 (some .int) 1 := ⟨tb7 111 _ rfl, tb1 13 _ rfl, tb7 108 _ rfl, tb7 110 _ rfl, tbs (q := 28) (List.mem_of_getElem? (i := 72) rfl), ⟨by decide, by decide⟩, rfl⟩
theorem lk_X12_220 : LkV RX12 220 yX12_mayBe cX12_mayBe 4 (some .boolean) 1 := ⟨tb7 119 _ rfl, tb1 13 _ rfl, tb7 116 _ rfl, tb7 118 _ rfl, tbs (q := 28) (List.mem_of_getElem? (i := 74) rfl), ⟨by decide, by decide⟩, rfl⟩
theorem lk_X12_223 : LkV RX12 223 yX12_minutesBy cX12_minutesBy 4 (some .int) 2 := ⟨tb7 123 _ rfl, tb1 13 _ rfl, tb7 120 _ rfl, tb7 122 _ rfl, tbs (q := 28) (List.mem_of_getElem? (i := 75) rfl), ⟨by decide, by decide⟩, rfl⟩
theorem lk_X12_229 : LkV RX12 229 yX12_hasWith cX12_hasWith 3 (some .boolean) 1 := ⟨tb7 143 _ rfl, tb1 13 _ rfl, tb7 140 _ rfl, tb7 142 _ rfl, tbs (q := 28) (List.mem_of_getElem? (i := 79) rfl), ⟨by decide, by decide⟩, rfl⟩
theorem lk_X12_232 : LkV RX12 232 yX12_mayCross cX12_mayCross 12 (some .boolean) 4 := ⟨tb7 103 _ rfl, tb1 13 _ rfl, tb7 100 _ rfl, tb7 102 _ rfl, tbs (q := 28) (List.mem_of_getElem? (i := 70) rfl), ⟨by decide, by decide⟩, rfl⟩
theorem lk_X12_236 : LkV RX12 236 yX12_goOn cX12_goOn 5 none 1 := ⟨tb7 127 _ rfl, tb1 13 _ rfl, tb7 124 _ rfl, tb7 126 _ rfl, tbs (q := 28) (List.mem_of_getElem? (i := 76) rfl), ⟨by decide, by decide⟩, rfl⟩
theorem lk_X12_239 : LkV RX12 239 yX12_isBeing cX12_isBeing 2 (some .boolean) 1 := ⟨tb7 135 _ rfl, tb1 13 _ rfl, tb7 132 _ rfl, tb7 134 _ rfl, tbs (q := 28) (List.mem_of_getElem? (i := 77) rfl), ⟨by decide, by decide⟩, rfl⟩
theorem lk_X12_242 : LkV RX12 242 yX12_maySwim cX12_maySwim 6 (some .boolean) 2 := ⟨tb7 139 _ rfl, tb1 13 _ rfl, tb7 136 _ rfl, tb7 138 _ rfl, tbs (q := 28) (List.mem_of_getElem? (i := 78) rfl), ⟨by decide, by decide⟩, rfl⟩
theorem lk_X12_245 : LkV RX12 245 yX12_balanceOf cX12_balanceOf 4 (some .int) 1 := ⟨tb7 159 _ rfl, tb1 13 _ rfl, tb7 156 _ rfl, tb7 158 _ rfl, tbs (q := 28) (List.mem_of_getElem? (i := 80) rfl), ⟨by decide, by decide⟩, rfl⟩
theorem lk_X12_248 : LkV RX12 248 yX12_pullersAt cX12_pullersAt 6 (some .int) 2 := ⟨tb7 192 _ rfl, tb1 13 _ rfl, tb7 189 _ rfl, tb7 191 _ rfl, tbs (q := 28) (List.mem_of_getElem? (i := 85) rfl), ⟨by decide, by decide⟩, rfl⟩
theorem lk_X12_252 : LkV RX12 252 yX12_lowers cX12_lowers 9 (some .boolean) 2 := ⟨tb7 180 _ rfl, tb1 13 _ rfl, tb7 177 _ rfl, tb7 179 _ rfl, tbs (q := 28) (List.mem_of_getElem? (i := 82) rfl), ⟨by decide, by decide⟩, rfl⟩
theorem lk_X12_256 : LkV RX12 256 yX12_tries cX12_tries 5 (some .boolean) 3 := ⟨tb7 184 _ rfl, tb1 13 _ rfl, tb7 181 _ rfl, tb7 183 _ rfl, tbs (q := 28) (List.mem_of_getElem? (i := 83) rfl), ⟨by decide, by decide⟩, rfl⟩
theorem lk_X12_260 : LkV RX12 260 yX12_behind cX12_behind 6 (some .int) 2 := ⟨tb7 188 _ rfl, tb1 13 _ rfl, tb7 185 _ rfl, tb7 187 _ rfl, tbs (q := 28) (List.mem_of_getElem? (i := 84) rfl), ⟨by decide, by decide⟩, rfl⟩
theorem lk_X12_263 : LkV RX12 263 yX12_isLess cX12_isLess 8 (some .boolean) 5 := ⟨tb7 196 _ rfl, tb1 13 _ rfl, tb7 193 _ rfl, tb7 195 _ rfl, tbs (q := 28) (List.mem_of_getElem? (i := 86) rfl), ⟨by decide, by decide⟩, rfl⟩
theorem lk_X12_267 : LkV RX12 267 yX12_costs cX12_costs 6 none 2 := ⟨tb7 175 _ rfl, tb1 13 _ rfl, tb7 172 _ rfl, tb7 174 _ rfl, tbs (q := 28) (List.mem_of_getElem? (i := 81) rfl), ⟨by decide, by decide⟩, rfl⟩
theorem lk_X12_271 : LkV RX12 271 yX12_stateNow cX12_stateNow 1 (some .int) 0 := ⟨tb7 200 _ rfl, tb1 13 _ rfl, tb7 197 _ rfl, tb7 199 _ rfl, tbs (q := 28) (List.mem_of_getElem? (i := 87) rfl), ⟨by decide, by decide⟩, rfl⟩
theorem lk_X12_274 : LkV RX12 274 yX12_moveFrom cX12_moveFrom 4 (some .int) 1 := ⟨tb7 208 _ rfl, tb1 13 _ rfl, tb7 205 _ rfl, tb7 207 _ rfl, tbs (q := 28) (List.mem_of_getElem? (i := 88) rfl), ⟨by decide, by decide⟩, rfl⟩
theorem lk_X12_283 : LkV RX12 283 yX12_tellsOrders cX12_tellsOrders 6 none 3 := ⟨tb7 220 _ rfl, tb1 13 _ rfl, tb7 217 _ rfl, tb7 219 _ rfl, tbs (q := 28) (List.mem_of_getElem? (i := 89) rfl), ⟨by decide, by decide⟩, rfl⟩
theorem lk_X12_291 : LkV RX12 291 yX12_draw cX12_draw 2 (some .int) 1 := ⟨tb7 228 _ rfl, tb1 13 _ rfl, tb7 225 _ rfl, tb7 227 _ rfl, tbs (q := 28) (List.mem_of_getElem? (i := 90) rfl), ⟨by decide, by decide⟩, rfl⟩
theorem lk_X12_294 : LkV RX12 294 yX12_numberOf cX12_numberOf 5 (some .int) 3 := ⟨tb7 233 _ rfl, tb1 13 _ rfl, tb7 230 _ rfl, tb7 232 _ rfl, tbs (q := 28) (List.mem_of_getElem? (i := 91) rfl), ⟨by decide, by decide⟩, rfl⟩
theorem lk_J0_335 : LkV RJ0 335 yJ0_coder_7d493 cJ0_coder_7d493 1 (some .byte) 0 := ⟨tb3 237 _ rfl, tb1 17 _ rfl, tb3 234 _ rfl, tb3 235 _ rfl, tb3 236 _ rfl, ⟨by decide, by decide⟩, rfl⟩
theorem lk_J0_492 : LkV RJ0 492 yJ0_isLatin1_aae02 cJ0_isLatin1_aae02 1 (some .boolean) 0 := ⟨tb4 7 _ rfl, tb1 17 _ rfl, tb4 4 _ rfl, tb4 5 _ rfl, tb4 6 _ rfl, ⟨by decide, by decide⟩, rfl⟩
theorem lk_J0_495 : LkS RJ0 495 yJ1_charAt_3b067 cJ1_charAt_3b067 2 (some .char) 2 := ⟨tb4 10 _ rfl, tb1 18 _ rfl, tb4 8 _ rfl, tb4 9 _ rfl, ⟨by decide, by decide⟩, rfl⟩
theorem lk_J0_498 : LkS RJ0 498 yJ2_charAt_3b067 cJ2_charAt_3b067 2 (some .char) 2 := ⟨tb4 21 _ rfl, tb1 20 _ rfl, tb4 19 _ rfl, tb4 20 _ rfl, ⟨by decide, by decide⟩, rfl⟩
theorem lk_J0_1059 : LkS RJ0 1059 yJ3_checkIndex_8e157 cJ3_checkIndex_8e157 3 (some .int) 3 := ⟨tb4 18 _ rfl, tb1 19 _ rfl, tb4 16 _ rfl, tb4 17 _ rfl, ⟨by decide, by decide⟩, rfl⟩
theorem lk_J1_9 : LkS RJ1 9 yJ0_checkIndex_df160 cJ0_checkIndex_df160 2 none 2 := ⟨tb4 13 _ rfl, tb1 17 _ rfl, tb4 11 _ rfl, tb4 12 _ rfl, ⟨by decide, by decide⟩, rfl⟩
theorem lk_J2_48 : LkS RJ2 48 yJ2_length_9d52b cJ2_length_9d52b 1 (some .int) 1 := ⟨tb4 27 _ rfl, tb1 20 _ rfl, tb4 25 _ rfl, tb4 26 _ rfl, ⟨by decide, by decide⟩, rfl⟩
theorem lk_J2_67 : LkS RJ2 67 yJ2_checkIndex_2214a cJ2_checkIndex_2214a 2 none 2 := ⟨tb4 24 _ rfl, tb1 20 _ rfl, tb4 22 _ rfl, tb4 23 _ rfl, ⟨by decide, by decide⟩, rfl⟩
theorem lk_J2_71 : LkS RJ2 71 yJ2_getChar_3b067 cJ2_getChar_3b067 2 (some .char) 2 := ⟨tb4 31 _ rfl, tb1 20 _ rfl, tb4 29 _ rfl, tb4 30 _ rfl, ⟨by decide, by decide⟩, rfl⟩
theorem lk_J2_414 : LkS RJ2 414 yJ0_checkIndex_df160 cJ0_checkIndex_df160 2 none 2 := ⟨tb4 13 _ rfl, tb1 17 _ rfl, tb4 28 _ rfl, tb4 12 _ rfl, ⟨by decide, by decide⟩, rfl⟩
theorem ly_X0_39 : LkY RX0 39 := ⟨tb3 171 _ rfl, tb3 166 _ rfl, tb3 165 _ rfl, tb1 14 _ rfl⟩
theorem ly_X5_64 : LkY RX5 64 := ⟨tb3 164 _ rfl, tb3 166 _ rfl, tb3 165 _ rfl, tb1 14 _ rfl⟩
theorem ly_X7_43 : LkY RX7 43 := ⟨tb3 176 _ rfl, tb3 166 _ rfl, tb3 165 _ rfl, tb1 14 _ rfl⟩
