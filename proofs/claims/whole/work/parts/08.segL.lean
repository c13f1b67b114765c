def S_L_law_18 (g : AG) (d : Nat) (l3 : Int) (M : AM) (Q : Int → AM → Prop) : Prop := Wa g mL_law d 18 [(0, vR 108), (1, vR 0), (2, vR 88), (3, vI l3)] [] M (QI Q)
set_option maxRecDepth 100000 in
theorem sg_L_law_18 {g : AG} {d : Nat} {l3 : Int} {M : AM} {Q : Int → AM → Prop} 
  (h : rg l3 ∧ (rg ((gLn g : Int) - 4) ∧ ((((gLn g : Int) - 4) < l3 → (Q 1 M)) ∧ (¬ ((gLn g : Int) - 4) < l3 → ((0 ≤ l3 ∧ l3 < gLn g) ∧ (gLn g < 2147483648 ∧ (((iAnd (gxs g (l3).toNat).toInt 31) < 0 ∨ 21 < (iAnd (gxs g (l3).toNat).toInt 31) → (S_L_law_18 g (d + 1) (l3 + 4) M Q)) ∧ ((iAnd (gxs g (l3).toNat).toInt 31) = 0 → ((0 ≤ (l3 + 1) ∧ (l3 + 1) < gLn g) ∧ (gLn g < 2147483648 ∧ (MetI g mX8_letter d [vR 0, vI (gxs g ((l3 + 1)).toNat).toInt] M (fun z8 M7 => rg z8 → ((0 ≤ (l3 + 1) ∧ (l3 + 1) < gLn g) ∧ (gLn g < 2147483648 ∧ (MetI g mX9_letter d [vR 88, vI (gxs g ((l3 + 1)).toNat).toInt] M7 (fun z12 M11 => rg z12 → ((z8 = z12 → (S_L_law_18 g (d + 1) (l3 + 4) M11 Q)) ∧ (¬ z8 = z12 → (Q 0 M11)))))))))))) ∧ ((iAnd (gxs g (l3).toNat).toInt 31) = 1 → (MetI g mX8_blank d [vR 0] M (fun z16 M15 => rg z16 → (MetI g mX9_blank d [vR 88] M15 (fun z19 M18 => rg z19 → ((z16 = z19 → (S_L_law_18 g (d + 1) (l3 + 4) M18 Q)) ∧ (¬ z16 = z19 → (Q 0 M18)))))))) ∧ ((iAnd (gxs g (l3).toNat).toInt 31) = 2 → (MetI g mX8_fault d [vR 0] M (fun z23 M22 => rg z23 → (MetI g mX9_fault d [vR 88] M22 (fun z26 M25 => rg z26 → ((z23 = z26 → (S_L_law_18 g (d + 1) (l3 + 4) M25 Q)) ∧ (¬ z23 = z26 → (Q 0 M25)))))))) ∧ ((iAnd (gxs g (l3).toNat).toInt 31) = 3 → (MetI g mX8_text d [vR 0] M (fun z30 M29 => rg z30 → (MetI g mX9_text d [vR 88] M29 (fun z33 M32 => rg z33 → ((z30 = z33 → (S_L_law_18 g (d + 1) (l3 + 4) M32 Q)) ∧ (¬ z30 = z33 → (Q 0 M32)))))))) ∧ ((iAnd (gxs g (l3).toNat).toInt 31) = 4 → ((0 ≤ (l3 + 1) ∧ (l3 + 1) < gLn g) ∧ (gLn g < 2147483648 ∧ ((0 ≤ (l3 + 2) ∧ (l3 + 2) < gLn g) ∧ (gLn g < 2147483648 ∧ ((0 ≤ (l3 + 3) ∧ (l3 + 3) < gLn g) ∧ (gLn g < 2147483648 ∧ (MetI g mX8_line d [vR 0, vI (gxs g ((l3 + 1)).toNat).toInt, vI (gxs g ((l3 + 2)).toNat).toInt, vI (gxs g ((l3 + 3)).toNat).toInt] M (fun z40 M39 => rg z40 → ((0 ≤ (l3 + 1) ∧ (l3 + 1) < gLn g) ∧ (gLn g < 2147483648 ∧ ((0 ≤ (l3 + 2) ∧ (l3 + 2) < gLn g) ∧ (gLn g < 2147483648 ∧ ((0 ≤ (l3 + 3) ∧ (l3 + 3) < gLn g) ∧ (gLn g < 2147483648 ∧ (MetI g mX9_line d [vR 88, vI (gxs g ((l3 + 1)).toNat).toInt, vI (gxs g ((l3 + 2)).toNat).toInt, vI (gxs g ((l3 + 3)).toNat).toInt] M39 (fun z46 M45 => rg z46 → ((z40 = z46 → (S_L_law_18 g (d + 1) (l3 + 4) M45 Q)) ∧ (¬ z40 = z46 → (Q 0 M45)))))))))))))))))))) ∧ ((iAnd (gxs g (l3).toNat).toInt 31) = 5 → ((0 ≤ (l3 + 1) ∧ (l3 + 1) < gLn g) ∧ (gLn g < 2147483648 ∧ ((0 ≤ (l3 + 2) ∧ (l3 + 2) < gLn g) ∧ (gLn g < 2147483648 ∧ (MetI g mX8_step d [vR 0, vI (gxs g ((l3 + 1)).toNat).toInt, vI (gxs g ((l3 + 2)).toNat).toInt] M (fun z52 M51 => rg z52 → ((0 ≤ (l3 + 1) ∧ (l3 + 1) < gLn g) ∧ (gLn g < 2147483648 ∧ ((0 ≤ (l3 + 2) ∧ (l3 + 2) < gLn g) ∧ (gLn g < 2147483648 ∧ (MetI g mX9_step d [vR 88, vI (gxs g ((l3 + 1)).toNat).toInt, vI (gxs g ((l3 + 2)).toNat).toInt] M51 (fun z57 M56 => rg z57 → ((z52 = z57 → (S_L_law_18 g (d + 1) (l3 + 4) M56 Q)) ∧ (¬ z52 = z57 → (Q 0 M56)))))))))))))))) ∧ ((iAnd (gxs g (l3).toNat).toInt 31) = 6 → ((0 ≤ (l3 + 1) ∧ (l3 + 1) < gLn g) ∧ (gLn g < 2147483648 ∧ ((0 ≤ (l3 + 2) ∧ (l3 + 2) < gLn g) ∧ (gLn g < 2147483648 ∧ (MetI g mX8_letters d [vR 0, vI (gxs g ((l3 + 1)).toNat).toInt, vI (gxs g ((l3 + 2)).toNat).toInt] M (fun z63 M62 => rg z63 → ((0 ≤ (l3 + 1) ∧ (l3 + 1) < gLn g) ∧ (gLn g < 2147483648 ∧ ((0 ≤ (l3 + 2) ∧ (l3 + 2) < gLn g) ∧ (gLn g < 2147483648 ∧ (MetI g mX9_letters d [vR 88, vI (gxs g ((l3 + 1)).toNat).toInt, vI (gxs g ((l3 + 2)).toNat).toInt] M62 (fun z68 M67 => rg z68 → ((z63 = z68 → (S_L_law_18 g (d + 1) (l3 + 4) M67 Q)) ∧ (¬ z63 = z68 → (Q 0 M67)))))))))))))))) ∧ ((iAnd (gxs g (l3).toNat).toInt 31) = 7 → ((0 ≤ (l3 + 1) ∧ (l3 + 1) < gLn g) ∧ (gLn g < 2147483648 ∧ ((0 ≤ (l3 + 2) ∧ (l3 + 2) < gLn g) ∧ (gLn g < 2147483648 ∧ (MetI g mX8_like d [vR 0, vI (gxs g ((l3 + 1)).toNat).toInt, vI (gxs g ((l3 + 2)).toNat).toInt] M (fun z74 M73 => rg z74 → ((0 ≤ (l3 + 1) ∧ (l3 + 1) < gLn g) ∧ (gLn g < 2147483648 ∧ ((0 ≤ (l3 + 2) ∧ (l3 + 2) < gLn g) ∧ (gLn g < 2147483648 ∧ (MetI g mX9_like d [vR 88, vI (gxs g ((l3 + 1)).toNat).toInt, vI (gxs g ((l3 + 2)).toNat).toInt] M73 (fun z79 M78 => rg z79 → ((z74 = z79 → (S_L_law_18 g (d + 1) (l3 + 4) M78 Q)) ∧ (¬ z74 = z79 → (Q 0 M78)))))))))))))))) ∧ ((iAnd (gxs g (l3).toNat).toInt 31) = 8 → ((0 ≤ (l3 + 1) ∧ (l3 + 1) < gLn g) ∧ (gLn g < 2147483648 ∧ ((0 ≤ (l3 + 2) ∧ (l3 + 2) < gLn g) ∧ (gLn g < 2147483648 ∧ (MetI g mX8_rack d [vR 0, vI (gxs g ((l3 + 1)).toNat).toInt, vI (gxs g ((l3 + 2)).toNat).toInt] M (fun z85 M84 => rg z85 → ((0 ≤ (l3 + 1) ∧ (l3 + 1) < gLn g) ∧ (gLn g < 2147483648 ∧ ((0 ≤ (l3 + 2) ∧ (l3 + 2) < gLn g) ∧ (gLn g < 2147483648 ∧ (MetI g mX9_rack d [vR 88, vI (gxs g ((l3 + 1)).toNat).toInt, vI (gxs g ((l3 + 2)).toNat).toInt] M84 (fun z90 M89 => rg z90 → ((z85 = z90 → (S_L_law_18 g (d + 1) (l3 + 4) M89 Q)) ∧ (¬ z85 = z90 → (Q 0 M89)))))))))))))))) ∧ ((iAnd (gxs g (l3).toNat).toInt 31) = 9 → ((0 ≤ (l3 + 1) ∧ (l3 + 1) < gLn g) ∧ (gLn g < 2147483648 ∧ ((0 ≤ (l3 + 2) ∧ (l3 + 2) < gLn g) ∧ (gLn g < 2147483648 ∧ (MetI g mX8_racked d [vR 0, vI (gxs g ((l3 + 1)).toNat).toInt, vI (gxs g ((l3 + 2)).toNat).toInt] M (fun z96 M95 => rg z96 → ((0 ≤ (l3 + 1) ∧ (l3 + 1) < gLn g) ∧ (gLn g < 2147483648 ∧ ((0 ≤ (l3 + 2) ∧ (l3 + 2) < gLn g) ∧ (gLn g < 2147483648 ∧ (MetI g mX9_racked d [vR 88, vI (gxs g ((l3 + 1)).toNat).toInt, vI (gxs g ((l3 + 2)).toNat).toInt] M95 (fun z101 M100 => rg z101 → ((z96 = z101 → (S_L_law_18 g (d + 1) (l3 + 4) M100 Q)) ∧ (¬ z96 = z101 → (Q 0 M100)))))))))))))))) ∧ ((iAnd (gxs g (l3).toNat).toInt 31) = 10 → ((0 ≤ (l3 + 1) ∧ (l3 + 1) < gLn g) ∧ (gLn g < 2147483648 ∧ ((0 ≤ (l3 + 2) ∧ (l3 + 2) < gLn g) ∧ (gLn g < 2147483648 ∧ ((0 ≤ (l3 + 3) ∧ (l3 + 3) < gLn g) ∧ (gLn g < 2147483648 ∧ (MetI g mX8_put d [vR 0, vI (gxs g ((l3 + 1)).toNat).toInt, vI (gxs g ((l3 + 2)).toNat).toInt, vI (gxs g ((l3 + 3)).toNat).toInt] M (fun z108 M107 => rg z108 → ((0 ≤ (l3 + 1) ∧ (l3 + 1) < gLn g) ∧ (gLn g < 2147483648 ∧ ((0 ≤ (l3 + 2) ∧ (l3 + 2) < gLn g) ∧ (gLn g < 2147483648 ∧ ((0 ≤ (l3 + 3) ∧ (l3 + 3) < gLn g) ∧ (gLn g < 2147483648 ∧ (MetI g mX9_put d [vR 88, vI (gxs g ((l3 + 1)).toNat).toInt, vI (gxs g ((l3 + 2)).toNat).toInt, vI (gxs g ((l3 + 3)).toNat).toInt] M107 (fun z114 M113 => rg z114 → ((z108 = z114 → (S_L_law_18 g (d + 1) (l3 + 4) M113 Q)) ∧ (¬ z108 = z114 → (Q 0 M113)))))))))))))))))))) ∧ ((iAnd (gxs g (l3).toNat).toInt 31) = 11 → ((0 ≤ (l3 + 1) ∧ (l3 + 1) < gLn g) ∧ (gLn g < 2147483648 ∧ ((0 ≤ (l3 + 2) ∧ (l3 + 2) < gLn g) ∧ (gLn g < 2147483648 ∧ (MetI g mX8_take d [vR 0, vI (gxs g ((l3 + 1)).toNat).toInt, vI (gxs g ((l3 + 2)).toNat).toInt] M (fun z120 M119 => rg z120 → ((0 ≤ (l3 + 1) ∧ (l3 + 1) < gLn g) ∧ (gLn g < 2147483648 ∧ ((0 ≤ (l3 + 2) ∧ (l3 + 2) < gLn g) ∧ (gLn g < 2147483648 ∧ (MetI g mX9_take d [vR 88, vI (gxs g ((l3 + 1)).toNat).toInt, vI (gxs g ((l3 + 2)).toNat).toInt] M119 (fun z125 M124 => rg z125 → ((z120 = z125 → (S_L_law_18 g (d + 1) (l3 + 4) M124 Q)) ∧ (¬ z120 = z125 → (Q 0 M124)))))))))))))))) ∧ ((iAnd (gxs g (l3).toNat).toInt 31) = 12 → ((0 ≤ (l3 + 1) ∧ (l3 + 1) < gLn g) ∧ (gLn g < 2147483648 ∧ ((0 ≤ (l3 + 2) ∧ (l3 + 2) < gLn g) ∧ (gLn g < 2147483648 ∧ ((0 ≤ (l3 + 3) ∧ (l3 + 3) < gLn g) ∧ (gLn g < 2147483648 ∧ (MetI g mX8_swap d [vR 0, vI (gxs g ((l3 + 1)).toNat).toInt, vI (gxs g ((l3 + 2)).toNat).toInt, vI (gxs g ((l3 + 3)).toNat).toInt] M (fun z132 M131 => rg z132 → ((0 ≤ (l3 + 1) ∧ (l3 + 1) < gLn g) ∧ (gLn g < 2147483648 ∧ ((0 ≤ (l3 + 2) ∧ (l3 + 2) < gLn g) ∧ (gLn g < 2147483648 ∧ ((0 ≤ (l3 + 3) ∧ (l3 + 3) < gLn g) ∧ (gLn g < 2147483648 ∧ (MetI g mX9_swap d [vR 88, vI (gxs g ((l3 + 1)).toNat).toInt, vI (gxs g ((l3 + 2)).toNat).toInt, vI (gxs g ((l3 + 3)).toNat).toInt] M131 (fun z138 M137 => rg z138 → ((z132 = z138 → (S_L_law_18 g (d + 1) (l3 + 4) M137 Q)) ∧ (¬ z132 = z138 → (Q 0 M137)))))))))))))))))))) ∧ ((iAnd (gxs g (l3).toNat).toInt 31) = 13 → (MetI g mX8_turn d [vR 0] M (fun z142 M141 => rg z142 → (MetI g mX9_turn d [vR 88] M141 (fun z145 M144 => rg z145 → ((z142 = z145 → (S_L_law_18 g (d + 1) (l3 + 4) M144 Q)) ∧ (¬ z142 = z145 → (Q 0 M144)))))))) ∧ ((iAnd (gxs g (l3).toNat).toInt 31) = 14 → ((0 ≤ (l3 + 1) ∧ (l3 + 1) < gLn g) ∧ (gLn g < 2147483648 ∧ (MetI g mX8_cost d [vR 0, vI (gxs g ((l3 + 1)).toNat).toInt] M (fun z150 M149 => rg z150 → ((0 ≤ (l3 + 1) ∧ (l3 + 1) < gLn g) ∧ (gLn g < 2147483648 ∧ (MetI g mX9_cost d [vR 88, vI (gxs g ((l3 + 1)).toNat).toInt] M149 (fun z154 M153 => rg z154 → ((z150 = z154 → (S_L_law_18 g (d + 1) (l3 + 4) M153 Q)) ∧ (¬ z150 = z154 → (Q 0 M153)))))))))))) ∧ ((iAnd (gxs g (l3).toNat).toInt 31) = 15 → ((0 ≤ (l3 + 1) ∧ (l3 + 1) < gLn g) ∧ (gLn g < 2147483648 ∧ (MetI g mX8_best d [vR 0, vI (gxs g ((l3 + 1)).toNat).toInt] M (fun z159 M158 => rg z159 → ((0 ≤ (l3 + 1) ∧ (l3 + 1) < gLn g) ∧ (gLn g < 2147483648 ∧ (MetI g mX9_best d [vR 88, vI (gxs g ((l3 + 1)).toNat).toInt] M158 (fun z163 M162 => rg z163 → ((z159 = z163 → (S_L_law_18 g (d + 1) (l3 + 4) M162 Q)) ∧ (¬ z159 = z163 → (Q 0 M162)))))))))))) ∧ ((iAnd (gxs g (l3).toNat).toInt 31) = 16 → (MetL g mX8_all d [vR 0] M (fun z167 M166 => MetL g mX9_all d [vR 88] M166 (fun z170 M169 => ((lCmp z167 z170) = 0 → (S_L_law_18 g (d + 1) (l3 + 4) M169 Q)) ∧ (¬ (lCmp z167 z170) = 0 → (Q 0 M169)))))) ∧ ((iAnd (gxs g (l3).toNat).toInt 31) = 17 → ((0 ≤ (l3 + 1) ∧ (l3 + 1) < gLn g) ∧ (gLn g < 2147483648 ∧ ((0 ≤ (l3 + 2) ∧ (l3 + 2) < gLn g) ∧ (gLn g < 2147483648 ∧ ((0 ≤ (l3 + 3) ∧ (l3 + 3) < gLn g) ∧ (gLn g < 2147483648 ∧ (MetI g mX8_drawn d [vR 0, vI (gxs g ((l3 + 1)).toNat).toInt, vI (gxs g ((l3 + 2)).toNat).toInt, vI (gxs g ((l3 + 3)).toNat).toInt] M (fun z177 M176 => rg z177 → ((0 ≤ (l3 + 1) ∧ (l3 + 1) < gLn g) ∧ (gLn g < 2147483648 ∧ ((0 ≤ (l3 + 2) ∧ (l3 + 2) < gLn g) ∧ (gLn g < 2147483648 ∧ ((0 ≤ (l3 + 3) ∧ (l3 + 3) < gLn g) ∧ (gLn g < 2147483648 ∧ (MetI g mX9_drawn d [vR 88, vI (gxs g ((l3 + 1)).toNat).toInt, vI (gxs g ((l3 + 2)).toNat).toInt, vI (gxs g ((l3 + 3)).toNat).toInt] M176 (fun z183 M182 => rg z183 → ((z177 = z183 → (S_L_law_18 g (d + 1) (l3 + 4) M182 Q)) ∧ (¬ z177 = z183 → (Q 0 M182)))))))))))))))))))) ∧ ((iAnd (gxs g (l3).toNat).toInt 31) = 18 → (MetI g mX8_image d [vR 0] M (fun z187 M186 => rg z187 → (MetI g mX9_image d [vR 88] M186 (fun z190 M189 => rg z190 → ((z187 = z190 → (S_L_law_18 g (d + 1) (l3 + 4) M189 Q)) ∧ (¬ z187 = z190 → (Q 0 M189)))))))) ∧ ((iAnd (gxs g (l3).toNat).toInt 31) = 19 → (MetI g mX8_restore d [vR 0] M (fun z194 M193 => rg z194 → (MetI g mX9_restore d [vR 88] M193 (fun z197 M196 => rg z197 → ((z194 = z197 → (S_L_law_18 g (d + 1) (l3 + 4) M196 Q)) ∧ (¬ z194 = z197 → (Q 0 M196)))))))) ∧ ((iAnd (gxs g (l3).toNat).toInt 31) = 20 → ((0 ≤ (l3 + 1) ∧ (l3 + 1) < gLn g) ∧ (gLn g < 2147483648 ∧ (MetI g mX8_count d [vR 0, vI (gxs g ((l3 + 1)).toNat).toInt] M (fun z202 M201 => rg z202 → ((0 ≤ (l3 + 1) ∧ (l3 + 1) < gLn g) ∧ (gLn g < 2147483648 ∧ (MetI g mX9_count d [vR 88, vI (gxs g ((l3 + 1)).toNat).toInt] M201 (fun z206 M205 => rg z206 → ((z202 = z206 → (S_L_law_18 g (d + 1) (l3 + 4) M205 Q)) ∧ (¬ z202 = z206 → (Q 0 M205)))))))))))) ∧ ((iAnd (gxs g (l3).toNat).toInt 31) = 21 → (MetL g mX8_digest d [vR 0] M (fun z210 M209 => MetL g mX9_digest d [vR 88] M209 (fun z213 M212 => ((lCmp z210 z213) = 0 → (S_L_law_18 g (d + 1) (l3 + 4) M212 Q)) ∧ (¬ (lCmp z210 z213) = 0 → (Q 0 M212))))))))))))) : S_L_law_18 g (d + 1) l3 M Q := by
  show Wa _ _ _ _ _ _ _ _
  refine Wa_iload_n 3 dL_law_18 rfl rfl ?_
  refine Wa_aload_n 0 dL_law_19 rfl rfl ?_
  refine Wa_slen dL_law_20 ?_
  refine Wa_iconst (z := 4) dL_law_21 ?_
  refine Wa_isub dL_law_22 ?_
  obtain ⟨q1, h⟩ := h
  obtain ⟨q2, h⟩ := h
  refine Wa_icmp_gt (tgt := 710) dL_law_23 (by decide) q1 q2 (fun c3 => ?_) (fun c3 => ?_)
  · have h := h.1 c3
    refine Wa_iconst (z := 1) dL_law_710 ?_
    exact Wa_zreturn dL_law_711 rfl (by decide) ⟨_, rfl, rg_bool (by decide), h⟩
  · have h := h.2 c3
    refine Wa_aload_n 0 dL_law_26 rfl rfl ?_
    refine Wa_iload_n 3 dL_law_27 rfl rfl ?_
    obtain ⟨b4, h⟩ := h
    obtain ⟨hL, h⟩ := h
    refine Wa_sld b4 hL dL_law_28 ?_
    refine Wa_bipush (z := 31) dL_law_29 (by decide) ?_
    refine Wa_iand dL_law_31 ?_
    by_cases c5 : (iAnd (gxs g (l3).toNat).toInt 31) < 0 ∨ 21 < (iAnd (gxs g (l3).toNat).toInt 31)
    · have h := h.1 c5
      refine Wa_tabOut (tgt := 704) dL_law_32 (rg_toInt _) c5 (by decide) ?_
      refine Wa_iinc (ls' := [(3, vI (l3 + 4)), (0, vR 108), (1, vR 0), (2, vR 88)]) 3 dL_law_704 rfl (by decide) rfl ?_
      refine Wa_goto (tgt := 18) dL_law_707 (by decide) ?_
      refine Wa_sub [1, 2, 3, 0] rfl ?_
      exact h
    · have h := h.2
      rcases (show (iAnd (gxs g (l3).toNat).toInt 31) = 0 ∨ (iAnd (gxs g (l3).toNat).toInt 31) = 1 ∨ (iAnd (gxs g (l3).toNat).toInt 31) = 2 ∨ (iAnd (gxs g (l3).toNat).toInt 31) = 3 ∨ (iAnd (gxs g (l3).toNat).toInt 31) = 4 ∨ (iAnd (gxs g (l3).toNat).toInt 31) = 5 ∨ (iAnd (gxs g (l3).toNat).toInt 31) = 6 ∨ (iAnd (gxs g (l3).toNat).toInt 31) = 7 ∨ (iAnd (gxs g (l3).toNat).toInt 31) = 8 ∨ (iAnd (gxs g (l3).toNat).toInt 31) = 9 ∨ (iAnd (gxs g (l3).toNat).toInt 31) = 10 ∨ (iAnd (gxs g (l3).toNat).toInt 31) = 11 ∨ (iAnd (gxs g (l3).toNat).toInt 31) = 12 ∨ (iAnd (gxs g (l3).toNat).toInt 31) = 13 ∨ (iAnd (gxs g (l3).toNat).toInt 31) = 14 ∨ (iAnd (gxs g (l3).toNat).toInt 31) = 15 ∨ (iAnd (gxs g (l3).toNat).toInt 31) = 16 ∨ (iAnd (gxs g (l3).toNat).toInt 31) = 17 ∨ (iAnd (gxs g (l3).toNat).toInt 31) = 18 ∨ (iAnd (gxs g (l3).toNat).toInt 31) = 19 ∨ (iAnd (gxs g (l3).toNat).toInt 31) = 20 ∨ (iAnd (gxs g (l3).toNat).toInt 31) = 21 by omega) with c5 | c5 | c5 | c5 | c5 | c5 | c5 | c5 | c5 | c5 | c5 | c5 | c5 | c5 | c5 | c5 | c5 | c5 | c5 | c5 | c5 | c5
      · have h := h.1 c5
        refine Wa_tabIn (tgt := 136) dL_law_32 (rg_toInt _) (by omega) (by omega) (by rw [c5]; rfl) (by decide) ?_
        refine Wa_aload_n 1 dL_law_136 rfl rfl ?_
        refine Wa_aload_n 0 dL_law_137 rfl rfl ?_
        refine Wa_iload_n 3 dL_law_138 rfl rfl ?_
        refine Wa_iconst (z := 1) dL_law_139 ?_
        refine Wa_iadd dL_law_140 ?_
        obtain ⟨b6, h⟩ := h
        obtain ⟨hL, h⟩ := h
        refine Wa_sld b6 hL dL_law_141 ?_
        refine Wa_callV [vI (gxs g ((l3 + 1)).toNat).toInt] _ cf_X8 rfl k_0 lc_L_13 cv_X8_letter rfl rfl (Nat.le_refl _) (Nat.le_of_ble_eq_true rfl) dL_law_142 h ?_
        intro r M7 h
        obtain ⟨z8, rfl, r9, h⟩ := h
        have h := h r9
        refine Wa_aload_n 2 dL_law_145 rfl rfl ?_
        refine Wa_aload_n 0 dL_law_146 rfl rfl ?_
        refine Wa_iload_n 3 dL_law_147 rfl rfl ?_
        refine Wa_iconst (z := 1) dL_law_148 ?_
        refine Wa_iadd dL_law_149 ?_
        obtain ⟨b10, h⟩ := h
        obtain ⟨hL, h⟩ := h
        refine Wa_sld b10 hL dL_law_150 ?_
        refine Wa_callV [vI (gxs g ((l3 + 1)).toNat).toInt] _ cf_X9 rfl k_88 lc_L_17 cv_X9_letter rfl rfl (Nat.le_refl _) (Nat.le_of_ble_eq_true rfl) dL_law_151 h ?_
        intro r M11 h
        obtain ⟨z12, rfl, r13, h⟩ := h
        have h := h r13
        refine Wa_icmp_eq (tgt := 704) dL_law_154 (by decide) r9 r13 (fun c14 => ?_) (fun c14 => ?_)
        · have h := h.1 c14
          refine Wa_iinc (ls' := [(3, vI (l3 + 4)), (0, vR 108), (1, vR 0), (2, vR 88)]) 3 dL_law_704 rfl (by decide) rfl ?_
          refine Wa_goto (tgt := 18) dL_law_707 (by decide) ?_
          refine Wa_sub [1, 2, 3, 0] rfl ?_
          exact h
        · have h := h.2 c14
          refine Wa_iconst (z := 0) dL_law_157 ?_
          exact Wa_zreturn dL_law_158 rfl (by decide) ⟨_, rfl, rg_bool (by decide), h⟩
      · have h := h.2.1 c5
        refine Wa_tabIn (tgt := 159) dL_law_32 (rg_toInt _) (by omega) (by omega) (by rw [c5]; rfl) (by decide) ?_
        refine Wa_aload_n 1 dL_law_159 rfl rfl ?_
        refine Wa_callV [] _ cf_X8 rfl k_0 lc_L_18 cv_X8_blank rfl rfl (Nat.le_refl _) (Nat.le_of_ble_eq_true rfl) dL_law_160 h ?_
        intro r M15 h
        obtain ⟨z16, rfl, r17, h⟩ := h
        have h := h r17
        refine Wa_aload_n 2 dL_law_163 rfl rfl ?_
        refine Wa_callV [] _ cf_X9 rfl k_88 lc_L_22 cv_X9_blank rfl rfl (Nat.le_refl _) (Nat.le_of_ble_eq_true rfl) dL_law_164 h ?_
        intro r M18 h
        obtain ⟨z19, rfl, r20, h⟩ := h
        have h := h r20
        refine Wa_icmp_eq (tgt := 704) dL_law_167 (by decide) r17 r20 (fun c21 => ?_) (fun c21 => ?_)
        · have h := h.1 c21
          refine Wa_iinc (ls' := [(3, vI (l3 + 4)), (0, vR 108), (1, vR 0), (2, vR 88)]) 3 dL_law_704 rfl (by decide) rfl ?_
          refine Wa_goto (tgt := 18) dL_law_707 (by decide) ?_
          refine Wa_sub [1, 2, 3, 0] rfl ?_
          exact h
        · have h := h.2 c21
          refine Wa_iconst (z := 0) dL_law_170 ?_
          exact Wa_zreturn dL_law_171 rfl (by decide) ⟨_, rfl, rg_bool (by decide), h⟩
      · have h := h.2.2.1 c5
        refine Wa_tabIn (tgt := 172) dL_law_32 (rg_toInt _) (by omega) (by omega) (by rw [c5]; rfl) (by decide) ?_
        refine Wa_aload_n 1 dL_law_172 rfl rfl ?_
        refine Wa_callV [] _ cf_X8 rfl k_0 lc_L_23 cv_X8_fault rfl rfl (Nat.le_refl _) (Nat.le_of_ble_eq_true rfl) dL_law_173 h ?_
        intro r M22 h
        obtain ⟨z23, rfl, r24, h⟩ := h
        have h := h r24
        refine Wa_aload_n 2 dL_law_176 rfl rfl ?_
        refine Wa_callV [] _ cf_X9 rfl k_88 lc_L_26 cv_X9_fault rfl rfl (Nat.le_refl _) (Nat.le_of_ble_eq_true rfl) dL_law_177 h ?_
        intro r M25 h
        obtain ⟨z26, rfl, r27, h⟩ := h
        have h := h r27
        refine Wa_icmp_eq (tgt := 704) dL_law_180 (by decide) r24 r27 (fun c28 => ?_) (fun c28 => ?_)
        · have h := h.1 c28
          refine Wa_iinc (ls' := [(3, vI (l3 + 4)), (0, vR 108), (1, vR 0), (2, vR 88)]) 3 dL_law_704 rfl (by decide) rfl ?_
          refine Wa_goto (tgt := 18) dL_law_707 (by decide) ?_
          refine Wa_sub [1, 2, 3, 0] rfl ?_
          exact h
        · have h := h.2 c28
          refine Wa_iconst (z := 0) dL_law_183 ?_
          exact Wa_zreturn dL_law_184 rfl (by decide) ⟨_, rfl, rg_bool (by decide), h⟩
      · have h := h.2.2.2.1 c5
        refine Wa_tabIn (tgt := 185) dL_law_32 (rg_toInt _) (by omega) (by omega) (by rw [c5]; rfl) (by decide) ?_
        refine Wa_aload_n 1 dL_law_185 rfl rfl ?_
        refine Wa_callV [] _ cf_X8 rfl k_0 lc_L_27 cv_X8_text rfl rfl (Nat.le_refl _) (Nat.le_of_ble_eq_true rfl) dL_law_186 h ?_
        intro r M29 h
        obtain ⟨z30, rfl, r31, h⟩ := h
        have h := h r31
        refine Wa_aload_n 2 dL_law_189 rfl rfl ?_
        refine Wa_callV [] _ cf_X9 rfl k_88 lc_L_30 cv_X9_text rfl rfl (Nat.le_refl _) (Nat.le_of_ble_eq_true rfl) dL_law_190 h ?_
        intro r M32 h
        obtain ⟨z33, rfl, r34, h⟩ := h
        have h := h r34
        refine Wa_icmp_eq (tgt := 704) dL_law_193 (by decide) r31 r34 (fun c35 => ?_) (fun c35 => ?_)
        · have h := h.1 c35
          refine Wa_iinc (ls' := [(3, vI (l3 + 4)), (0, vR 108), (1, vR 0), (2, vR 88)]) 3 dL_law_704 rfl (by decide) rfl ?_
          refine Wa_goto (tgt := 18) dL_law_707 (by decide) ?_
          refine Wa_sub [1, 2, 3, 0] rfl ?_
          exact h
        · have h := h.2 c35
          refine Wa_iconst (z := 0) dL_law_196 ?_
          exact Wa_zreturn dL_law_197 rfl (by decide) ⟨_, rfl, rg_bool (by decide), h⟩
      · have h := h.2.2.2.2.1 c5
        refine Wa_tabIn (tgt := 198) dL_law_32 (rg_toInt _) (by omega) (by omega) (by rw [c5]; rfl) (by decide) ?_
        refine Wa_aload_n 1 dL_law_198 rfl rfl ?_
        refine Wa_aload_n 0 dL_law_199 rfl rfl ?_
        refine Wa_iload_n 3 dL_law_200 rfl rfl ?_
        refine Wa_iconst (z := 1) dL_law_201 ?_
        refine Wa_iadd dL_law_202 ?_
        obtain ⟨b36, h⟩ := h
        obtain ⟨hL, h⟩ := h
        refine Wa_sld b36 hL dL_law_203 ?_
        refine Wa_aload_n 0 dL_law_204 rfl rfl ?_
        refine Wa_iload_n 3 dL_law_205 rfl rfl ?_
        refine Wa_iconst (z := 2) dL_law_206 ?_
        refine Wa_iadd dL_law_207 ?_
        obtain ⟨b37, h⟩ := h
        obtain ⟨hL, h⟩ := h
        refine Wa_sld b37 hL dL_law_208 ?_
        refine Wa_aload_n 0 dL_law_209 rfl rfl ?_
        refine Wa_iload_n 3 dL_law_210 rfl rfl ?_
        refine Wa_iconst (z := 3) dL_law_211 ?_
        refine Wa_iadd dL_law_212 ?_
        obtain ⟨b38, h⟩ := h
        obtain ⟨hL, h⟩ := h
        refine Wa_sld b38 hL dL_law_213 ?_
        refine Wa_callV [vI (gxs g ((l3 + 1)).toNat).toInt, vI (gxs g ((l3 + 2)).toNat).toInt, vI (gxs g ((l3 + 3)).toNat).toInt] _ cf_X8 rfl k_0 lc_L_31 cv_X8_line rfl rfl (Nat.le_refl _) (Nat.le_of_ble_eq_true rfl) dL_law_214 h ?_
        intro r M39 h
        obtain ⟨z40, rfl, r41, h⟩ := h
        have h := h r41
        refine Wa_aload_n 2 dL_law_217 rfl rfl ?_
        refine Wa_aload_n 0 dL_law_218 rfl rfl ?_
        refine Wa_iload_n 3 dL_law_219 rfl rfl ?_
        refine Wa_iconst (z := 1) dL_law_220 ?_
        refine Wa_iadd dL_law_221 ?_
        obtain ⟨b42, h⟩ := h
        obtain ⟨hL, h⟩ := h
        refine Wa_sld b42 hL dL_law_222 ?_
        refine Wa_aload_n 0 dL_law_223 rfl rfl ?_
        refine Wa_iload_n 3 dL_law_224 rfl rfl ?_
        refine Wa_iconst (z := 2) dL_law_225 ?_
        refine Wa_iadd dL_law_226 ?_
        obtain ⟨b43, h⟩ := h
        obtain ⟨hL, h⟩ := h
        refine Wa_sld b43 hL dL_law_227 ?_
        refine Wa_aload_n 0 dL_law_228 rfl rfl ?_
        refine Wa_iload_n 3 dL_law_229 rfl rfl ?_
        refine Wa_iconst (z := 3) dL_law_230 ?_
        refine Wa_iadd dL_law_231 ?_
        obtain ⟨b44, h⟩ := h
        obtain ⟨hL, h⟩ := h
        refine Wa_sld b44 hL dL_law_232 ?_
        refine Wa_callV [vI (gxs g ((l3 + 1)).toNat).toInt, vI (gxs g ((l3 + 2)).toNat).toInt, vI (gxs g ((l3 + 3)).toNat).toInt] _ cf_X9 rfl k_88 lc_L_35 cv_X9_line rfl rfl (Nat.le_refl _) (Nat.le_of_ble_eq_true rfl) dL_law_233 h ?_
        intro r M45 h
        obtain ⟨z46, rfl, r47, h⟩ := h
        have h := h r47
        refine Wa_icmp_eq (tgt := 704) dL_law_236 (by decide) r41 r47 (fun c48 => ?_) (fun c48 => ?_)
        · have h := h.1 c48
          refine Wa_iinc (ls' := [(3, vI (l3 + 4)), (0, vR 108), (1, vR 0), (2, vR 88)]) 3 dL_law_704 rfl (by decide) rfl ?_
          refine Wa_goto (tgt := 18) dL_law_707 (by decide) ?_
          refine Wa_sub [1, 2, 3, 0] rfl ?_
          exact h
        · have h := h.2 c48
          refine Wa_iconst (z := 0) dL_law_239 ?_
          exact Wa_zreturn dL_law_240 rfl (by decide) ⟨_, rfl, rg_bool (by decide), h⟩
      · have h := h.2.2.2.2.2.1 c5
        refine Wa_tabIn (tgt := 241) dL_law_32 (rg_toInt _) (by omega) (by omega) (by rw [c5]; rfl) (by decide) ?_
        refine Wa_aload_n 1 dL_law_241 rfl rfl ?_
        refine Wa_aload_n 0 dL_law_242 rfl rfl ?_
        refine Wa_iload_n 3 dL_law_243 rfl rfl ?_
        refine Wa_iconst (z := 1) dL_law_244 ?_
        refine Wa_iadd dL_law_245 ?_
        obtain ⟨b49, h⟩ := h
        obtain ⟨hL, h⟩ := h
        refine Wa_sld b49 hL dL_law_246 ?_
        refine Wa_aload_n 0 dL_law_247 rfl rfl ?_
        refine Wa_iload_n 3 dL_law_248 rfl rfl ?_
        refine Wa_iconst (z := 2) dL_law_249 ?_
        refine Wa_iadd dL_law_250 ?_
        obtain ⟨b50, h⟩ := h
        obtain ⟨hL, h⟩ := h
        refine Wa_sld b50 hL dL_law_251 ?_
        refine Wa_callV [vI (gxs g ((l3 + 1)).toNat).toInt, vI (gxs g ((l3 + 2)).toNat).toInt] _ cf_X8 rfl k_0 lc_L_36 cv_X8_step rfl rfl (Nat.le_refl _) (Nat.le_of_ble_eq_true rfl) dL_law_252 h ?_
        intro r M51 h
        obtain ⟨z52, rfl, r53, h⟩ := h
        have h := h r53
        refine Wa_aload_n 2 dL_law_255 rfl rfl ?_
        refine Wa_aload_n 0 dL_law_256 rfl rfl ?_
        refine Wa_iload_n 3 dL_law_257 rfl rfl ?_
        refine Wa_iconst (z := 1) dL_law_258 ?_
        refine Wa_iadd dL_law_259 ?_
        obtain ⟨b54, h⟩ := h
        obtain ⟨hL, h⟩ := h
        refine Wa_sld b54 hL dL_law_260 ?_
        refine Wa_aload_n 0 dL_law_261 rfl rfl ?_
        refine Wa_iload_n 3 dL_law_262 rfl rfl ?_
        refine Wa_iconst (z := 2) dL_law_263 ?_
        refine Wa_iadd dL_law_264 ?_
        obtain ⟨b55, h⟩ := h
        obtain ⟨hL, h⟩ := h
        refine Wa_sld b55 hL dL_law_265 ?_
        refine Wa_callV [vI (gxs g ((l3 + 1)).toNat).toInt, vI (gxs g ((l3 + 2)).toNat).toInt] _ cf_X9 rfl k_88 lc_L_40 cv_X9_step rfl rfl (Nat.le_refl _) (Nat.le_of_ble_eq_true rfl) dL_law_266 h ?_
        intro r M56 h
        obtain ⟨z57, rfl, r58, h⟩ := h
        have h := h r58
        refine Wa_icmp_eq (tgt := 704) dL_law_269 (by decide) r53 r58 (fun c59 => ?_) (fun c59 => ?_)
        · have h := h.1 c59
          refine Wa_iinc (ls' := [(3, vI (l3 + 4)), (0, vR 108), (1, vR 0), (2, vR 88)]) 3 dL_law_704 rfl (by decide) rfl ?_
          refine Wa_goto (tgt := 18) dL_law_707 (by decide) ?_
          refine Wa_sub [1, 2, 3, 0] rfl ?_
          exact h
        · have h := h.2 c59
          refine Wa_iconst (z := 0) dL_law_272 ?_
          exact Wa_zreturn dL_law_273 rfl (by decide) ⟨_, rfl, rg_bool (by decide), h⟩
      · have h := h.2.2.2.2.2.2.1 c5
        refine Wa_tabIn (tgt := 274) dL_law_32 (rg_toInt _) (by omega) (by omega) (by rw [c5]; rfl) (by decide) ?_
        refine Wa_aload_n 1 dL_law_274 rfl rfl ?_
        refine Wa_aload_n 0 dL_law_275 rfl rfl ?_
        refine Wa_iload_n 3 dL_law_276 rfl rfl ?_
        refine Wa_iconst (z := 1) dL_law_277 ?_
        refine Wa_iadd dL_law_278 ?_
        obtain ⟨b60, h⟩ := h
        obtain ⟨hL, h⟩ := h
        refine Wa_sld b60 hL dL_law_279 ?_
        refine Wa_aload_n 0 dL_law_280 rfl rfl ?_
        refine Wa_iload_n 3 dL_law_281 rfl rfl ?_
        refine Wa_iconst (z := 2) dL_law_282 ?_
        refine Wa_iadd dL_law_283 ?_
        obtain ⟨b61, h⟩ := h
        obtain ⟨hL, h⟩ := h
        refine Wa_sld b61 hL dL_law_284 ?_
        refine Wa_callV [vI (gxs g ((l3 + 1)).toNat).toInt, vI (gxs g ((l3 + 2)).toNat).toInt] _ cf_X8 rfl k_0 lc_L_41 cv_X8_letters rfl rfl (Nat.le_refl _) (Nat.le_of_ble_eq_true rfl) dL_law_285 h ?_
        intro r M62 h
        obtain ⟨z63, rfl, r64, h⟩ := h
        have h := h r64
        refine Wa_aload_n 2 dL_law_288 rfl rfl ?_
        refine Wa_aload_n 0 dL_law_289 rfl rfl ?_
        refine Wa_iload_n 3 dL_law_290 rfl rfl ?_
        refine Wa_iconst (z := 1) dL_law_291 ?_
        refine Wa_iadd dL_law_292 ?_
        obtain ⟨b65, h⟩ := h
        obtain ⟨hL, h⟩ := h
        refine Wa_sld b65 hL dL_law_293 ?_
        refine Wa_aload_n 0 dL_law_294 rfl rfl ?_
        refine Wa_iload_n 3 dL_law_295 rfl rfl ?_
        refine Wa_iconst (z := 2) dL_law_296 ?_
        refine Wa_iadd dL_law_297 ?_
        obtain ⟨b66, h⟩ := h
        obtain ⟨hL, h⟩ := h
        refine Wa_sld b66 hL dL_law_298 ?_
        refine Wa_callV [vI (gxs g ((l3 + 1)).toNat).toInt, vI (gxs g ((l3 + 2)).toNat).toInt] _ cf_X9 rfl k_88 lc_L_44 cv_X9_letters rfl rfl (Nat.le_refl _) (Nat.le_of_ble_eq_true rfl) dL_law_299 h ?_
        intro r M67 h
        obtain ⟨z68, rfl, r69, h⟩ := h
        have h := h r69
        refine Wa_icmp_eq (tgt := 704) dL_law_302 (by decide) r64 r69 (fun c70 => ?_) (fun c70 => ?_)
        · have h := h.1 c70
          refine Wa_iinc (ls' := [(3, vI (l3 + 4)), (0, vR 108), (1, vR 0), (2, vR 88)]) 3 dL_law_704 rfl (by decide) rfl ?_
          refine Wa_goto (tgt := 18) dL_law_707 (by decide) ?_
          refine Wa_sub [1, 2, 3, 0] rfl ?_
          exact h
        · have h := h.2 c70
          refine Wa_iconst (z := 0) dL_law_305 ?_
          exact Wa_zreturn dL_law_306 rfl (by decide) ⟨_, rfl, rg_bool (by decide), h⟩
      · have h := h.2.2.2.2.2.2.2.1 c5
        refine Wa_tabIn (tgt := 307) dL_law_32 (rg_toInt _) (by omega) (by omega) (by rw [c5]; rfl) (by decide) ?_
        refine Wa_aload_n 1 dL_law_307 rfl rfl ?_
        refine Wa_aload_n 0 dL_law_308 rfl rfl ?_
        refine Wa_iload_n 3 dL_law_309 rfl rfl ?_
        refine Wa_iconst (z := 1) dL_law_310 ?_
        refine Wa_iadd dL_law_311 ?_
        obtain ⟨b71, h⟩ := h
        obtain ⟨hL, h⟩ := h
        refine Wa_sld b71 hL dL_law_312 ?_
        refine Wa_aload_n 0 dL_law_313 rfl rfl ?_
        refine Wa_iload_n 3 dL_law_314 rfl rfl ?_
        refine Wa_iconst (z := 2) dL_law_315 ?_
        refine Wa_iadd dL_law_316 ?_
        obtain ⟨b72, h⟩ := h
        obtain ⟨hL, h⟩ := h
        refine Wa_sld b72 hL dL_law_317 ?_
        refine Wa_callV [vI (gxs g ((l3 + 1)).toNat).toInt, vI (gxs g ((l3 + 2)).toNat).toInt] _ cf_X8 rfl k_0 lc_L_45 cv_X8_like rfl rfl (Nat.le_refl _) (Nat.le_of_ble_eq_true rfl) dL_law_318 h ?_
        intro r M73 h
        obtain ⟨z74, rfl, r75, h⟩ := h
        have h := h r75
        refine Wa_aload_n 2 dL_law_321 rfl rfl ?_
        refine Wa_aload_n 0 dL_law_322 rfl rfl ?_
        refine Wa_iload_n 3 dL_law_323 rfl rfl ?_
        refine Wa_iconst (z := 1) dL_law_324 ?_
        refine Wa_iadd dL_law_325 ?_
        obtain ⟨b76, h⟩ := h
        obtain ⟨hL, h⟩ := h
        refine Wa_sld b76 hL dL_law_326 ?_
        refine Wa_aload_n 0 dL_law_327 rfl rfl ?_
        refine Wa_iload_n 3 dL_law_328 rfl rfl ?_
        refine Wa_iconst (z := 2) dL_law_329 ?_
        refine Wa_iadd dL_law_330 ?_
        obtain ⟨b77, h⟩ := h
        obtain ⟨hL, h⟩ := h
        refine Wa_sld b77 hL dL_law_331 ?_
        refine Wa_callV [vI (gxs g ((l3 + 1)).toNat).toInt, vI (gxs g ((l3 + 2)).toNat).toInt] _ cf_X9 rfl k_88 lc_L_48 cv_X9_like rfl rfl (Nat.le_refl _) (Nat.le_of_ble_eq_true rfl) dL_law_332 h ?_
        intro r M78 h
        obtain ⟨z79, rfl, r80, h⟩ := h
        have h := h r80
        refine Wa_icmp_eq (tgt := 704) dL_law_335 (by decide) r75 r80 (fun c81 => ?_) (fun c81 => ?_)
        · have h := h.1 c81
          refine Wa_iinc (ls' := [(3, vI (l3 + 4)), (0, vR 108), (1, vR 0), (2, vR 88)]) 3 dL_law_704 rfl (by decide) rfl ?_
          refine Wa_goto (tgt := 18) dL_law_707 (by decide) ?_
          refine Wa_sub [1, 2, 3, 0] rfl ?_
          exact h
        · have h := h.2 c81
          refine Wa_iconst (z := 0) dL_law_338 ?_
          exact Wa_zreturn dL_law_339 rfl (by decide) ⟨_, rfl, rg_bool (by decide), h⟩
      · have h := h.2.2.2.2.2.2.2.2.1 c5
        refine Wa_tabIn (tgt := 340) dL_law_32 (rg_toInt _) (by omega) (by omega) (by rw [c5]; rfl) (by decide) ?_
        refine Wa_aload_n 1 dL_law_340 rfl rfl ?_
        refine Wa_aload_n 0 dL_law_341 rfl rfl ?_
        refine Wa_iload_n 3 dL_law_342 rfl rfl ?_
        refine Wa_iconst (z := 1) dL_law_343 ?_
        refine Wa_iadd dL_law_344 ?_
        obtain ⟨b82, h⟩ := h
        obtain ⟨hL, h⟩ := h
        refine Wa_sld b82 hL dL_law_345 ?_
        refine Wa_aload_n 0 dL_law_346 rfl rfl ?_
        refine Wa_iload_n 3 dL_law_347 rfl rfl ?_
        refine Wa_iconst (z := 2) dL_law_348 ?_
        refine Wa_iadd dL_law_349 ?_
        obtain ⟨b83, h⟩ := h
        obtain ⟨hL, h⟩ := h
        refine Wa_sld b83 hL dL_law_350 ?_
        refine Wa_callV [vI (gxs g ((l3 + 1)).toNat).toInt, vI (gxs g ((l3 + 2)).toNat).toInt] _ cf_X8 rfl k_0 lc_L_49 cv_X8_rack rfl rfl (Nat.le_refl _) (Nat.le_of_ble_eq_true rfl) dL_law_351 h ?_
        intro r M84 h
        obtain ⟨z85, rfl, r86, h⟩ := h
        have h := h r86
        refine Wa_aload_n 2 dL_law_354 rfl rfl ?_
        refine Wa_aload_n 0 dL_law_355 rfl rfl ?_
        refine Wa_iload_n 3 dL_law_356 rfl rfl ?_
        refine Wa_iconst (z := 1) dL_law_357 ?_
        refine Wa_iadd dL_law_358 ?_
        obtain ⟨b87, h⟩ := h
        obtain ⟨hL, h⟩ := h
        refine Wa_sld b87 hL dL_law_359 ?_
        refine Wa_aload_n 0 dL_law_360 rfl rfl ?_
        refine Wa_iload_n 3 dL_law_361 rfl rfl ?_
        refine Wa_iconst (z := 2) dL_law_362 ?_
        refine Wa_iadd dL_law_363 ?_
        obtain ⟨b88, h⟩ := h
        obtain ⟨hL, h⟩ := h
        refine Wa_sld b88 hL dL_law_364 ?_
        refine Wa_callV [vI (gxs g ((l3 + 1)).toNat).toInt, vI (gxs g ((l3 + 2)).toNat).toInt] _ cf_X9 rfl k_88 lc_L_52 cv_X9_rack rfl rfl (Nat.le_refl _) (Nat.le_of_ble_eq_true rfl) dL_law_365 h ?_
        intro r M89 h
        obtain ⟨z90, rfl, r91, h⟩ := h
        have h := h r91
        refine Wa_icmp_eq (tgt := 704) dL_law_368 (by decide) r86 r91 (fun c92 => ?_) (fun c92 => ?_)
        · have h := h.1 c92
          refine Wa_iinc (ls' := [(3, vI (l3 + 4)), (0, vR 108), (1, vR 0), (2, vR 88)]) 3 dL_law_704 rfl (by decide) rfl ?_
          refine Wa_goto (tgt := 18) dL_law_707 (by decide) ?_
          refine Wa_sub [1, 2, 3, 0] rfl ?_
          exact h
        · have h := h.2 c92
          refine Wa_iconst (z := 0) dL_law_371 ?_
          exact Wa_zreturn dL_law_372 rfl (by decide) ⟨_, rfl, rg_bool (by decide), h⟩
      · have h := h.2.2.2.2.2.2.2.2.2.1 c5
        refine Wa_tabIn (tgt := 373) dL_law_32 (rg_toInt _) (by omega) (by omega) (by rw [c5]; rfl) (by decide) ?_
        refine Wa_aload_n 1 dL_law_373 rfl rfl ?_
        refine Wa_aload_n 0 dL_law_374 rfl rfl ?_
        refine Wa_iload_n 3 dL_law_375 rfl rfl ?_
        refine Wa_iconst (z := 1) dL_law_376 ?_
        refine Wa_iadd dL_law_377 ?_
        obtain ⟨b93, h⟩ := h
        obtain ⟨hL, h⟩ := h
        refine Wa_sld b93 hL dL_law_378 ?_
        refine Wa_aload_n 0 dL_law_379 rfl rfl ?_
        refine Wa_iload_n 3 dL_law_380 rfl rfl ?_
        refine Wa_iconst (z := 2) dL_law_381 ?_
        refine Wa_iadd dL_law_382 ?_
        obtain ⟨b94, h⟩ := h
        obtain ⟨hL, h⟩ := h
        refine Wa_sld b94 hL dL_law_383 ?_
        refine Wa_callV [vI (gxs g ((l3 + 1)).toNat).toInt, vI (gxs g ((l3 + 2)).toNat).toInt] _ cf_X8 rfl k_0 lc_L_53 cv_X8_racked rfl rfl (Nat.le_refl _) (Nat.le_of_ble_eq_true rfl) dL_law_384 h ?_
        intro r M95 h
        obtain ⟨z96, rfl, r97, h⟩ := h
        have h := h r97
        refine Wa_aload_n 2 dL_law_387 rfl rfl ?_
        refine Wa_aload_n 0 dL_law_388 rfl rfl ?_
        refine Wa_iload_n 3 dL_law_389 rfl rfl ?_
        refine Wa_iconst (z := 1) dL_law_390 ?_
        refine Wa_iadd dL_law_391 ?_
        obtain ⟨b98, h⟩ := h
        obtain ⟨hL, h⟩ := h
        refine Wa_sld b98 hL dL_law_392 ?_
        refine Wa_aload_n 0 dL_law_393 rfl rfl ?_
        refine Wa_iload_n 3 dL_law_394 rfl rfl ?_
        refine Wa_iconst (z := 2) dL_law_395 ?_
        refine Wa_iadd dL_law_396 ?_
        obtain ⟨b99, h⟩ := h
        obtain ⟨hL, h⟩ := h
        refine Wa_sld b99 hL dL_law_397 ?_
        refine Wa_callV [vI (gxs g ((l3 + 1)).toNat).toInt, vI (gxs g ((l3 + 2)).toNat).toInt] _ cf_X9 rfl k_88 lc_L_56 cv_X9_racked rfl rfl (Nat.le_refl _) (Nat.le_of_ble_eq_true rfl) dL_law_398 h ?_
        intro r M100 h
        obtain ⟨z101, rfl, r102, h⟩ := h
        have h := h r102
        refine Wa_icmp_eq (tgt := 704) dL_law_401 (by decide) r97 r102 (fun c103 => ?_) (fun c103 => ?_)
        · have h := h.1 c103
          refine Wa_iinc (ls' := [(3, vI (l3 + 4)), (0, vR 108), (1, vR 0), (2, vR 88)]) 3 dL_law_704 rfl (by decide) rfl ?_
          refine Wa_goto (tgt := 18) dL_law_707 (by decide) ?_
          refine Wa_sub [1, 2, 3, 0] rfl ?_
          exact h
        · have h := h.2 c103
          refine Wa_iconst (z := 0) dL_law_404 ?_
          exact Wa_zreturn dL_law_405 rfl (by decide) ⟨_, rfl, rg_bool (by decide), h⟩
      · have h := h.2.2.2.2.2.2.2.2.2.2.1 c5
        refine Wa_tabIn (tgt := 406) dL_law_32 (rg_toInt _) (by omega) (by omega) (by rw [c5]; rfl) (by decide) ?_
        refine Wa_aload_n 1 dL_law_406 rfl rfl ?_
        refine Wa_aload_n 0 dL_law_407 rfl rfl ?_
        refine Wa_iload_n 3 dL_law_408 rfl rfl ?_
        refine Wa_iconst (z := 1) dL_law_409 ?_
        refine Wa_iadd dL_law_410 ?_
        obtain ⟨b104, h⟩ := h
        obtain ⟨hL, h⟩ := h
        refine Wa_sld b104 hL dL_law_411 ?_
        refine Wa_aload_n 0 dL_law_412 rfl rfl ?_
        refine Wa_iload_n 3 dL_law_413 rfl rfl ?_
        refine Wa_iconst (z := 2) dL_law_414 ?_
        refine Wa_iadd dL_law_415 ?_
        obtain ⟨b105, h⟩ := h
        obtain ⟨hL, h⟩ := h
        refine Wa_sld b105 hL dL_law_416 ?_
        refine Wa_aload_n 0 dL_law_417 rfl rfl ?_
        refine Wa_iload_n 3 dL_law_418 rfl rfl ?_
        refine Wa_iconst (z := 3) dL_law_419 ?_
        refine Wa_iadd dL_law_420 ?_
        obtain ⟨b106, h⟩ := h
        obtain ⟨hL, h⟩ := h
        refine Wa_sld b106 hL dL_law_421 ?_
        refine Wa_callV [vI (gxs g ((l3 + 1)).toNat).toInt, vI (gxs g ((l3 + 2)).toNat).toInt, vI (gxs g ((l3 + 3)).toNat).toInt] _ cf_X8 rfl k_0 lc_L_57 cv_X8_put rfl rfl (Nat.le_refl _) (Nat.le_of_ble_eq_true rfl) dL_law_422 h ?_
        intro r M107 h
        obtain ⟨z108, rfl, r109, h⟩ := h
        have h := h r109
        refine Wa_aload_n 2 dL_law_425 rfl rfl ?_
        refine Wa_aload_n 0 dL_law_426 rfl rfl ?_
        refine Wa_iload_n 3 dL_law_427 rfl rfl ?_
        refine Wa_iconst (z := 1) dL_law_428 ?_
        refine Wa_iadd dL_law_429 ?_
        obtain ⟨b110, h⟩ := h
        obtain ⟨hL, h⟩ := h
        refine Wa_sld b110 hL dL_law_430 ?_
        refine Wa_aload_n 0 dL_law_431 rfl rfl ?_
        refine Wa_iload_n 3 dL_law_432 rfl rfl ?_
        refine Wa_iconst (z := 2) dL_law_433 ?_
        refine Wa_iadd dL_law_434 ?_
        obtain ⟨b111, h⟩ := h
        obtain ⟨hL, h⟩ := h
        refine Wa_sld b111 hL dL_law_435 ?_
        refine Wa_aload_n 0 dL_law_436 rfl rfl ?_
        refine Wa_iload_n 3 dL_law_437 rfl rfl ?_
        refine Wa_iconst (z := 3) dL_law_438 ?_
        refine Wa_iadd dL_law_439 ?_
        obtain ⟨b112, h⟩ := h
        obtain ⟨hL, h⟩ := h
        refine Wa_sld b112 hL dL_law_440 ?_
        refine Wa_callV [vI (gxs g ((l3 + 1)).toNat).toInt, vI (gxs g ((l3 + 2)).toNat).toInt, vI (gxs g ((l3 + 3)).toNat).toInt] _ cf_X9 rfl k_88 lc_L_60 cv_X9_put rfl rfl (Nat.le_refl _) (Nat.le_of_ble_eq_true rfl) dL_law_441 h ?_
        intro r M113 h
        obtain ⟨z114, rfl, r115, h⟩ := h
        have h := h r115
        refine Wa_icmp_eq (tgt := 704) dL_law_444 (by decide) r109 r115 (fun c116 => ?_) (fun c116 => ?_)
        · have h := h.1 c116
          refine Wa_iinc (ls' := [(3, vI (l3 + 4)), (0, vR 108), (1, vR 0), (2, vR 88)]) 3 dL_law_704 rfl (by decide) rfl ?_
          refine Wa_goto (tgt := 18) dL_law_707 (by decide) ?_
          refine Wa_sub [1, 2, 3, 0] rfl ?_
          exact h
        · have h := h.2 c116
          refine Wa_iconst (z := 0) dL_law_447 ?_
          exact Wa_zreturn dL_law_448 rfl (by decide) ⟨_, rfl, rg_bool (by decide), h⟩
      · have h := h.2.2.2.2.2.2.2.2.2.2.2.1 c5
        refine Wa_tabIn (tgt := 449) dL_law_32 (rg_toInt _) (by omega) (by omega) (by rw [c5]; rfl) (by decide) ?_
        refine Wa_aload_n 1 dL_law_449 rfl rfl ?_
        refine Wa_aload_n 0 dL_law_450 rfl rfl ?_
        refine Wa_iload_n 3 dL_law_451 rfl rfl ?_
        refine Wa_iconst (z := 1) dL_law_452 ?_
        refine Wa_iadd dL_law_453 ?_
        obtain ⟨b117, h⟩ := h
        obtain ⟨hL, h⟩ := h
        refine Wa_sld b117 hL dL_law_454 ?_
        refine Wa_aload_n 0 dL_law_455 rfl rfl ?_
        refine Wa_iload_n 3 dL_law_456 rfl rfl ?_
        refine Wa_iconst (z := 2) dL_law_457 ?_
        refine Wa_iadd dL_law_458 ?_
        obtain ⟨b118, h⟩ := h
        obtain ⟨hL, h⟩ := h
        refine Wa_sld b118 hL dL_law_459 ?_
        refine Wa_callV [vI (gxs g ((l3 + 1)).toNat).toInt, vI (gxs g ((l3 + 2)).toNat).toInt] _ cf_X8 rfl k_0 lc_L_61 cv_X8_take rfl rfl (Nat.le_refl _) (Nat.le_of_ble_eq_true rfl) dL_law_460 h ?_
        intro r M119 h
        obtain ⟨z120, rfl, r121, h⟩ := h
        have h := h r121
        refine Wa_aload_n 2 dL_law_463 rfl rfl ?_
        refine Wa_aload_n 0 dL_law_464 rfl rfl ?_
        refine Wa_iload_n 3 dL_law_465 rfl rfl ?_
        refine Wa_iconst (z := 1) dL_law_466 ?_
        refine Wa_iadd dL_law_467 ?_
        obtain ⟨b122, h⟩ := h
        obtain ⟨hL, h⟩ := h
        refine Wa_sld b122 hL dL_law_468 ?_
        refine Wa_aload_n 0 dL_law_469 rfl rfl ?_
        refine Wa_iload_n 3 dL_law_470 rfl rfl ?_
        refine Wa_iconst (z := 2) dL_law_471 ?_
        refine Wa_iadd dL_law_472 ?_
        obtain ⟨b123, h⟩ := h
        obtain ⟨hL, h⟩ := h
        refine Wa_sld b123 hL dL_law_473 ?_
        refine Wa_callV [vI (gxs g ((l3 + 1)).toNat).toInt, vI (gxs g ((l3 + 2)).toNat).toInt] _ cf_X9 rfl k_88 lc_L_64 cv_X9_take rfl rfl (Nat.le_refl _) (Nat.le_of_ble_eq_true rfl) dL_law_474 h ?_
        intro r M124 h
        obtain ⟨z125, rfl, r126, h⟩ := h
        have h := h r126
        refine Wa_icmp_eq (tgt := 704) dL_law_477 (by decide) r121 r126 (fun c127 => ?_) (fun c127 => ?_)
        · have h := h.1 c127
          refine Wa_iinc (ls' := [(3, vI (l3 + 4)), (0, vR 108), (1, vR 0), (2, vR 88)]) 3 dL_law_704 rfl (by decide) rfl ?_
          refine Wa_goto (tgt := 18) dL_law_707 (by decide) ?_
          refine Wa_sub [1, 2, 3, 0] rfl ?_
          exact h
        · have h := h.2 c127
          refine Wa_iconst (z := 0) dL_law_480 ?_
          exact Wa_zreturn dL_law_481 rfl (by decide) ⟨_, rfl, rg_bool (by decide), h⟩
      · have h := h.2.2.2.2.2.2.2.2.2.2.2.2.1 c5
        refine Wa_tabIn (tgt := 482) dL_law_32 (rg_toInt _) (by omega) (by omega) (by rw [c5]; rfl) (by decide) ?_
        refine Wa_aload_n 1 dL_law_482 rfl rfl ?_
        refine Wa_aload_n 0 dL_law_483 rfl rfl ?_
        refine Wa_iload_n 3 dL_law_484 rfl rfl ?_
        refine Wa_iconst (z := 1) dL_law_485 ?_
        refine Wa_iadd dL_law_486 ?_
        obtain ⟨b128, h⟩ := h
        obtain ⟨hL, h⟩ := h
        refine Wa_sld b128 hL dL_law_487 ?_
        refine Wa_aload_n 0 dL_law_488 rfl rfl ?_
        refine Wa_iload_n 3 dL_law_489 rfl rfl ?_
        refine Wa_iconst (z := 2) dL_law_490 ?_
        refine Wa_iadd dL_law_491 ?_
        obtain ⟨b129, h⟩ := h
        obtain ⟨hL, h⟩ := h
        refine Wa_sld b129 hL dL_law_492 ?_
        refine Wa_aload_n 0 dL_law_493 rfl rfl ?_
        refine Wa_iload_n 3 dL_law_494 rfl rfl ?_
        refine Wa_iconst (z := 3) dL_law_495 ?_
        refine Wa_iadd dL_law_496 ?_
        obtain ⟨b130, h⟩ := h
        obtain ⟨hL, h⟩ := h
        refine Wa_sld b130 hL dL_law_497 ?_
        refine Wa_callV [vI (gxs g ((l3 + 1)).toNat).toInt, vI (gxs g ((l3 + 2)).toNat).toInt, vI (gxs g ((l3 + 3)).toNat).toInt] _ cf_X8 rfl k_0 lc_L_65 cv_X8_swap rfl rfl (Nat.le_refl _) (Nat.le_of_ble_eq_true rfl) dL_law_498 h ?_
        intro r M131 h
        obtain ⟨z132, rfl, r133, h⟩ := h
        have h := h r133
        refine Wa_aload_n 2 dL_law_501 rfl rfl ?_
        refine Wa_aload_n 0 dL_law_502 rfl rfl ?_
        refine Wa_iload_n 3 dL_law_503 rfl rfl ?_
        refine Wa_iconst (z := 1) dL_law_504 ?_
        refine Wa_iadd dL_law_505 ?_
        obtain ⟨b134, h⟩ := h
        obtain ⟨hL, h⟩ := h
        refine Wa_sld b134 hL dL_law_506 ?_
        refine Wa_aload_n 0 dL_law_507 rfl rfl ?_
        refine Wa_iload_n 3 dL_law_508 rfl rfl ?_
        refine Wa_iconst (z := 2) dL_law_509 ?_
        refine Wa_iadd dL_law_510 ?_
        obtain ⟨b135, h⟩ := h
        obtain ⟨hL, h⟩ := h
        refine Wa_sld b135 hL dL_law_511 ?_
        refine Wa_aload_n 0 dL_law_512 rfl rfl ?_
        refine Wa_iload_n 3 dL_law_513 rfl rfl ?_
        refine Wa_iconst (z := 3) dL_law_514 ?_
        refine Wa_iadd dL_law_515 ?_
        obtain ⟨b136, h⟩ := h
        obtain ⟨hL, h⟩ := h
        refine Wa_sld b136 hL dL_law_516 ?_
        refine Wa_callV [vI (gxs g ((l3 + 1)).toNat).toInt, vI (gxs g ((l3 + 2)).toNat).toInt, vI (gxs g ((l3 + 3)).toNat).toInt] _ cf_X9 rfl k_88 lc_L_68 cv_X9_swap rfl rfl (Nat.le_refl _) (Nat.le_of_ble_eq_true rfl) dL_law_517 h ?_
        intro r M137 h
        obtain ⟨z138, rfl, r139, h⟩ := h
        have h := h r139
        refine Wa_icmp_eq (tgt := 704) dL_law_520 (by decide) r133 r139 (fun c140 => ?_) (fun c140 => ?_)
        · have h := h.1 c140
          refine Wa_iinc (ls' := [(3, vI (l3 + 4)), (0, vR 108), (1, vR 0), (2, vR 88)]) 3 dL_law_704 rfl (by decide) rfl ?_
          refine Wa_goto (tgt := 18) dL_law_707 (by decide) ?_
          refine Wa_sub [1, 2, 3, 0] rfl ?_
          exact h
        · have h := h.2 c140
          refine Wa_iconst (z := 0) dL_law_523 ?_
          exact Wa_zreturn dL_law_524 rfl (by decide) ⟨_, rfl, rg_bool (by decide), h⟩
      · have h := h.2.2.2.2.2.2.2.2.2.2.2.2.2.1 c5
        refine Wa_tabIn (tgt := 525) dL_law_32 (rg_toInt _) (by omega) (by omega) (by rw [c5]; rfl) (by decide) ?_
        refine Wa_aload_n 1 dL_law_525 rfl rfl ?_
        refine Wa_callV [] _ cf_X8 rfl k_0 lc_L_69 cv_X8_turn rfl rfl (Nat.le_refl _) (Nat.le_of_ble_eq_true rfl) dL_law_526 h ?_
        intro r M141 h
        obtain ⟨z142, rfl, r143, h⟩ := h
        have h := h r143
        refine Wa_aload_n 2 dL_law_529 rfl rfl ?_
        refine Wa_callV [] _ cf_X9 rfl k_88 lc_L_72 cv_X9_turn rfl rfl (Nat.le_refl _) (Nat.le_of_ble_eq_true rfl) dL_law_530 h ?_
        intro r M144 h
        obtain ⟨z145, rfl, r146, h⟩ := h
        have h := h r146
        refine Wa_icmp_eq (tgt := 704) dL_law_533 (by decide) r143 r146 (fun c147 => ?_) (fun c147 => ?_)
        · have h := h.1 c147
          refine Wa_iinc (ls' := [(3, vI (l3 + 4)), (0, vR 108), (1, vR 0), (2, vR 88)]) 3 dL_law_704 rfl (by decide) rfl ?_
          refine Wa_goto (tgt := 18) dL_law_707 (by decide) ?_
          refine Wa_sub [1, 2, 3, 0] rfl ?_
          exact h
        · have h := h.2 c147
          refine Wa_iconst (z := 0) dL_law_536 ?_
          exact Wa_zreturn dL_law_537 rfl (by decide) ⟨_, rfl, rg_bool (by decide), h⟩
      · have h := h.2.2.2.2.2.2.2.2.2.2.2.2.2.2.1 c5
        refine Wa_tabIn (tgt := 538) dL_law_32 (rg_toInt _) (by omega) (by omega) (by rw [c5]; rfl) (by decide) ?_
        refine Wa_aload_n 1 dL_law_538 rfl rfl ?_
        refine Wa_aload_n 0 dL_law_539 rfl rfl ?_
        refine Wa_iload_n 3 dL_law_540 rfl rfl ?_
        refine Wa_iconst (z := 1) dL_law_541 ?_
        refine Wa_iadd dL_law_542 ?_
        obtain ⟨b148, h⟩ := h
        obtain ⟨hL, h⟩ := h
        refine Wa_sld b148 hL dL_law_543 ?_
        refine Wa_callV [vI (gxs g ((l3 + 1)).toNat).toInt] _ cf_X8 rfl k_0 lc_L_73 cv_X8_cost rfl rfl (Nat.le_refl _) (Nat.le_of_ble_eq_true rfl) dL_law_544 h ?_
        intro r M149 h
        obtain ⟨z150, rfl, r151, h⟩ := h
        have h := h r151
        refine Wa_aload_n 2 dL_law_547 rfl rfl ?_
        refine Wa_aload_n 0 dL_law_548 rfl rfl ?_
        refine Wa_iload_n 3 dL_law_549 rfl rfl ?_
        refine Wa_iconst (z := 1) dL_law_550 ?_
        refine Wa_iadd dL_law_551 ?_
        obtain ⟨b152, h⟩ := h
        obtain ⟨hL, h⟩ := h
        refine Wa_sld b152 hL dL_law_552 ?_
        refine Wa_callV [vI (gxs g ((l3 + 1)).toNat).toInt] _ cf_X9 rfl k_88 lc_L_76 cv_X9_cost rfl rfl (Nat.le_refl _) (Nat.le_of_ble_eq_true rfl) dL_law_553 h ?_
        intro r M153 h
        obtain ⟨z154, rfl, r155, h⟩ := h
        have h := h r155
        refine Wa_icmp_eq (tgt := 704) dL_law_556 (by decide) r151 r155 (fun c156 => ?_) (fun c156 => ?_)
        · have h := h.1 c156
          refine Wa_iinc (ls' := [(3, vI (l3 + 4)), (0, vR 108), (1, vR 0), (2, vR 88)]) 3 dL_law_704 rfl (by decide) rfl ?_
          refine Wa_goto (tgt := 18) dL_law_707 (by decide) ?_
          refine Wa_sub [1, 2, 3, 0] rfl ?_
          exact h
        · have h := h.2 c156
          refine Wa_iconst (z := 0) dL_law_559 ?_
          exact Wa_zreturn dL_law_560 rfl (by decide) ⟨_, rfl, rg_bool (by decide), h⟩
      · have h := h.2.2.2.2.2.2.2.2.2.2.2.2.2.2.2.1 c5
        refine Wa_tabIn (tgt := 561) dL_law_32 (rg_toInt _) (by omega) (by omega) (by rw [c5]; rfl) (by decide) ?_
        refine Wa_aload_n 1 dL_law_561 rfl rfl ?_
        refine Wa_aload_n 0 dL_law_562 rfl rfl ?_
        refine Wa_iload_n 3 dL_law_563 rfl rfl ?_
        refine Wa_iconst (z := 1) dL_law_564 ?_
        refine Wa_iadd dL_law_565 ?_
        obtain ⟨b157, h⟩ := h
        obtain ⟨hL, h⟩ := h
        refine Wa_sld b157 hL dL_law_566 ?_
        refine Wa_callV [vI (gxs g ((l3 + 1)).toNat).toInt] _ cf_X8 rfl k_0 lc_L_77 cv_X8_best rfl rfl (Nat.le_refl _) (Nat.le_of_ble_eq_true rfl) dL_law_567 h ?_
        intro r M158 h
        obtain ⟨z159, rfl, r160, h⟩ := h
        have h := h r160
        refine Wa_aload_n 2 dL_law_570 rfl rfl ?_
        refine Wa_aload_n 0 dL_law_571 rfl rfl ?_
        refine Wa_iload_n 3 dL_law_572 rfl rfl ?_
        refine Wa_iconst (z := 1) dL_law_573 ?_
        refine Wa_iadd dL_law_574 ?_
        obtain ⟨b161, h⟩ := h
        obtain ⟨hL, h⟩ := h
        refine Wa_sld b161 hL dL_law_575 ?_
        refine Wa_callV [vI (gxs g ((l3 + 1)).toNat).toInt] _ cf_X9 rfl k_88 lc_L_80 cv_X9_best rfl rfl (Nat.le_refl _) (Nat.le_of_ble_eq_true rfl) dL_law_576 h ?_
        intro r M162 h
        obtain ⟨z163, rfl, r164, h⟩ := h
        have h := h r164
        refine Wa_icmp_eq (tgt := 704) dL_law_579 (by decide) r160 r164 (fun c165 => ?_) (fun c165 => ?_)
        · have h := h.1 c165
          refine Wa_iinc (ls' := [(3, vI (l3 + 4)), (0, vR 108), (1, vR 0), (2, vR 88)]) 3 dL_law_704 rfl (by decide) rfl ?_
          refine Wa_goto (tgt := 18) dL_law_707 (by decide) ?_
          refine Wa_sub [1, 2, 3, 0] rfl ?_
          exact h
        · have h := h.2 c165
          refine Wa_iconst (z := 0) dL_law_582 ?_
          exact Wa_zreturn dL_law_583 rfl (by decide) ⟨_, rfl, rg_bool (by decide), h⟩
      · have h := h.2.2.2.2.2.2.2.2.2.2.2.2.2.2.2.2.1 c5
        refine Wa_tabIn (tgt := 584) dL_law_32 (rg_toInt _) (by omega) (by omega) (by rw [c5]; rfl) (by decide) ?_
        refine Wa_aload_n 1 dL_law_584 rfl rfl ?_
        refine Wa_callV [] _ cf_X8 rfl k_0 lc_L_81 cv_X8_all rfl rfl (Nat.le_refl _) (Nat.le_of_ble_eq_true rfl) dL_law_585 h ?_
        intro r M166 h
        obtain ⟨z167, rfl, h⟩ := h
        refine Wa_aload_n 2 dL_law_588 rfl rfl ?_
        refine Wa_callV [] _ cf_X9 rfl k_88 lc_L_85 cv_X9_all rfl rfl (Nat.le_refl _) (Nat.le_of_ble_eq_true rfl) dL_law_589 h ?_
        intro r M169 h
        obtain ⟨z170, rfl, h⟩ := h
        refine Wa_lcmp dL_law_592 ?_
        refine Wa_if_eq (tgt := 704) dL_law_593 (by decide) (rg_toInt _) (fun c172 => ?_) (fun c172 => ?_)
        · have h := h.1 c172
          refine Wa_iinc (ls' := [(3, vI (l3 + 4)), (0, vR 108), (1, vR 0), (2, vR 88)]) 3 dL_law_704 rfl (by decide) rfl ?_
          refine Wa_goto (tgt := 18) dL_law_707 (by decide) ?_
          refine Wa_sub [1, 2, 3, 0] rfl ?_
          exact h
        · have h := h.2 c172
          refine Wa_iconst (z := 0) dL_law_596 ?_
          exact Wa_zreturn dL_law_597 rfl (by decide) ⟨_, rfl, rg_bool (by decide), h⟩
      · have h := h.2.2.2.2.2.2.2.2.2.2.2.2.2.2.2.2.2.1 c5
        refine Wa_tabIn (tgt := 598) dL_law_32 (rg_toInt _) (by omega) (by omega) (by rw [c5]; rfl) (by decide) ?_
        refine Wa_aload_n 1 dL_law_598 rfl rfl ?_
        refine Wa_aload_n 0 dL_law_599 rfl rfl ?_
        refine Wa_iload_n 3 dL_law_600 rfl rfl ?_
        refine Wa_iconst (z := 1) dL_law_601 ?_
        refine Wa_iadd dL_law_602 ?_
        obtain ⟨b173, h⟩ := h
        obtain ⟨hL, h⟩ := h
        refine Wa_sld b173 hL dL_law_603 ?_
        refine Wa_aload_n 0 dL_law_604 rfl rfl ?_
        refine Wa_iload_n 3 dL_law_605 rfl rfl ?_
        refine Wa_iconst (z := 2) dL_law_606 ?_
        refine Wa_iadd dL_law_607 ?_
        obtain ⟨b174, h⟩ := h
        obtain ⟨hL, h⟩ := h
        refine Wa_sld b174 hL dL_law_608 ?_
        refine Wa_aload_n 0 dL_law_609 rfl rfl ?_
        refine Wa_iload_n 3 dL_law_610 rfl rfl ?_
        refine Wa_iconst (z := 3) dL_law_611 ?_
        refine Wa_iadd dL_law_612 ?_
        obtain ⟨b175, h⟩ := h
        obtain ⟨hL, h⟩ := h
        refine Wa_sld b175 hL dL_law_613 ?_
        refine Wa_callV [vI (gxs g ((l3 + 1)).toNat).toInt, vI (gxs g ((l3 + 2)).toNat).toInt, vI (gxs g ((l3 + 3)).toNat).toInt] _ cf_X8 rfl k_0 lc_L_86 cv_X8_drawn rfl rfl (Nat.le_refl _) (Nat.le_of_ble_eq_true rfl) dL_law_614 h ?_
        intro r M176 h
        obtain ⟨z177, rfl, r178, h⟩ := h
        have h := h r178
        refine Wa_aload_n 2 dL_law_617 rfl rfl ?_
        refine Wa_aload_n 0 dL_law_618 rfl rfl ?_
        refine Wa_iload_n 3 dL_law_619 rfl rfl ?_
        refine Wa_iconst (z := 1) dL_law_620 ?_
        refine Wa_iadd dL_law_621 ?_
        obtain ⟨b179, h⟩ := h
        obtain ⟨hL, h⟩ := h
        refine Wa_sld b179 hL dL_law_622 ?_
        refine Wa_aload_n 0 dL_law_623 rfl rfl ?_
        refine Wa_iload_n 3 dL_law_624 rfl rfl ?_
        refine Wa_iconst (z := 2) dL_law_625 ?_
        refine Wa_iadd dL_law_626 ?_
        obtain ⟨b180, h⟩ := h
        obtain ⟨hL, h⟩ := h
        refine Wa_sld b180 hL dL_law_627 ?_
        refine Wa_aload_n 0 dL_law_628 rfl rfl ?_
        refine Wa_iload_n 3 dL_law_629 rfl rfl ?_
        refine Wa_iconst (z := 3) dL_law_630 ?_
        refine Wa_iadd dL_law_631 ?_
        obtain ⟨b181, h⟩ := h
        obtain ⟨hL, h⟩ := h
        refine Wa_sld b181 hL dL_law_632 ?_
        refine Wa_callV [vI (gxs g ((l3 + 1)).toNat).toInt, vI (gxs g ((l3 + 2)).toNat).toInt, vI (gxs g ((l3 + 3)).toNat).toInt] _ cf_X9 rfl k_88 lc_L_89 cv_X9_drawn rfl rfl (Nat.le_refl _) (Nat.le_of_ble_eq_true rfl) dL_law_633 h ?_
        intro r M182 h
        obtain ⟨z183, rfl, r184, h⟩ := h
        have h := h r184
        refine Wa_icmp_eq (tgt := 704) dL_law_636 (by decide) r178 r184 (fun c185 => ?_) (fun c185 => ?_)
        · have h := h.1 c185
          refine Wa_iinc (ls' := [(3, vI (l3 + 4)), (0, vR 108), (1, vR 0), (2, vR 88)]) 3 dL_law_704 rfl (by decide) rfl ?_
          refine Wa_goto (tgt := 18) dL_law_707 (by decide) ?_
          refine Wa_sub [1, 2, 3, 0] rfl ?_
          exact h
        · have h := h.2 c185
          refine Wa_iconst (z := 0) dL_law_639 ?_
          exact Wa_zreturn dL_law_640 rfl (by decide) ⟨_, rfl, rg_bool (by decide), h⟩
      · have h := h.2.2.2.2.2.2.2.2.2.2.2.2.2.2.2.2.2.2.1 c5
        refine Wa_tabIn (tgt := 641) dL_law_32 (rg_toInt _) (by omega) (by omega) (by rw [c5]; rfl) (by decide) ?_
        refine Wa_aload_n 1 dL_law_641 rfl rfl ?_
        refine Wa_callV [] _ cf_X8 rfl k_0 lc_L_90 cv_X8_image rfl rfl (Nat.le_refl _) (Nat.le_of_ble_eq_true rfl) dL_law_642 h ?_
        intro r M186 h
        obtain ⟨z187, rfl, r188, h⟩ := h
        have h := h r188
        refine Wa_aload_n 2 dL_law_645 rfl rfl ?_
        refine Wa_callV [] _ cf_X9 rfl k_88 lc_L_93 cv_X9_image rfl rfl (Nat.le_refl _) (Nat.le_of_ble_eq_true rfl) dL_law_646 h ?_
        intro r M189 h
        obtain ⟨z190, rfl, r191, h⟩ := h
        have h := h r191
        refine Wa_icmp_eq (tgt := 704) dL_law_649 (by decide) r188 r191 (fun c192 => ?_) (fun c192 => ?_)
        · have h := h.1 c192
          refine Wa_iinc (ls' := [(3, vI (l3 + 4)), (0, vR 108), (1, vR 0), (2, vR 88)]) 3 dL_law_704 rfl (by decide) rfl ?_
          refine Wa_goto (tgt := 18) dL_law_707 (by decide) ?_
          refine Wa_sub [1, 2, 3, 0] rfl ?_
          exact h
        · have h := h.2 c192
          refine Wa_iconst (z := 0) dL_law_652 ?_
          exact Wa_zreturn dL_law_653 rfl (by decide) ⟨_, rfl, rg_bool (by decide), h⟩
      · have h := h.2.2.2.2.2.2.2.2.2.2.2.2.2.2.2.2.2.2.2.1 c5
        refine Wa_tabIn (tgt := 654) dL_law_32 (rg_toInt _) (by omega) (by omega) (by rw [c5]; rfl) (by decide) ?_
        refine Wa_aload_n 1 dL_law_654 rfl rfl ?_
        refine Wa_callV [] _ cf_X8 rfl k_0 lc_L_94 cv_X8_restore rfl rfl (Nat.le_refl _) (Nat.le_of_ble_eq_true rfl) dL_law_655 h ?_
        intro r M193 h
        obtain ⟨z194, rfl, r195, h⟩ := h
        have h := h r195
        refine Wa_aload_n 2 dL_law_658 rfl rfl ?_
        refine Wa_callV [] _ cf_X9 rfl k_88 lc_L_97 cv_X9_restore rfl rfl (Nat.le_refl _) (Nat.le_of_ble_eq_true rfl) dL_law_659 h ?_
        intro r M196 h
        obtain ⟨z197, rfl, r198, h⟩ := h
        have h := h r198
        refine Wa_icmp_eq (tgt := 704) dL_law_662 (by decide) r195 r198 (fun c199 => ?_) (fun c199 => ?_)
        · have h := h.1 c199
          refine Wa_iinc (ls' := [(3, vI (l3 + 4)), (0, vR 108), (1, vR 0), (2, vR 88)]) 3 dL_law_704 rfl (by decide) rfl ?_
          refine Wa_goto (tgt := 18) dL_law_707 (by decide) ?_
          refine Wa_sub [1, 2, 3, 0] rfl ?_
          exact h
        · have h := h.2 c199
          refine Wa_iconst (z := 0) dL_law_665 ?_
          exact Wa_zreturn dL_law_666 rfl (by decide) ⟨_, rfl, rg_bool (by decide), h⟩
      · have h := h.2.2.2.2.2.2.2.2.2.2.2.2.2.2.2.2.2.2.2.2.1 c5
        refine Wa_tabIn (tgt := 667) dL_law_32 (rg_toInt _) (by omega) (by omega) (by rw [c5]; rfl) (by decide) ?_
        refine Wa_aload_n 1 dL_law_667 rfl rfl ?_
        refine Wa_aload_n 0 dL_law_668 rfl rfl ?_
        refine Wa_iload_n 3 dL_law_669 rfl rfl ?_
        refine Wa_iconst (z := 1) dL_law_670 ?_
        refine Wa_iadd dL_law_671 ?_
        obtain ⟨b200, h⟩ := h
        obtain ⟨hL, h⟩ := h
        refine Wa_sld b200 hL dL_law_672 ?_
        refine Wa_callV [vI (gxs g ((l3 + 1)).toNat).toInt] _ cf_X8 rfl k_0 lc_L_98 cv_X8_count rfl rfl (Nat.le_refl _) (Nat.le_of_ble_eq_true rfl) dL_law_673 h ?_
        intro r M201 h
        obtain ⟨z202, rfl, r203, h⟩ := h
        have h := h r203
        refine Wa_aload_n 2 dL_law_676 rfl rfl ?_
        refine Wa_aload_n 0 dL_law_677 rfl rfl ?_
        refine Wa_iload_n 3 dL_law_678 rfl rfl ?_
        refine Wa_iconst (z := 1) dL_law_679 ?_
        refine Wa_iadd dL_law_680 ?_
        obtain ⟨b204, h⟩ := h
        obtain ⟨hL, h⟩ := h
        refine Wa_sld b204 hL dL_law_681 ?_
        refine Wa_callV [vI (gxs g ((l3 + 1)).toNat).toInt] _ cf_X9 rfl k_88 lc_L_101 cv_X9_count rfl rfl (Nat.le_refl _) (Nat.le_of_ble_eq_true rfl) dL_law_682 h ?_
        intro r M205 h
        obtain ⟨z206, rfl, r207, h⟩ := h
        have h := h r207
        refine Wa_icmp_eq (tgt := 704) dL_law_685 (by decide) r203 r207 (fun c208 => ?_) (fun c208 => ?_)
        · have h := h.1 c208
          refine Wa_iinc (ls' := [(3, vI (l3 + 4)), (0, vR 108), (1, vR 0), (2, vR 88)]) 3 dL_law_704 rfl (by decide) rfl ?_
          refine Wa_goto (tgt := 18) dL_law_707 (by decide) ?_
          refine Wa_sub [1, 2, 3, 0] rfl ?_
          exact h
        · have h := h.2 c208
          refine Wa_iconst (z := 0) dL_law_688 ?_
          exact Wa_zreturn dL_law_689 rfl (by decide) ⟨_, rfl, rg_bool (by decide), h⟩
      · have h := h.2.2.2.2.2.2.2.2.2.2.2.2.2.2.2.2.2.2.2.2.2 c5
        refine Wa_tabIn (tgt := 690) dL_law_32 (rg_toInt _) (by omega) (by omega) (by rw [c5]; rfl) (by decide) ?_
        refine Wa_aload_n 1 dL_law_690 rfl rfl ?_
        refine Wa_callV [] _ cf_X8 rfl k_0 lc_L_102 cv_X8_digest rfl rfl (Nat.le_refl _) (Nat.le_of_ble_eq_true rfl) dL_law_691 h ?_
        intro r M209 h
        obtain ⟨z210, rfl, h⟩ := h
        refine Wa_aload_n 2 dL_law_694 rfl rfl ?_
        refine Wa_callV [] _ cf_X9 rfl k_88 lc_L_105 cv_X9_digest rfl rfl (Nat.le_refl _) (Nat.le_of_ble_eq_true rfl) dL_law_695 h ?_
        intro r M212 h
        obtain ⟨z213, rfl, h⟩ := h
        refine Wa_lcmp dL_law_698 ?_
        refine Wa_if_eq (tgt := 704) dL_law_699 (by decide) (rg_toInt _) (fun c215 => ?_) (fun c215 => ?_)
        · have h := h.1 c215
          refine Wa_iinc (ls' := [(3, vI (l3 + 4)), (0, vR 108), (1, vR 0), (2, vR 88)]) 3 dL_law_704 rfl (by decide) rfl ?_
          refine Wa_goto (tgt := 18) dL_law_707 (by decide) ?_
          refine Wa_sub [1, 2, 3, 0] rfl ?_
          exact h
        · have h := h.2 c215
          refine Wa_iconst (z := 0) dL_law_702 ?_
          exact Wa_zreturn dL_law_703 rfl (by decide) ⟨_, rfl, rg_bool (by decide), h⟩
