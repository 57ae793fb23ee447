/-! ===== text 0, the law ===== -/
section TEXT0B
def iniM (Mm : Mem) : Mem := mu (mu (mu (mu (mu (mu Mm 198 0 0) 198 33 0) 198 34 (-1)) 198 14 0) 198 27 0) 198 28 0
def finM (p1 : Int32) (a8 : Int32) (M9 : Mem) : Option (Int32 × Mem) := if a8 = (-1) then (some ((-1), mu M9 198 13 0)) else (if p1 = 0 then ((fX12_takesLaw a8 (mu M9 198 13 0)).bind fun M12 => some (a8, M12)) else ((fX12_takesOther p1 a8 (mu M9 198 13 0)).bind fun M11 => some (a8, M11)))
theorem text_m (p1 : Int32) (Mm : Mem) : fX12_text p1 Mm = if (fX12_isIn p1 0 3) = 0 then finM p1 (-1) (iniM Mm) else ((fX12_readsText p1 (iniM Mm)).bind fun r13 => if r13.1 = (-1) then finM p1 r13.1 (mu (mu r13.2 198 33 (r13.2 198 31)) 198 34 (mu r13.2 198 33 (r13.2 198 31) 198 32)) else finM p1 r13.1 r13.2) := rfl
def finC (p1 : Int32) (a6 : Int32) (M7 : Mem) : Option (Int32 × Mem) := if a6 = (-1) then (some (a6, mu M7 178 1 0)) else (if p1 = 1 then ((fX6_forget (mu M7 178 1 0)).bind fun M10 => some (a6, M10)) else (if p1 = 2 then ((fX6_forget (mu M7 178 1 0)).bind fun M10 => some (a6, M10)) else (some (a6, mu M7 178 1 0))))
def midC (p1 : Int32) (a3 : Int32) (M4 : Mem) : Option (Int32 × Mem) := if (fX11_isWithin p1 1 3) = 0 then (finC p1 a3 M4) else ((fX4_read p1 M4).bind fun r11 => if r11.1 = 0 then (finC p1 a3 r11.2) else ((fX0_linesOf p1 r11.2).bind fun q12 => if kd q12 = (3, 6) then ((fX3_copyFrom q12 190 r11.2).bind fun M13 => finC p1 (M13 q12 0) M13) else none))
theorem text_c (p1 : Int32) (Mc : Mem) : fX11_text p1 Mc = (fX8_begin Mc).bind fun M1 => if p1 = 0 then ((fX2_read M1).bind fun r15 => if r15.1 = 0 then (midC p1 (-1) r15.2) else ((fX1_copyFrom 17 181 r15.2).bind fun M16 => midC p1 (M16 17 0) M16)) else midC p1 (-1) M1 := rfl
end TEXT0B
