def Mo_keep_t0 (f : Nat → Int32 → Int32 → Int32 → Int32 → Int32 → Int32 → mS → mL → Option (Int32 × mS × mL)) (n : Nat) (x1 : Int32) (x2 : Int32) (x3 : Int32) (x4 : Int32) (x5 : Int32) (x6 : Int32) (σ : mS) (τ : mL) : Option (Int32 × mS × mL) := bnd (su σ 0 0 ((0 : Int32))) (fun s1 => (if Mo_isShelf_f (x1) = 0 then some (((-1) : Int32), s1, τ) else obd (Mo_canKeep_f n (x2) (x3) (x4) s1 τ) (fun r3 => (if r3.1 = 0 then some (((-1) : Int32), r3.2.1, r3.2.2) else (if xin (x1) 8 = true then bnd (su r3.2.1 46 (Int32.toNatClampNeg (x1)) (x2)) (fun s6 => (if (3 : Int32) ≤ x2 then (if x2 = (4 : Int32) then (if xin (x1) 8 = true then bnd (su s6 47 (Int32.toNatClampNeg (x1)) ((16 : Int32))) (fun s119 => (if x2 = (1 : Int32) then (if xin ((((12 : Int32)) * (x3)) + (x4)) 36 = true then (if xin ((((12 : Int32)) * (x3)) + (x4)) 36 = true then (if s119 9 (Int32.toNatClampNeg ((((12 : Int32)) * (x3)) + (x4))) = 0 then (if xin ((((12 : Int32)) * (x3)) + (x4)) 36 = true then (if 0 ≤ s119 9 (Int32.toNatClampNeg ((((12 : Int32)) * (x3)) + (x4))) then (if xin (x1) 8 = true then bnd (su s119 48 (Int32.toNatClampNeg (x1)) ((((10 : Int32)) + (s119 11 (Int32.toNatClampNeg ((((12 : Int32)) * (x3)) + (x4))))) + ((0 : Int32)))) (fun s153 => (if xin ((((12 : Int32)) * (x3)) + (x4)) 36 = true then (if 0 ≤ s153 9 (Int32.toNatClampNeg ((((12 : Int32)) * (x3)) + (x4))) then (if xin ((((12 : Int32)) * (x3)) + (x4)) 36 = true then (if xin (x1) 8 = true then bnd (su s153 49 (Int32.toNatClampNeg (x1)) (s153 9 (Int32.toNatClampNeg ((((12 : Int32)) * (x3)) + (x4))))) (fun s158 => f 208 (x1) (x2) (x3) (x4) ((0 : Int32)) 0 s158 r3.2.2) else none) else none) else (if xin ((((12 : Int32)) * (x3)) + (x4)) 36 = true then (if xin (x1) 8 = true then bnd (su s153 49 (Int32.toNatClampNeg (x1)) (-(s153 9 (Int32.toNatClampNeg ((((12 : Int32)) * (x3)) + (x4)))))) (fun s161 => f 208 (x1) (x2) (x3) (x4) ((0 : Int32)) 0 s161 r3.2.2) else none) else none)) else none)) else none) else (if xin (x1) 8 = true then bnd (su s119 48 (Int32.toNatClampNeg (x1)) (((2 : Int32)) * ((((10 : Int32)) + (s119 11 (Int32.toNatClampNeg ((((12 : Int32)) * (x3)) + (x4))))) + ((0 : Int32))))) (fun s163 => (if xin ((((12 : Int32)) * (x3)) + (x4)) 36 = true then (if 0 ≤ s163 9 (Int32.toNatClampNeg ((((12 : Int32)) * (x3)) + (x4))) then (if xin ((((12 : Int32)) * (x3)) + (x4)) 36 = true then (if xin (x1) 8 = true then bnd (su s163 49 (Int32.toNatClampNeg (x1)) (s163 9 (Int32.toNatClampNeg ((((12 : Int32)) * (x3)) + (x4))))) (fun s168 => f 208 (x1) (x2) (x3) (x4) ((0 : Int32)) 0 s168 r3.2.2) else none) else none) else (if xin ((((12 : Int32)) * (x3)) + (x4)) 36 = true then (if xin (x1) 8 = true then bnd (su s163 49 (Int32.toNatClampNeg (x1)) (-(s163 9 (Int32.toNatClampNeg ((((12 : Int32)) * (x3)) + (x4)))))) (fun s171 => f 208 (x1) (x2) (x3) (x4) ((0 : Int32)) 0 s171 r3.2.2) else none) else none)) else none)) else none)) else none) else (if xin ((((12 : Int32)) * (x3)) + (x4)) 36 = true then (if 0 ≤ s119 9 (Int32.toNatClampNeg ((((12 : Int32)) * (x3)) + (x4))) then (if xin (x1) 8 = true then bnd (su s119 48 (Int32.toNatClampNeg (x1)) ((((10 : Int32)) + (s119 11 (Int32.toNatClampNeg ((((12 : Int32)) * (x3)) + (x4))))) + ((100 : Int32)))) (fun s131 => (if xin ((((12 : Int32)) * (x3)) + (x4)) 36 = true then (if 0 ≤ s131 9 (Int32.toNatClampNeg ((((12 : Int32)) * (x3)) + (x4))) then (if xin ((((12 : Int32)) * (x3)) + (x4)) 36 = true then (if xin (x1) 8 = true then bnd (su s131 49 (Int32.toNatClampNeg (x1)) (s131 9 (Int32.toNatClampNeg ((((12 : Int32)) * (x3)) + (x4))))) (fun s136 => f 208 (x1) (x2) (x3) (x4) ((0 : Int32)) 0 s136 r3.2.2) else none) else none) else (if xin ((((12 : Int32)) * (x3)) + (x4)) 36 = true then (if xin (x1) 8 = true then bnd (su s131 49 (Int32.toNatClampNeg (x1)) (-(s131 9 (Int32.toNatClampNeg ((((12 : Int32)) * (x3)) + (x4)))))) (fun s139 => f 208 (x1) (x2) (x3) (x4) ((0 : Int32)) 0 s139 r3.2.2) else none) else none)) else none)) else none) else (if xin (x1) 8 = true then bnd (su s119 48 (Int32.toNatClampNeg (x1)) (((2 : Int32)) * ((((10 : Int32)) + (s119 11 (Int32.toNatClampNeg ((((12 : Int32)) * (x3)) + (x4))))) + ((100 : Int32))))) (fun s141 => (if xin ((((12 : Int32)) * (x3)) + (x4)) 36 = true then (if 0 ≤ s141 9 (Int32.toNatClampNeg ((((12 : Int32)) * (x3)) + (x4))) then (if xin ((((12 : Int32)) * (x3)) + (x4)) 36 = true then (if xin (x1) 8 = true then bnd (su s141 49 (Int32.toNatClampNeg (x1)) (s141 9 (Int32.toNatClampNeg ((((12 : Int32)) * (x3)) + (x4))))) (fun s146 => f 208 (x1) (x2) (x3) (x4) ((0 : Int32)) 0 s146 r3.2.2) else none) else none) else (if xin ((((12 : Int32)) * (x3)) + (x4)) 36 = true then (if xin (x1) 8 = true then bnd (su s141 49 (Int32.toNatClampNeg (x1)) (-(s141 9 (Int32.toNatClampNeg ((((12 : Int32)) * (x3)) + (x4)))))) (fun s149 => f 208 (x1) (x2) (x3) (x4) ((0 : Int32)) 0 s149 r3.2.2) else none) else none)) else none)) else none)) else none)) else none) else none) else (if x2 = (2 : Int32) then (if xin ((((6 : Int32)) * (x3)) + (x4)) 18 = true then (if xin (x1) 8 = true then bnd (su s119 48 (Int32.toNatClampNeg (x1)) (((3 : Int32)) + (s119 4 (Int32.toNatClampNeg ((((6 : Int32)) * (x3)) + (x4)))))) (fun s124 => f 208 (x1) (x2) (x3) (x4) ((0 : Int32)) 0 s124 r3.2.2) else none) else none) else f 208 (x1) (x2) (x3) (x4) ((0 : Int32)) 0 s119 r3.2.2))) else none) else (if (60 : Int32) ≤ s6 22 0 then (if xin (x1) 8 = true then bnd (su s6 47 (Int32.toNatClampNeg (x1)) ((60 : Int32))) (fun s11 => (if x2 = (1 : Int32) then (if xin ((((12 : Int32)) * (x3)) + (x4)) 36 = true then (if xin ((((12 : Int32)) * (x3)) + (x4)) 36 = true then (if s11 9 (Int32.toNatClampNeg ((((12 : Int32)) * (x3)) + (x4))) = 0 then (if xin ((((12 : Int32)) * (x3)) + (x4)) 36 = true then (if 0 ≤ s11 9 (Int32.toNatClampNeg ((((12 : Int32)) * (x3)) + (x4))) then (if xin (x1) 8 = true then bnd (su s11 48 (Int32.toNatClampNeg (x1)) ((((10 : Int32)) + (s11 11 (Int32.toNatClampNeg ((((12 : Int32)) * (x3)) + (x4))))) + ((0 : Int32)))) (fun s45 => (if xin ((((12 : Int32)) * (x3)) + (x4)) 36 = true then (if 0 ≤ s45 9 (Int32.toNatClampNeg ((((12 : Int32)) * (x3)) + (x4))) then (if xin ((((12 : Int32)) * (x3)) + (x4)) 36 = true then (if xin (x1) 8 = true then bnd (su s45 49 (Int32.toNatClampNeg (x1)) (s45 9 (Int32.toNatClampNeg ((((12 : Int32)) * (x3)) + (x4))))) (fun s50 => f 208 (x1) (x2) (x3) (x4) ((0 : Int32)) 0 s50 r3.2.2) else none) else none) else (if xin ((((12 : Int32)) * (x3)) + (x4)) 36 = true then (if xin (x1) 8 = true then bnd (su s45 49 (Int32.toNatClampNeg (x1)) (-(s45 9 (Int32.toNatClampNeg ((((12 : Int32)) * (x3)) + (x4)))))) (fun s53 => f 208 (x1) (x2) (x3) (x4) ((0 : Int32)) 0 s53 r3.2.2) else none) else none)) else none)) else none) else (if xin (x1) 8 = true then bnd (su s11 48 (Int32.toNatClampNeg (x1)) (((2 : Int32)) * ((((10 : Int32)) + (s11 11 (Int32.toNatClampNeg ((((12 : Int32)) * (x3)) + (x4))))) + ((0 : Int32))))) (fun s55 => (if xin ((((12 : Int32)) * (x3)) + (x4)) 36 = true then (if 0 ≤ s55 9 (Int32.toNatClampNeg ((((12 : Int32)) * (x3)) + (x4))) then (if xin ((((12 : Int32)) * (x3)) + (x4)) 36 = true then (if xin (x1) 8 = true then bnd (su s55 49 (Int32.toNatClampNeg (x1)) (s55 9 (Int32.toNatClampNeg ((((12 : Int32)) * (x3)) + (x4))))) (fun s60 => f 208 (x1) (x2) (x3) (x4) ((0 : Int32)) 0 s60 r3.2.2) else none) else none) else (if xin ((((12 : Int32)) * (x3)) + (x4)) 36 = true then (if xin (x1) 8 = true then bnd (su s55 49 (Int32.toNatClampNeg (x1)) (-(s55 9 (Int32.toNatClampNeg ((((12 : Int32)) * (x3)) + (x4)))))) (fun s63 => f 208 (x1) (x2) (x3) (x4) ((0 : Int32)) 0 s63 r3.2.2) else none) else none)) else none)) else none)) else none) else (if xin ((((12 : Int32)) * (x3)) + (x4)) 36 = true then (if 0 ≤ s11 9 (Int32.toNatClampNeg ((((12 : Int32)) * (x3)) + (x4))) then (if xin (x1) 8 = true then bnd (su s11 48 (Int32.toNatClampNeg (x1)) ((((10 : Int32)) + (s11 11 (Int32.toNatClampNeg ((((12 : Int32)) * (x3)) + (x4))))) + ((100 : Int32)))) (fun s23 => (if xin ((((12 : Int32)) * (x3)) + (x4)) 36 = true then (if 0 ≤ s23 9 (Int32.toNatClampNeg ((((12 : Int32)) * (x3)) + (x4))) then (if xin ((((12 : Int32)) * (x3)) + (x4)) 36 = true then (if xin (x1) 8 = true then bnd (su s23 49 (Int32.toNatClampNeg (x1)) (s23 9 (Int32.toNatClampNeg ((((12 : Int32)) * (x3)) + (x4))))) (fun s28 => f 208 (x1) (x2) (x3) (x4) ((0 : Int32)) 0 s28 r3.2.2) else none) else none) else (if xin ((((12 : Int32)) * (x3)) + (x4)) 36 = true then (if xin (x1) 8 = true then bnd (su s23 49 (Int32.toNatClampNeg (x1)) (-(s23 9 (Int32.toNatClampNeg ((((12 : Int32)) * (x3)) + (x4)))))) (fun s31 => f 208 (x1) (x2) (x3) (x4) ((0 : Int32)) 0 s31 r3.2.2) else none) else none)) else none)) else none) else (if xin (x1) 8 = true then bnd (su s11 48 (Int32.toNatClampNeg (x1)) (((2 : Int32)) * ((((10 : Int32)) + (s11 11 (Int32.toNatClampNeg ((((12 : Int32)) * (x3)) + (x4))))) + ((100 : Int32))))) (fun s33 => (if xin ((((12 : Int32)) * (x3)) + (x4)) 36 = true then (if 0 ≤ s33 9 (Int32.toNatClampNeg ((((12 : Int32)) * (x3)) + (x4))) then (if xin ((((12 : Int32)) * (x3)) + (x4)) 36 = true then (if xin (x1) 8 = true then bnd (su s33 49 (Int32.toNatClampNeg (x1)) (s33 9 (Int32.toNatClampNeg ((((12 : Int32)) * (x3)) + (x4))))) (fun s38 => f 208 (x1) (x2) (x3) (x4) ((0 : Int32)) 0 s38 r3.2.2) else none) else none) else (if xin ((((12 : Int32)) * (x3)) + (x4)) 36 = true then (if xin (x1) 8 = true then bnd (su s33 49 (Int32.toNatClampNeg (x1)) (-(s33 9 (Int32.toNatClampNeg ((((12 : Int32)) * (x3)) + (x4)))))) (fun s41 => f 208 (x1) (x2) (x3) (x4) ((0 : Int32)) 0 s41 r3.2.2) else none) else none)) else none)) else none)) else none)) else none) else none) else (if x2 = (2 : Int32) then (if xin ((((6 : Int32)) * (x3)) + (x4)) 18 = true then (if xin (x1) 8 = true then bnd (su s11 48 (Int32.toNatClampNeg (x1)) (((3 : Int32)) + (s11 4 (Int32.toNatClampNeg ((((6 : Int32)) * (x3)) + (x4)))))) (fun s16 => f 208 (x1) (x2) (x3) (x4) ((0 : Int32)) 0 s16 r3.2.2) else none) else none) else f 208 (x1) (x2) (x3) (x4) ((0 : Int32)) 0 s11 r3.2.2))) else none) else (if xin (x1) 8 = true then bnd (su s6 47 (Int32.toNatClampNeg (x1)) (s6 22 0)) (fun s65 => (if x2 = (1 : Int32) then (if xin ((((12 : Int32)) * (x3)) + (x4)) 36 = true then (if xin ((((12 : Int32)) * (x3)) + (x4)) 36 = true then (if s65 9 (Int32.toNatClampNeg ((((12 : Int32)) * (x3)) + (x4))) = 0 then (if xin ((((12 : Int32)) * (x3)) + (x4)) 36 = true then (if 0 ≤ s65 9 (Int32.toNatClampNeg ((((12 : Int32)) * (x3)) + (x4))) then (if xin (x1) 8 = true then bnd (su s65 48 (Int32.toNatClampNeg (x1)) ((((10 : Int32)) + (s65 11 (Int32.toNatClampNeg ((((12 : Int32)) * (x3)) + (x4))))) + ((0 : Int32)))) (fun s99 => (if xin ((((12 : Int32)) * (x3)) + (x4)) 36 = true then (if 0 ≤ s99 9 (Int32.toNatClampNeg ((((12 : Int32)) * (x3)) + (x4))) then (if xin ((((12 : Int32)) * (x3)) + (x4)) 36 = true then (if xin (x1) 8 = true then bnd (su s99 49 (Int32.toNatClampNeg (x1)) (s99 9 (Int32.toNatClampNeg ((((12 : Int32)) * (x3)) + (x4))))) (fun s104 => f 208 (x1) (x2) (x3) (x4) ((0 : Int32)) 0 s104 r3.2.2) else none) else none) else (if xin ((((12 : Int32)) * (x3)) + (x4)) 36 = true then (if xin (x1) 8 = true then bnd (su s99 49 (Int32.toNatClampNeg (x1)) (-(s99 9 (Int32.toNatClampNeg ((((12 : Int32)) * (x3)) + (x4)))))) (fun s107 => f 208 (x1) (x2) (x3) (x4) ((0 : Int32)) 0 s107 r3.2.2) else none) else none)) else none)) else none) else (if xin (x1) 8 = true then bnd (su s65 48 (Int32.toNatClampNeg (x1)) (((2 : Int32)) * ((((10 : Int32)) + (s65 11 (Int32.toNatClampNeg ((((12 : Int32)) * (x3)) + (x4))))) + ((0 : Int32))))) (fun s109 => (if xin ((((12 : Int32)) * (x3)) + (x4)) 36 = true then (if 0 ≤ s109 9 (Int32.toNatClampNeg ((((12 : Int32)) * (x3)) + (x4))) then (if xin ((((12 : Int32)) * (x3)) + (x4)) 36 = true then (if xin (x1) 8 = true then bnd (su s109 49 (Int32.toNatClampNeg (x1)) (s109 9 (Int32.toNatClampNeg ((((12 : Int32)) * (x3)) + (x4))))) (fun s114 => f 208 (x1) (x2) (x3) (x4) ((0 : Int32)) 0 s114 r3.2.2) else none) else none) else (if xin ((((12 : Int32)) * (x3)) + (x4)) 36 = true then (if xin (x1) 8 = true then bnd (su s109 49 (Int32.toNatClampNeg (x1)) (-(s109 9 (Int32.toNatClampNeg ((((12 : Int32)) * (x3)) + (x4)))))) (fun s117 => f 208 (x1) (x2) (x3) (x4) ((0 : Int32)) 0 s117 r3.2.2) else none) else none)) else none)) else none)) else none) else (if xin ((((12 : Int32)) * (x3)) + (x4)) 36 = true then (if 0 ≤ s65 9 (Int32.toNatClampNeg ((((12 : Int32)) * (x3)) + (x4))) then (if xin (x1) 8 = true then bnd (su s65 48 (Int32.toNatClampNeg (x1)) ((((10 : Int32)) + (s65 11 (Int32.toNatClampNeg ((((12 : Int32)) * (x3)) + (x4))))) + ((100 : Int32)))) (fun s77 => (if xin ((((12 : Int32)) * (x3)) + (x4)) 36 = true then (if 0 ≤ s77 9 (Int32.toNatClampNeg ((((12 : Int32)) * (x3)) + (x4))) then (if xin ((((12 : Int32)) * (x3)) + (x4)) 36 = true then (if xin (x1) 8 = true then bnd (su s77 49 (Int32.toNatClampNeg (x1)) (s77 9 (Int32.toNatClampNeg ((((12 : Int32)) * (x3)) + (x4))))) (fun s82 => f 208 (x1) (x2) (x3) (x4) ((0 : Int32)) 0 s82 r3.2.2) else none) else none) else (if xin ((((12 : Int32)) * (x3)) + (x4)) 36 = true then (if xin (x1) 8 = true then bnd (su s77 49 (Int32.toNatClampNeg (x1)) (-(s77 9 (Int32.toNatClampNeg ((((12 : Int32)) * (x3)) + (x4)))))) (fun s85 => f 208 (x1) (x2) (x3) (x4) ((0 : Int32)) 0 s85 r3.2.2) else none) else none)) else none)) else none) else (if xin (x1) 8 = true then bnd (su s65 48 (Int32.toNatClampNeg (x1)) (((2 : Int32)) * ((((10 : Int32)) + (s65 11 (Int32.toNatClampNeg ((((12 : Int32)) * (x3)) + (x4))))) + ((100 : Int32))))) (fun s87 => (if xin ((((12 : Int32)) * (x3)) + (x4)) 36 = true then (if 0 ≤ s87 9 (Int32.toNatClampNeg ((((12 : Int32)) * (x3)) + (x4))) then (if xin ((((12 : Int32)) * (x3)) + (x4)) 36 = true then (if xin (x1) 8 = true then bnd (su s87 49 (Int32.toNatClampNeg (x1)) (s87 9 (Int32.toNatClampNeg ((((12 : Int32)) * (x3)) + (x4))))) (fun s92 => f 208 (x1) (x2) (x3) (x4) ((0 : Int32)) 0 s92 r3.2.2) else none) else none) else (if xin ((((12 : Int32)) * (x3)) + (x4)) 36 = true then (if xin (x1) 8 = true then bnd (su s87 49 (Int32.toNatClampNeg (x1)) (-(s87 9 (Int32.toNatClampNeg ((((12 : Int32)) * (x3)) + (x4)))))) (fun s95 => f 208 (x1) (x2) (x3) (x4) ((0 : Int32)) 0 s95 r3.2.2) else none) else none)) else none)) else none)) else none)) else none) else none) else (if x2 = (2 : Int32) then (if xin ((((6 : Int32)) * (x3)) + (x4)) 18 = true then (if xin (x1) 8 = true then bnd (su s65 48 (Int32.toNatClampNeg (x1)) (((3 : Int32)) + (s65 4 (Int32.toNatClampNeg ((((6 : Int32)) * (x3)) + (x4)))))) (fun s70 => f 208 (x1) (x2) (x3) (x4) ((0 : Int32)) 0 s70 r3.2.2) else none) else none) else f 208 (x1) (x2) (x3) (x4) ((0 : Int32)) 0 s65 r3.2.2))) else none))) else (if xin (x1) 8 = true then bnd (su s6 47 (Int32.toNatClampNeg (x1)) ((0 : Int32))) (fun s173 => (if x2 = (1 : Int32) then (if xin ((((12 : Int32)) * (x3)) + (x4)) 36 = true then (if xin ((((12 : Int32)) * (x3)) + (x4)) 36 = true then (if s173 9 (Int32.toNatClampNeg ((((12 : Int32)) * (x3)) + (x4))) = 0 then (if xin ((((12 : Int32)) * (x3)) + (x4)) 36 = true then (if 0 ≤ s173 9 (Int32.toNatClampNeg ((((12 : Int32)) * (x3)) + (x4))) then (if xin (x1) 8 = true then bnd (su s173 48 (Int32.toNatClampNeg (x1)) ((((10 : Int32)) + (s173 11 (Int32.toNatClampNeg ((((12 : Int32)) * (x3)) + (x4))))) + ((0 : Int32)))) (fun s207 => (if xin ((((12 : Int32)) * (x3)) + (x4)) 36 = true then (if 0 ≤ s207 9 (Int32.toNatClampNeg ((((12 : Int32)) * (x3)) + (x4))) then (if xin ((((12 : Int32)) * (x3)) + (x4)) 36 = true then (if xin (x1) 8 = true then bnd (su s207 49 (Int32.toNatClampNeg (x1)) (s207 9 (Int32.toNatClampNeg ((((12 : Int32)) * (x3)) + (x4))))) (fun s212 => f 208 (x1) (x2) (x3) (x4) ((0 : Int32)) 0 s212 r3.2.2) else none) else none) else (if xin ((((12 : Int32)) * (x3)) + (x4)) 36 = true then (if xin (x1) 8 = true then bnd (su s207 49 (Int32.toNatClampNeg (x1)) (-(s207 9 (Int32.toNatClampNeg ((((12 : Int32)) * (x3)) + (x4)))))) (fun s215 => f 208 (x1) (x2) (x3) (x4) ((0 : Int32)) 0 s215 r3.2.2) else none) else none)) else none)) else none) else (if xin (x1) 8 = true then bnd (su s173 48 (Int32.toNatClampNeg (x1)) (((2 : Int32)) * ((((10 : Int32)) + (s173 11 (Int32.toNatClampNeg ((((12 : Int32)) * (x3)) + (x4))))) + ((0 : Int32))))) (fun s217 => (if xin ((((12 : Int32)) * (x3)) + (x4)) 36 = true then (if 0 ≤ s217 9 (Int32.toNatClampNeg ((((12 : Int32)) * (x3)) + (x4))) then (if xin ((((12 : Int32)) * (x3)) + (x4)) 36 = true then (if xin (x1) 8 = true then bnd (su s217 49 (Int32.toNatClampNeg (x1)) (s217 9 (Int32.toNatClampNeg ((((12 : Int32)) * (x3)) + (x4))))) (fun s222 => f 208 (x1) (x2) (x3) (x4) ((0 : Int32)) 0 s222 r3.2.2) else none) else none) else (if xin ((((12 : Int32)) * (x3)) + (x4)) 36 = true then (if xin (x1) 8 = true then bnd (su s217 49 (Int32.toNatClampNeg (x1)) (-(s217 9 (Int32.toNatClampNeg ((((12 : Int32)) * (x3)) + (x4)))))) (fun s225 => f 208 (x1) (x2) (x3) (x4) ((0 : Int32)) 0 s225 r3.2.2) else none) else none)) else none)) else none)) else none) else (if xin ((((12 : Int32)) * (x3)) + (x4)) 36 = true then (if 0 ≤ s173 9 (Int32.toNatClampNeg ((((12 : Int32)) * (x3)) + (x4))) then (if xin (x1) 8 = true then bnd (su s173 48 (Int32.toNatClampNeg (x1)) ((((10 : Int32)) + (s173 11 (Int32.toNatClampNeg ((((12 : Int32)) * (x3)) + (x4))))) + ((100 : Int32)))) (fun s185 => (if xin ((((12 : Int32)) * (x3)) + (x4)) 36 = true then (if 0 ≤ s185 9 (Int32.toNatClampNeg ((((12 : Int32)) * (x3)) + (x4))) then (if xin ((((12 : Int32)) * (x3)) + (x4)) 36 = true then (if xin (x1) 8 = true then bnd (su s185 49 (Int32.toNatClampNeg (x1)) (s185 9 (Int32.toNatClampNeg ((((12 : Int32)) * (x3)) + (x4))))) (fun s190 => f 208 (x1) (x2) (x3) (x4) ((0 : Int32)) 0 s190 r3.2.2) else none) else none) else (if xin ((((12 : Int32)) * (x3)) + (x4)) 36 = true then (if xin (x1) 8 = true then bnd (su s185 49 (Int32.toNatClampNeg (x1)) (-(s185 9 (Int32.toNatClampNeg ((((12 : Int32)) * (x3)) + (x4)))))) (fun s193 => f 208 (x1) (x2) (x3) (x4) ((0 : Int32)) 0 s193 r3.2.2) else none) else none)) else none)) else none) else (if xin (x1) 8 = true then bnd (su s173 48 (Int32.toNatClampNeg (x1)) (((2 : Int32)) * ((((10 : Int32)) + (s173 11 (Int32.toNatClampNeg ((((12 : Int32)) * (x3)) + (x4))))) + ((100 : Int32))))) (fun s195 => (if xin ((((12 : Int32)) * (x3)) + (x4)) 36 = true then (if 0 ≤ s195 9 (Int32.toNatClampNeg ((((12 : Int32)) * (x3)) + (x4))) then (if xin ((((12 : Int32)) * (x3)) + (x4)) 36 = true then (if xin (x1) 8 = true then bnd (su s195 49 (Int32.toNatClampNeg (x1)) (s195 9 (Int32.toNatClampNeg ((((12 : Int32)) * (x3)) + (x4))))) (fun s200 => f 208 (x1) (x2) (x3) (x4) ((0 : Int32)) 0 s200 r3.2.2) else none) else none) else (if xin ((((12 : Int32)) * (x3)) + (x4)) 36 = true then (if xin (x1) 8 = true then bnd (su s195 49 (Int32.toNatClampNeg (x1)) (-(s195 9 (Int32.toNatClampNeg ((((12 : Int32)) * (x3)) + (x4)))))) (fun s203 => f 208 (x1) (x2) (x3) (x4) ((0 : Int32)) 0 s203 r3.2.2) else none) else none)) else none)) else none)) else none)) else none) else none) else (if x2 = (2 : Int32) then (if xin ((((6 : Int32)) * (x3)) + (x4)) 18 = true then (if xin (x1) 8 = true then bnd (su s173 48 (Int32.toNatClampNeg (x1)) (((3 : Int32)) + (s173 4 (Int32.toNatClampNeg ((((6 : Int32)) * (x3)) + (x4)))))) (fun s178 => f 208 (x1) (x2) (x3) (x4) ((0 : Int32)) 0 s178 r3.2.2) else none) else none) else f 208 (x1) (x2) (x3) (x4) ((0 : Int32)) 0 s173 r3.2.2))) else none))) else none)))))
def Mo_keep_t208 (f : Nat → Int32 → Int32 → Int32 → Int32 → Int32 → Int32 → mS → mL → Option (Int32 × mS × mL)) (n : Nat) (x1 : Int32) (x2 : Int32) (x3 : Int32) (x4 : Int32) (x5 : Int32) (x6 : Int32) (σ : mS) (τ : mL) : Option (Int32 × mS × mL) := (if xin (x1) 8 = true then (if σ 47 (Int32.toNatClampNeg (x1)) ≤ x5 then some ((0 : Int32), σ, τ) else (if x2 = (3 : Int32) then (if xin (((3 : Int32)) * (x5)) 600 = true then (if xin ((((60 : Int32)) * (x1)) + (x5)) 480 = true then bnd (sl τ 50 (Int32.toNatClampNeg ((((60 : Int32)) * (x1)) + (x5))) (Int32.toInt64 (σ 24 (Int32.toNatClampNeg (((3 : Int32)) * (x5)))))) (fun t234 => f 208 (x1) (x2) (x3) (x4) (x5 + 1) 0 σ t234) else none) else none) else (if xin (((((25 : Int32)) * (x4)) + (((5 : Int32)) * ((x5) / ((4 : Int32))))) + ((x5) - (x5) / ((4 : Int32)) * ((4 : Int32)))) 5000 = true then (if xin ((((60 : Int32)) * (x1)) + (x5)) 480 = true then bnd (sl τ 50 (Int32.toNatClampNeg ((((60 : Int32)) * (x1)) + (x5))) (Int32.toInt64 (σ 25 (Int32.toNatClampNeg (((((25 : Int32)) * (x4)) + (((5 : Int32)) * ((x5) / ((4 : Int32))))) + ((x5) - (x5) / ((4 : Int32)) * ((4 : Int32)))))))) (fun t231 => f 208 (x1) (x2) (x3) (x4) (x5 + 1) 0 σ t231) else none) else none))) else none)
def Mo_keep_f : Nat → Nat → Int32 → Int32 → Int32 → Int32 → Int32 → Int32 → mS → mL → Option (Int32 × mS × mL)
  | 0 => fun _ _ _ _ _ _ _ _ _ => none
  | n + 1 => fun p x1 x2 x3 x4 x5 x6 σ τ => if p = 0 then Mo_keep_t0 (Mo_keep_f n) n x1 x2 x3 x4 x5 x6 σ τ else if p = 208 then Mo_keep_t208 (Mo_keep_f n) n x1 x2 x3 x4 x5 x6 σ τ else none
theorem Mo_keep_e0 (n : Nat) (x1 : Int32) (x2 : Int32) (x3 : Int32) (x4 : Int32) (x5 : Int32) (x6 : Int32) (σ : mS) (τ : mL) : Mo_keep_f (n + 1) 0 x1 x2 x3 x4 x5 x6 σ τ = Mo_keep_t0 (Mo_keep_f n) n x1 x2 x3 x4 x5 x6 σ τ := by
  show (if 0 = 0 then Mo_keep_t0 (Mo_keep_f n) n x1 x2 x3 x4 x5 x6 σ τ else if 0 = 208 then Mo_keep_t208 (Mo_keep_f n) n x1 x2 x3 x4 x5 x6 σ τ else none) = _
  rw [if_pos rfl]
theorem Mo_keep_e208 (n : Nat) (x1 : Int32) (x2 : Int32) (x3 : Int32) (x4 : Int32) (x5 : Int32) (x6 : Int32) (σ : mS) (τ : mL) : Mo_keep_f (n + 1) 208 x1 x2 x3 x4 x5 x6 σ τ = Mo_keep_t208 (Mo_keep_f n) n x1 x2 x3 x4 x5 x6 σ τ := by
  show (if 208 = 0 then Mo_keep_t0 (Mo_keep_f n) n x1 x2 x3 x4 x5 x6 σ τ else if 208 = 208 then Mo_keep_t208 (Mo_keep_f n) n x1 x2 x3 x4 x5 x6 σ τ else none) = _
  rw [if_neg (by decide), if_pos rfl]
set_option maxRecDepth 100000 in
set_option maxHeartbeats 8000000 in
theorem Mo_keep_x {F : xF} {G : xG} {B : Nat} {M : xM} (C : xC F G B cMo_keep RMo 7 3 66 0 0) (hr : (xFM F).sig.returnType = (some .int)) : ∀ (n : Nat) (x1 : Int32) (x2 : Int32) (x3 : Int32) (x4 : Int32) (x5 : Int32) (x6 : Int32) (σ : mS) (τ : mL) (R : Int32 × mS × mL), (Mo_keep_f n 0 x1 x2 x3 x4 x5 x6 σ τ = some R → XM F G B (xZ F G B (mP M (some (.int R.1)) R.2.1 R.2.2) 0 0) 7 M σ τ 0 [(0, .ref (M.1)), (1, .int (x1)), (2, .int (x2)), (3, .int (x3)), (4, .int (x4))] []) ∧ (Mo_keep_f n 208 x1 x2 x3 x4 x5 x6 σ τ = some R → XM F G B (xZ F G B (mP M (some (.int R.1)) R.2.1 R.2.2) 0 0) 7 M σ τ 208 [(0, .ref (M.1)), (1, .int (x1)), (2, .int (x2)), (3, .int (x3)), (4, .int (x4)), (5, .int (x5))] []) := by
  intro n
  induction n with
  | zero => exact fun _ _ _ _ _ _ _ _ _ => ⟨(fun hR => nomatch (show (none : Option _) = some _ from hR)), (fun hR => nomatch (show (none : Option _) = some _ from hR))⟩
  | succ n ih =>
    intro x1 x2 x3 x4 x5 x6 σ τ R
    refine ⟨fun hR => ?_, fun hR => ?_⟩
    · rw [Mo_keep_e0] at hR
      unfold Mo_keep_t0 at hR
      refine XM_aload_n C dMo_keep_0 rfl ?_
      refine XM_iconst (v := 0) C dMo_keep_1 rfl ?_
      refine XM_put (k := 0) C rfl fwMo_124 rfl rfl rfl dMo_keep_2 ?_
      obtain ⟨s1, es1, hR⟩ := b_bnd hR
      rw [← es1]
      refine XM_iload_n C dMo_keep_5 rfl ?_
      refine XM_callSi (As := [.int (x1)]) (rest := []) C (Mo_isShelf_c (x1)) wMo_301 ⟨by decide, by decide⟩ rfl rfl (Nat.le_of_ble_eq_true rfl) dMo_keep_6 ?_
      refine XM_if_eq (tgt := 23) C dMo_keep_9 (by decide) (fun c2 => ?_) (fun c2 => ?_)
      · rw [if_pos c2] at hR
        refine XM_iconst (v := (-1)) C dMo_keep_23 rfl ?_
        have hR := Option.some.inj hR
        subst hR
        exact XM_iret C hr dMo_keep_24 rfl rfl rfl
      · rw [if_neg c2] at hR
        refine XM_aload_n C dMo_keep_12 rfl ?_
        refine XM_iload_n C dMo_keep_13 rfl ?_
        refine XM_iload_n C dMo_keep_14 rfl ?_
        refine XM_iload C dMo_keep_15 rfl ?_
        obtain ⟨r3, hr3, hR⟩ := o_bind hR
        refine XM_callVi (As := [.int (x2), .int (x3), .int (x4)]) (rest := []) C (Mo_canKeep_c hr3) wMo_304 ⟨by decide, by decide⟩ rfl rfl (Nat.le_of_ble_eq_true rfl) dMo_keep_17 ?_
        refine XM_if_ne (tgt := 25) C dMo_keep_20 (by decide) (fun c4 => ?_) (fun c4 => ?_)
        · rw [if_neg c4] at hR
          refine XM_aload_n C dMo_keep_25 rfl ?_
          refine XM_get (k := 46) (v := .ref (M.2.1 46)) C rfl fwMo_101 dMo_keep_26 ?_
          refine XM_iload_n C dMo_keep_29 rfl ?_
          refine XM_iload_n C dMo_keep_30 rfl ?_
          obtain ⟨q5, hR⟩ := o_if hR
          refine XM_iast (k := 46) (n := 8) C rfl (xin_vp q5) dMo_keep_31 ?_
          obtain ⟨s6, es6, hR⟩ := b_bnd hR
          rw [← es6]
          refine XM_aload_n C dMo_keep_32 rfl ?_
          refine XM_get (k := 47) (v := .ref (M.2.1 47)) C rfl fwMo_104 dMo_keep_33 ?_
          refine XM_iload_n C dMo_keep_36 rfl ?_
          refine XM_iload_n C dMo_keep_37 rfl ?_
          refine XM_iconst (v := 3) C dMo_keep_38 rfl ?_
          refine XM_icmp_ge (tgt := 46) C dMo_keep_39 (by decide) (fun c7 => ?_) (fun c7 => ?_)
          · rw [if_pos c7] at hR
            refine XM_iload_n C dMo_keep_46 rfl ?_
            refine XM_iconst (v := 4) C dMo_keep_47 rfl ?_
            refine XM_icmp_ne (tgt := 56) C dMo_keep_48 (by decide) (fun c8 => ?_) (fun c8 => ?_)
            · rw [if_neg c8] at hR
              refine XM_aload_n C dMo_keep_56 rfl ?_
              refine XM_get (k := 22) (v := .int (s6 22 0)) C rfl fwMo_199 dMo_keep_57 ?_
              refine XM_bipush (v := 60) C dMo_keep_60 (by decide) ?_
              refine XM_icmp_ge (tgt := 72) C dMo_keep_62 (by decide) (fun c9 => ?_) (fun c9 => ?_)
              · rw [if_pos c9] at hR
                refine XM_bipush (v := 60) C dMo_keep_72 (by decide) ?_
                obtain ⟨q10, hR⟩ := o_if hR
                refine XM_iast (k := 47) (n := 8) C rfl (xin_vp q10) dMo_keep_74 ?_
                obtain ⟨s11, es11, hR⟩ := b_bnd hR
                rw [← es11]
                refine XM_iload_n C dMo_keep_75 rfl ?_
                refine XM_iconst (v := 1) C dMo_keep_76 rfl ?_
                refine XM_icmp_ne (tgt := 180) C dMo_keep_77 (by decide) (fun c12 => ?_) (fun c12 => ?_)
                · rw [if_neg c12] at hR
                  refine XM_iload_n C dMo_keep_180 rfl ?_
                  refine XM_iconst (v := 2) C dMo_keep_181 rfl ?_
                  refine XM_icmp_ne (tgt := 205) C dMo_keep_182 (by decide) (fun c13 => ?_) (fun c13 => ?_)
                  · rw [if_neg c13] at hR
                    refine XM_iconst (v := 0) C dMo_keep_205 rfl ?_
                    refine XM_istore (lv' := [(5, .int ((0 : Int32))), (0, .ref (M.1)), (1, .int (x1)), (2, .int (x2)), (3, .int (x3)), (4, .int (x4))]) C dMo_keep_206 (by decide) rfl ?_
                    refine XM_sub (lv' := [(0, .ref (M.1)), (1, .int (x1)), (2, .int (x2)), (3, .int (x3)), (4, .int (x4)), (5, .int ((0 : Int32)))]) [1, 2, 3, 4, 5, 0] rfl ?_
                    exact (ih (x1) (x2) (x3) (x4) ((0 : Int32)) 0 _ _ _).2 hR
                  · rw [if_pos c13] at hR
                    refine XM_aload_n C dMo_keep_185 rfl ?_
                    refine XM_get (k := 48) (v := .ref (M.2.1 48)) C rfl fwMo_107 dMo_keep_186 ?_
                    refine XM_iload_n C dMo_keep_189 rfl ?_
                    refine XM_iconst (v := 3) C dMo_keep_190 rfl ?_
                    refine XM_aload_n C dMo_keep_191 rfl ?_
                    refine XM_get (k := 4) (v := .ref (M.2.1 4)) C rfl fwMo_16 dMo_keep_192 ?_
                    refine XM_bipush (v := 6) C dMo_keep_195 (by decide) ?_
                    refine XM_iload_n C dMo_keep_197 rfl ?_
                    refine XM_imul C dMo_keep_198 ?_
                    refine XM_iload C dMo_keep_199 rfl ?_
                    refine XM_iadd C dMo_keep_201 ?_
                    obtain ⟨q14, hR⟩ := o_if hR
                    refine XM_iald (k := 4) (n := 18) C rfl (xin_vp q14) dMo_keep_202 ?_
                    refine XM_iadd C dMo_keep_203 ?_
                    obtain ⟨q15, hR⟩ := o_if hR
                    refine XM_iast (k := 48) (n := 8) C rfl (xin_vp q15) dMo_keep_204 ?_
                    obtain ⟨s16, es16, hR⟩ := b_bnd hR
                    rw [← es16]
                    refine XM_iconst (v := 0) C dMo_keep_205 rfl ?_
                    refine XM_istore (lv' := [(5, .int ((0 : Int32))), (0, .ref (M.1)), (1, .int (x1)), (2, .int (x2)), (3, .int (x3)), (4, .int (x4))]) C dMo_keep_206 (by decide) rfl ?_
                    refine XM_sub (lv' := [(0, .ref (M.1)), (1, .int (x1)), (2, .int (x2)), (3, .int (x3)), (4, .int (x4)), (5, .int ((0 : Int32)))]) [1, 2, 3, 4, 5, 0] rfl ?_
                    exact (ih (x1) (x2) (x3) (x4) ((0 : Int32)) 0 _ _ _).2 hR
                · rw [if_pos c12] at hR
                  refine XM_bipush (v := 12) C dMo_keep_80 (by decide) ?_
                  refine XM_iload_n C dMo_keep_82 rfl ?_
                  refine XM_imul C dMo_keep_83 ?_
                  refine XM_iload C dMo_keep_84 rfl ?_
                  refine XM_iadd C dMo_keep_86 ?_
                  refine XM_istore (lv' := [(5, .int ((((12 : Int32)) * (x3)) + (x4))), (0, .ref (M.1)), (1, .int (x1)), (2, .int (x2)), (3, .int (x3)), (4, .int (x4))]) C dMo_keep_87 (by decide) rfl ?_
                  refine XM_bipush (v := 10) C dMo_keep_89 (by decide) ?_
                  refine XM_aload_n C dMo_keep_91 rfl ?_
                  refine XM_get (k := 11) (v := .ref (M.2.1 11)) C rfl fwMo_37 dMo_keep_92 ?_
                  refine XM_iload C dMo_keep_95 rfl ?_
                  obtain ⟨q17, hR⟩ := o_if hR
                  refine XM_iald (k := 11) (n := 36) C rfl (xin_vp q17) dMo_keep_97 ?_
                  refine XM_iadd C dMo_keep_98 ?_
                  refine XM_aload_n C dMo_keep_99 rfl ?_
                  refine XM_get (k := 9) (v := .ref (M.2.1 9)) C rfl fwMo_31 dMo_keep_100 ?_
                  refine XM_iload C dMo_keep_103 rfl ?_
                  obtain ⟨q18, hR⟩ := o_if hR
                  refine XM_iald (k := 9) (n := 36) C rfl (xin_vp q18) dMo_keep_105 ?_
                  refine XM_if_ne (tgt := 113) C dMo_keep_106 (by decide) (fun c19 => ?_) (fun c19 => ?_)
                  · rw [if_neg c19] at hR
                    refine XM_bipush (v := 100) C dMo_keep_113 (by decide) ?_
                    refine XM_iadd C dMo_keep_115 ?_
                    refine XM_istore (lv' := [(6, .int ((((10 : Int32)) + (s11 11 (Int32.toNatClampNeg ((((12 : Int32)) * (x3)) + (x4))))) + ((100 : Int32)))), (5, .int ((((12 : Int32)) * (x3)) + (x4))), (0, .ref (M.1)), (1, .int (x1)), (2, .int (x2)), (3, .int (x3)), (4, .int (x4))]) C dMo_keep_116 (by decide) rfl ?_
                    refine XM_aload_n C dMo_keep_118 rfl ?_
                    refine XM_get (k := 48) (v := .ref (M.2.1 48)) C rfl fwMo_107 dMo_keep_119 ?_
                    refine XM_iload_n C dMo_keep_122 rfl ?_
                    refine XM_aload_n C dMo_keep_123 rfl ?_
                    refine XM_get (k := 9) (v := .ref (M.2.1 9)) C rfl fwMo_31 dMo_keep_124 ?_
                    refine XM_iload C dMo_keep_127 rfl ?_
                    obtain ⟨q20, hR⟩ := o_if hR
                    refine XM_iald (k := 9) (n := 36) C rfl (xin_vp q20) dMo_keep_129 ?_
                    refine XM_if_ge (tgt := 140) C dMo_keep_130 (by decide) (fun c21 => ?_) (fun c21 => ?_)
                    · rw [if_pos c21] at hR
                      refine XM_iload C dMo_keep_140 rfl ?_
                      obtain ⟨q22, hR⟩ := o_if hR
                      refine XM_iast (k := 48) (n := 8) C rfl (xin_vp q22) dMo_keep_142 ?_
                      obtain ⟨s23, es23, hR⟩ := b_bnd hR
                      rw [← es23]
                      refine XM_aload_n C dMo_keep_143 rfl ?_
                      refine XM_get (k := 49) (v := .ref (M.2.1 49)) C rfl fwMo_110 dMo_keep_144 ?_
                      refine XM_iload_n C dMo_keep_147 rfl ?_
                      refine XM_aload_n C dMo_keep_148 rfl ?_
                      refine XM_get (k := 9) (v := .ref (M.2.1 9)) C rfl fwMo_31 dMo_keep_149 ?_
                      refine XM_iload C dMo_keep_152 rfl ?_
                      obtain ⟨q24, hR⟩ := o_if hR
                      refine XM_iald (k := 9) (n := 36) C rfl (xin_vp q24) dMo_keep_154 ?_
                      refine XM_if_ge (tgt := 169) C dMo_keep_155 (by decide) (fun c25 => ?_) (fun c25 => ?_)
                      · rw [if_pos c25] at hR
                        refine XM_aload_n C dMo_keep_169 rfl ?_
                        refine XM_get (k := 9) (v := .ref (M.2.1 9)) C rfl fwMo_31 dMo_keep_170 ?_
                        refine XM_iload C dMo_keep_173 rfl ?_
                        obtain ⟨q26, hR⟩ := o_if hR
                        refine XM_iald (k := 9) (n := 36) C rfl (xin_vp q26) dMo_keep_175 ?_
                        obtain ⟨q27, hR⟩ := o_if hR
                        refine XM_iast (k := 49) (n := 8) C rfl (xin_vp q27) dMo_keep_176 ?_
                        obtain ⟨s28, es28, hR⟩ := b_bnd hR
                        rw [← es28]
                        refine XM_goto (tgt := 205) C dMo_keep_177 (by decide) ?_
                        refine XM_iconst (v := 0) C dMo_keep_205 rfl ?_
                        refine XM_istore (lv' := [(5, .int ((0 : Int32))), (6, .int ((((10 : Int32)) + (s11 11 (Int32.toNatClampNeg ((((12 : Int32)) * (x3)) + (x4))))) + ((100 : Int32)))), (0, .ref (M.1)), (1, .int (x1)), (2, .int (x2)), (3, .int (x3)), (4, .int (x4))]) C dMo_keep_206 (by decide) rfl ?_
                        refine XM_sub (lv' := [(0, .ref (M.1)), (1, .int (x1)), (2, .int (x2)), (3, .int (x3)), (4, .int (x4)), (5, .int ((0 : Int32)))]) [2, 3, 4, 5, 6, 0] rfl ?_
                        exact (ih (x1) (x2) (x3) (x4) ((0 : Int32)) 0 _ _ _).2 hR
                      · rw [if_neg c25] at hR
                        refine XM_aload_n C dMo_keep_158 rfl ?_
                        refine XM_get (k := 9) (v := .ref (M.2.1 9)) C rfl fwMo_31 dMo_keep_159 ?_
                        refine XM_iload C dMo_keep_162 rfl ?_
                        obtain ⟨q29, hR⟩ := o_if hR
                        refine XM_iald (k := 9) (n := 36) C rfl (xin_vp q29) dMo_keep_164 ?_
                        refine XM_ineg C dMo_keep_165 ?_
                        refine XM_goto (tgt := 176) C dMo_keep_166 (by decide) ?_
                        obtain ⟨q30, hR⟩ := o_if hR
                        refine XM_iast (k := 49) (n := 8) C rfl (xin_vp q30) dMo_keep_176 ?_
                        obtain ⟨s31, es31, hR⟩ := b_bnd hR
                        rw [← es31]
                        refine XM_goto (tgt := 205) C dMo_keep_177 (by decide) ?_
                        refine XM_iconst (v := 0) C dMo_keep_205 rfl ?_
                        refine XM_istore (lv' := [(5, .int ((0 : Int32))), (6, .int ((((10 : Int32)) + (s11 11 (Int32.toNatClampNeg ((((12 : Int32)) * (x3)) + (x4))))) + ((100 : Int32)))), (0, .ref (M.1)), (1, .int (x1)), (2, .int (x2)), (3, .int (x3)), (4, .int (x4))]) C dMo_keep_206 (by decide) rfl ?_
                        refine XM_sub (lv' := [(0, .ref (M.1)), (1, .int (x1)), (2, .int (x2)), (3, .int (x3)), (4, .int (x4)), (5, .int ((0 : Int32)))]) [2, 3, 4, 5, 6, 0] rfl ?_
                        exact (ih (x1) (x2) (x3) (x4) ((0 : Int32)) 0 _ _ _).2 hR
                    · rw [if_neg c21] at hR
                      refine XM_iconst (v := 2) C dMo_keep_133 rfl ?_
                      refine XM_iload C dMo_keep_134 rfl ?_
                      refine XM_imul C dMo_keep_136 ?_
                      refine XM_goto (tgt := 142) C dMo_keep_137 (by decide) ?_
                      obtain ⟨q32, hR⟩ := o_if hR
                      refine XM_iast (k := 48) (n := 8) C rfl (xin_vp q32) dMo_keep_142 ?_
                      obtain ⟨s33, es33, hR⟩ := b_bnd hR
                      rw [← es33]
                      refine XM_aload_n C dMo_keep_143 rfl ?_
                      refine XM_get (k := 49) (v := .ref (M.2.1 49)) C rfl fwMo_110 dMo_keep_144 ?_
                      refine XM_iload_n C dMo_keep_147 rfl ?_
                      refine XM_aload_n C dMo_keep_148 rfl ?_
                      refine XM_get (k := 9) (v := .ref (M.2.1 9)) C rfl fwMo_31 dMo_keep_149 ?_
                      refine XM_iload C dMo_keep_152 rfl ?_
                      obtain ⟨q34, hR⟩ := o_if hR
                      refine XM_iald (k := 9) (n := 36) C rfl (xin_vp q34) dMo_keep_154 ?_
                      refine XM_if_ge (tgt := 169) C dMo_keep_155 (by decide) (fun c35 => ?_) (fun c35 => ?_)
                      · rw [if_pos c35] at hR
                        refine XM_aload_n C dMo_keep_169 rfl ?_
                        refine XM_get (k := 9) (v := .ref (M.2.1 9)) C rfl fwMo_31 dMo_keep_170 ?_
                        refine XM_iload C dMo_keep_173 rfl ?_
                        obtain ⟨q36, hR⟩ := o_if hR
                        refine XM_iald (k := 9) (n := 36) C rfl (xin_vp q36) dMo_keep_175 ?_
                        obtain ⟨q37, hR⟩ := o_if hR
                        refine XM_iast (k := 49) (n := 8) C rfl (xin_vp q37) dMo_keep_176 ?_
                        obtain ⟨s38, es38, hR⟩ := b_bnd hR
                        rw [← es38]
                        refine XM_goto (tgt := 205) C dMo_keep_177 (by decide) ?_
                        refine XM_iconst (v := 0) C dMo_keep_205 rfl ?_
                        refine XM_istore (lv' := [(5, .int ((0 : Int32))), (6, .int ((((10 : Int32)) + (s11 11 (Int32.toNatClampNeg ((((12 : Int32)) * (x3)) + (x4))))) + ((100 : Int32)))), (0, .ref (M.1)), (1, .int (x1)), (2, .int (x2)), (3, .int (x3)), (4, .int (x4))]) C dMo_keep_206 (by decide) rfl ?_
                        refine XM_sub (lv' := [(0, .ref (M.1)), (1, .int (x1)), (2, .int (x2)), (3, .int (x3)), (4, .int (x4)), (5, .int ((0 : Int32)))]) [2, 3, 4, 5, 6, 0] rfl ?_
                        exact (ih (x1) (x2) (x3) (x4) ((0 : Int32)) 0 _ _ _).2 hR
                      · rw [if_neg c35] at hR
                        refine XM_aload_n C dMo_keep_158 rfl ?_
                        refine XM_get (k := 9) (v := .ref (M.2.1 9)) C rfl fwMo_31 dMo_keep_159 ?_
                        refine XM_iload C dMo_keep_162 rfl ?_
                        obtain ⟨q39, hR⟩ := o_if hR
                        refine XM_iald (k := 9) (n := 36) C rfl (xin_vp q39) dMo_keep_164 ?_
                        refine XM_ineg C dMo_keep_165 ?_
                        refine XM_goto (tgt := 176) C dMo_keep_166 (by decide) ?_
                        obtain ⟨q40, hR⟩ := o_if hR
                        refine XM_iast (k := 49) (n := 8) C rfl (xin_vp q40) dMo_keep_176 ?_
                        obtain ⟨s41, es41, hR⟩ := b_bnd hR
                        rw [← es41]
                        refine XM_goto (tgt := 205) C dMo_keep_177 (by decide) ?_
                        refine XM_iconst (v := 0) C dMo_keep_205 rfl ?_
                        refine XM_istore (lv' := [(5, .int ((0 : Int32))), (6, .int ((((10 : Int32)) + (s11 11 (Int32.toNatClampNeg ((((12 : Int32)) * (x3)) + (x4))))) + ((100 : Int32)))), (0, .ref (M.1)), (1, .int (x1)), (2, .int (x2)), (3, .int (x3)), (4, .int (x4))]) C dMo_keep_206 (by decide) rfl ?_
                        refine XM_sub (lv' := [(0, .ref (M.1)), (1, .int (x1)), (2, .int (x2)), (3, .int (x3)), (4, .int (x4)), (5, .int ((0 : Int32)))]) [2, 3, 4, 5, 6, 0] rfl ?_
                        exact (ih (x1) (x2) (x3) (x4) ((0 : Int32)) 0 _ _ _).2 hR
                  · rw [if_pos c19] at hR
                    refine XM_iconst (v := 0) C dMo_keep_109 rfl ?_
                    refine XM_goto (tgt := 115) C dMo_keep_110 (by decide) ?_
                    refine XM_iadd C dMo_keep_115 ?_
                    refine XM_istore (lv' := [(6, .int ((((10 : Int32)) + (s11 11 (Int32.toNatClampNeg ((((12 : Int32)) * (x3)) + (x4))))) + ((0 : Int32)))), (5, .int ((((12 : Int32)) * (x3)) + (x4))), (0, .ref (M.1)), (1, .int (x1)), (2, .int (x2)), (3, .int (x3)), (4, .int (x4))]) C dMo_keep_116 (by decide) rfl ?_
                    refine XM_aload_n C dMo_keep_118 rfl ?_
                    refine XM_get (k := 48) (v := .ref (M.2.1 48)) C rfl fwMo_107 dMo_keep_119 ?_
                    refine XM_iload_n C dMo_keep_122 rfl ?_
                    refine XM_aload_n C dMo_keep_123 rfl ?_
                    refine XM_get (k := 9) (v := .ref (M.2.1 9)) C rfl fwMo_31 dMo_keep_124 ?_
                    refine XM_iload C dMo_keep_127 rfl ?_
                    obtain ⟨q42, hR⟩ := o_if hR
                    refine XM_iald (k := 9) (n := 36) C rfl (xin_vp q42) dMo_keep_129 ?_
                    refine XM_if_ge (tgt := 140) C dMo_keep_130 (by decide) (fun c43 => ?_) (fun c43 => ?_)
                    · rw [if_pos c43] at hR
                      refine XM_iload C dMo_keep_140 rfl ?_
                      obtain ⟨q44, hR⟩ := o_if hR
                      refine XM_iast (k := 48) (n := 8) C rfl (xin_vp q44) dMo_keep_142 ?_
                      obtain ⟨s45, es45, hR⟩ := b_bnd hR
                      rw [← es45]
                      refine XM_aload_n C dMo_keep_143 rfl ?_
                      refine XM_get (k := 49) (v := .ref (M.2.1 49)) C rfl fwMo_110 dMo_keep_144 ?_
                      refine XM_iload_n C dMo_keep_147 rfl ?_
                      refine XM_aload_n C dMo_keep_148 rfl ?_
                      refine XM_get (k := 9) (v := .ref (M.2.1 9)) C rfl fwMo_31 dMo_keep_149 ?_
                      refine XM_iload C dMo_keep_152 rfl ?_
                      obtain ⟨q46, hR⟩ := o_if hR
                      refine XM_iald (k := 9) (n := 36) C rfl (xin_vp q46) dMo_keep_154 ?_
                      refine XM_if_ge (tgt := 169) C dMo_keep_155 (by decide) (fun c47 => ?_) (fun c47 => ?_)
                      · rw [if_pos c47] at hR
                        refine XM_aload_n C dMo_keep_169 rfl ?_
                        refine XM_get (k := 9) (v := .ref (M.2.1 9)) C rfl fwMo_31 dMo_keep_170 ?_
                        refine XM_iload C dMo_keep_173 rfl ?_
                        obtain ⟨q48, hR⟩ := o_if hR
                        refine XM_iald (k := 9) (n := 36) C rfl (xin_vp q48) dMo_keep_175 ?_
                        obtain ⟨q49, hR⟩ := o_if hR
                        refine XM_iast (k := 49) (n := 8) C rfl (xin_vp q49) dMo_keep_176 ?_
                        obtain ⟨s50, es50, hR⟩ := b_bnd hR
                        rw [← es50]
                        refine XM_goto (tgt := 205) C dMo_keep_177 (by decide) ?_
                        refine XM_iconst (v := 0) C dMo_keep_205 rfl ?_
                        refine XM_istore (lv' := [(5, .int ((0 : Int32))), (6, .int ((((10 : Int32)) + (s11 11 (Int32.toNatClampNeg ((((12 : Int32)) * (x3)) + (x4))))) + ((0 : Int32)))), (0, .ref (M.1)), (1, .int (x1)), (2, .int (x2)), (3, .int (x3)), (4, .int (x4))]) C dMo_keep_206 (by decide) rfl ?_
                        refine XM_sub (lv' := [(0, .ref (M.1)), (1, .int (x1)), (2, .int (x2)), (3, .int (x3)), (4, .int (x4)), (5, .int ((0 : Int32)))]) [2, 3, 4, 5, 6, 0] rfl ?_
                        exact (ih (x1) (x2) (x3) (x4) ((0 : Int32)) 0 _ _ _).2 hR
                      · rw [if_neg c47] at hR
                        refine XM_aload_n C dMo_keep_158 rfl ?_
                        refine XM_get (k := 9) (v := .ref (M.2.1 9)) C rfl fwMo_31 dMo_keep_159 ?_
                        refine XM_iload C dMo_keep_162 rfl ?_
                        obtain ⟨q51, hR⟩ := o_if hR
                        refine XM_iald (k := 9) (n := 36) C rfl (xin_vp q51) dMo_keep_164 ?_
                        refine XM_ineg C dMo_keep_165 ?_
                        refine XM_goto (tgt := 176) C dMo_keep_166 (by decide) ?_
                        obtain ⟨q52, hR⟩ := o_if hR
                        refine XM_iast (k := 49) (n := 8) C rfl (xin_vp q52) dMo_keep_176 ?_
                        obtain ⟨s53, es53, hR⟩ := b_bnd hR
                        rw [← es53]
                        refine XM_goto (tgt := 205) C dMo_keep_177 (by decide) ?_
                        refine XM_iconst (v := 0) C dMo_keep_205 rfl ?_
                        refine XM_istore (lv' := [(5, .int ((0 : Int32))), (6, .int ((((10 : Int32)) + (s11 11 (Int32.toNatClampNeg ((((12 : Int32)) * (x3)) + (x4))))) + ((0 : Int32)))), (0, .ref (M.1)), (1, .int (x1)), (2, .int (x2)), (3, .int (x3)), (4, .int (x4))]) C dMo_keep_206 (by decide) rfl ?_
                        refine XM_sub (lv' := [(0, .ref (M.1)), (1, .int (x1)), (2, .int (x2)), (3, .int (x3)), (4, .int (x4)), (5, .int ((0 : Int32)))]) [2, 3, 4, 5, 6, 0] rfl ?_
                        exact (ih (x1) (x2) (x3) (x4) ((0 : Int32)) 0 _ _ _).2 hR
                    · rw [if_neg c43] at hR
                      refine XM_iconst (v := 2) C dMo_keep_133 rfl ?_
                      refine XM_iload C dMo_keep_134 rfl ?_
                      refine XM_imul C dMo_keep_136 ?_
                      refine XM_goto (tgt := 142) C dMo_keep_137 (by decide) ?_
                      obtain ⟨q54, hR⟩ := o_if hR
                      refine XM_iast (k := 48) (n := 8) C rfl (xin_vp q54) dMo_keep_142 ?_
                      obtain ⟨s55, es55, hR⟩ := b_bnd hR
                      rw [← es55]
                      refine XM_aload_n C dMo_keep_143 rfl ?_
                      refine XM_get (k := 49) (v := .ref (M.2.1 49)) C rfl fwMo_110 dMo_keep_144 ?_
                      refine XM_iload_n C dMo_keep_147 rfl ?_
                      refine XM_aload_n C dMo_keep_148 rfl ?_
                      refine XM_get (k := 9) (v := .ref (M.2.1 9)) C rfl fwMo_31 dMo_keep_149 ?_
                      refine XM_iload C dMo_keep_152 rfl ?_
                      obtain ⟨q56, hR⟩ := o_if hR
                      refine XM_iald (k := 9) (n := 36) C rfl (xin_vp q56) dMo_keep_154 ?_
                      refine XM_if_ge (tgt := 169) C dMo_keep_155 (by decide) (fun c57 => ?_) (fun c57 => ?_)
                      · rw [if_pos c57] at hR
                        refine XM_aload_n C dMo_keep_169 rfl ?_
                        refine XM_get (k := 9) (v := .ref (M.2.1 9)) C rfl fwMo_31 dMo_keep_170 ?_
                        refine XM_iload C dMo_keep_173 rfl ?_
                        obtain ⟨q58, hR⟩ := o_if hR
                        refine XM_iald (k := 9) (n := 36) C rfl (xin_vp q58) dMo_keep_175 ?_
                        obtain ⟨q59, hR⟩ := o_if hR
                        refine XM_iast (k := 49) (n := 8) C rfl (xin_vp q59) dMo_keep_176 ?_
                        obtain ⟨s60, es60, hR⟩ := b_bnd hR
                        rw [← es60]
                        refine XM_goto (tgt := 205) C dMo_keep_177 (by decide) ?_
                        refine XM_iconst (v := 0) C dMo_keep_205 rfl ?_
                        refine XM_istore (lv' := [(5, .int ((0 : Int32))), (6, .int ((((10 : Int32)) + (s11 11 (Int32.toNatClampNeg ((((12 : Int32)) * (x3)) + (x4))))) + ((0 : Int32)))), (0, .ref (M.1)), (1, .int (x1)), (2, .int (x2)), (3, .int (x3)), (4, .int (x4))]) C dMo_keep_206 (by decide) rfl ?_
                        refine XM_sub (lv' := [(0, .ref (M.1)), (1, .int (x1)), (2, .int (x2)), (3, .int (x3)), (4, .int (x4)), (5, .int ((0 : Int32)))]) [2, 3, 4, 5, 6, 0] rfl ?_
                        exact (ih (x1) (x2) (x3) (x4) ((0 : Int32)) 0 _ _ _).2 hR
                      · rw [if_neg c57] at hR
                        refine XM_aload_n C dMo_keep_158 rfl ?_
                        refine XM_get (k := 9) (v := .ref (M.2.1 9)) C rfl fwMo_31 dMo_keep_159 ?_
                        refine XM_iload C dMo_keep_162 rfl ?_
                        obtain ⟨q61, hR⟩ := o_if hR
                        refine XM_iald (k := 9) (n := 36) C rfl (xin_vp q61) dMo_keep_164 ?_
                        refine XM_ineg C dMo_keep_165 ?_
                        refine XM_goto (tgt := 176) C dMo_keep_166 (by decide) ?_
                        obtain ⟨q62, hR⟩ := o_if hR
                        refine XM_iast (k := 49) (n := 8) C rfl (xin_vp q62) dMo_keep_176 ?_
                        obtain ⟨s63, es63, hR⟩ := b_bnd hR
                        rw [← es63]
                        refine XM_goto (tgt := 205) C dMo_keep_177 (by decide) ?_
                        refine XM_iconst (v := 0) C dMo_keep_205 rfl ?_
                        refine XM_istore (lv' := [(5, .int ((0 : Int32))), (6, .int ((((10 : Int32)) + (s11 11 (Int32.toNatClampNeg ((((12 : Int32)) * (x3)) + (x4))))) + ((0 : Int32)))), (0, .ref (M.1)), (1, .int (x1)), (2, .int (x2)), (3, .int (x3)), (4, .int (x4))]) C dMo_keep_206 (by decide) rfl ?_
                        refine XM_sub (lv' := [(0, .ref (M.1)), (1, .int (x1)), (2, .int (x2)), (3, .int (x3)), (4, .int (x4)), (5, .int ((0 : Int32)))]) [2, 3, 4, 5, 6, 0] rfl ?_
                        exact (ih (x1) (x2) (x3) (x4) ((0 : Int32)) 0 _ _ _).2 hR
              · rw [if_neg c9] at hR
                refine XM_aload_n C dMo_keep_65 rfl ?_
                refine XM_get (k := 22) (v := .int (s6 22 0)) C rfl fwMo_199 dMo_keep_66 ?_
                refine XM_goto (tgt := 74) C dMo_keep_69 (by decide) ?_
                obtain ⟨q64, hR⟩ := o_if hR
                refine XM_iast (k := 47) (n := 8) C rfl (xin_vp q64) dMo_keep_74 ?_
                obtain ⟨s65, es65, hR⟩ := b_bnd hR
                rw [← es65]
                refine XM_iload_n C dMo_keep_75 rfl ?_
                refine XM_iconst (v := 1) C dMo_keep_76 rfl ?_
                refine XM_icmp_ne (tgt := 180) C dMo_keep_77 (by decide) (fun c66 => ?_) (fun c66 => ?_)
                · rw [if_neg c66] at hR
                  refine XM_iload_n C dMo_keep_180 rfl ?_
                  refine XM_iconst (v := 2) C dMo_keep_181 rfl ?_
                  refine XM_icmp_ne (tgt := 205) C dMo_keep_182 (by decide) (fun c67 => ?_) (fun c67 => ?_)
                  · rw [if_neg c67] at hR
                    refine XM_iconst (v := 0) C dMo_keep_205 rfl ?_
                    refine XM_istore (lv' := [(5, .int ((0 : Int32))), (0, .ref (M.1)), (1, .int (x1)), (2, .int (x2)), (3, .int (x3)), (4, .int (x4))]) C dMo_keep_206 (by decide) rfl ?_
                    refine XM_sub (lv' := [(0, .ref (M.1)), (1, .int (x1)), (2, .int (x2)), (3, .int (x3)), (4, .int (x4)), (5, .int ((0 : Int32)))]) [1, 2, 3, 4, 5, 0] rfl ?_
                    exact (ih (x1) (x2) (x3) (x4) ((0 : Int32)) 0 _ _ _).2 hR
                  · rw [if_pos c67] at hR
                    refine XM_aload_n C dMo_keep_185 rfl ?_
                    refine XM_get (k := 48) (v := .ref (M.2.1 48)) C rfl fwMo_107 dMo_keep_186 ?_
                    refine XM_iload_n C dMo_keep_189 rfl ?_
                    refine XM_iconst (v := 3) C dMo_keep_190 rfl ?_
                    refine XM_aload_n C dMo_keep_191 rfl ?_
                    refine XM_get (k := 4) (v := .ref (M.2.1 4)) C rfl fwMo_16 dMo_keep_192 ?_
                    refine XM_bipush (v := 6) C dMo_keep_195 (by decide) ?_
                    refine XM_iload_n C dMo_keep_197 rfl ?_
                    refine XM_imul C dMo_keep_198 ?_
                    refine XM_iload C dMo_keep_199 rfl ?_
                    refine XM_iadd C dMo_keep_201 ?_
                    obtain ⟨q68, hR⟩ := o_if hR
                    refine XM_iald (k := 4) (n := 18) C rfl (xin_vp q68) dMo_keep_202 ?_
                    refine XM_iadd C dMo_keep_203 ?_
                    obtain ⟨q69, hR⟩ := o_if hR
                    refine XM_iast (k := 48) (n := 8) C rfl (xin_vp q69) dMo_keep_204 ?_
                    obtain ⟨s70, es70, hR⟩ := b_bnd hR
                    rw [← es70]
                    refine XM_iconst (v := 0) C dMo_keep_205 rfl ?_
                    refine XM_istore (lv' := [(5, .int ((0 : Int32))), (0, .ref (M.1)), (1, .int (x1)), (2, .int (x2)), (3, .int (x3)), (4, .int (x4))]) C dMo_keep_206 (by decide) rfl ?_
                    refine XM_sub (lv' := [(0, .ref (M.1)), (1, .int (x1)), (2, .int (x2)), (3, .int (x3)), (4, .int (x4)), (5, .int ((0 : Int32)))]) [1, 2, 3, 4, 5, 0] rfl ?_
                    exact (ih (x1) (x2) (x3) (x4) ((0 : Int32)) 0 _ _ _).2 hR
                · rw [if_pos c66] at hR
                  refine XM_bipush (v := 12) C dMo_keep_80 (by decide) ?_
                  refine XM_iload_n C dMo_keep_82 rfl ?_
                  refine XM_imul C dMo_keep_83 ?_
                  refine XM_iload C dMo_keep_84 rfl ?_
                  refine XM_iadd C dMo_keep_86 ?_
                  refine XM_istore (lv' := [(5, .int ((((12 : Int32)) * (x3)) + (x4))), (0, .ref (M.1)), (1, .int (x1)), (2, .int (x2)), (3, .int (x3)), (4, .int (x4))]) C dMo_keep_87 (by decide) rfl ?_
                  refine XM_bipush (v := 10) C dMo_keep_89 (by decide) ?_
                  refine XM_aload_n C dMo_keep_91 rfl ?_
                  refine XM_get (k := 11) (v := .ref (M.2.1 11)) C rfl fwMo_37 dMo_keep_92 ?_
                  refine XM_iload C dMo_keep_95 rfl ?_
                  obtain ⟨q71, hR⟩ := o_if hR
                  refine XM_iald (k := 11) (n := 36) C rfl (xin_vp q71) dMo_keep_97 ?_
                  refine XM_iadd C dMo_keep_98 ?_
                  refine XM_aload_n C dMo_keep_99 rfl ?_
                  refine XM_get (k := 9) (v := .ref (M.2.1 9)) C rfl fwMo_31 dMo_keep_100 ?_
                  refine XM_iload C dMo_keep_103 rfl ?_
                  obtain ⟨q72, hR⟩ := o_if hR
                  refine XM_iald (k := 9) (n := 36) C rfl (xin_vp q72) dMo_keep_105 ?_
                  refine XM_if_ne (tgt := 113) C dMo_keep_106 (by decide) (fun c73 => ?_) (fun c73 => ?_)
                  · rw [if_neg c73] at hR
                    refine XM_bipush (v := 100) C dMo_keep_113 (by decide) ?_
                    refine XM_iadd C dMo_keep_115 ?_
                    refine XM_istore (lv' := [(6, .int ((((10 : Int32)) + (s65 11 (Int32.toNatClampNeg ((((12 : Int32)) * (x3)) + (x4))))) + ((100 : Int32)))), (5, .int ((((12 : Int32)) * (x3)) + (x4))), (0, .ref (M.1)), (1, .int (x1)), (2, .int (x2)), (3, .int (x3)), (4, .int (x4))]) C dMo_keep_116 (by decide) rfl ?_
                    refine XM_aload_n C dMo_keep_118 rfl ?_
                    refine XM_get (k := 48) (v := .ref (M.2.1 48)) C rfl fwMo_107 dMo_keep_119 ?_
                    refine XM_iload_n C dMo_keep_122 rfl ?_
                    refine XM_aload_n C dMo_keep_123 rfl ?_
                    refine XM_get (k := 9) (v := .ref (M.2.1 9)) C rfl fwMo_31 dMo_keep_124 ?_
                    refine XM_iload C dMo_keep_127 rfl ?_
                    obtain ⟨q74, hR⟩ := o_if hR
                    refine XM_iald (k := 9) (n := 36) C rfl (xin_vp q74) dMo_keep_129 ?_
                    refine XM_if_ge (tgt := 140) C dMo_keep_130 (by decide) (fun c75 => ?_) (fun c75 => ?_)
                    · rw [if_pos c75] at hR
                      refine XM_iload C dMo_keep_140 rfl ?_
                      obtain ⟨q76, hR⟩ := o_if hR
                      refine XM_iast (k := 48) (n := 8) C rfl (xin_vp q76) dMo_keep_142 ?_
                      obtain ⟨s77, es77, hR⟩ := b_bnd hR
                      rw [← es77]
                      refine XM_aload_n C dMo_keep_143 rfl ?_
                      refine XM_get (k := 49) (v := .ref (M.2.1 49)) C rfl fwMo_110 dMo_keep_144 ?_
                      refine XM_iload_n C dMo_keep_147 rfl ?_
                      refine XM_aload_n C dMo_keep_148 rfl ?_
                      refine XM_get (k := 9) (v := .ref (M.2.1 9)) C rfl fwMo_31 dMo_keep_149 ?_
                      refine XM_iload C dMo_keep_152 rfl ?_
                      obtain ⟨q78, hR⟩ := o_if hR
                      refine XM_iald (k := 9) (n := 36) C rfl (xin_vp q78) dMo_keep_154 ?_
                      refine XM_if_ge (tgt := 169) C dMo_keep_155 (by decide) (fun c79 => ?_) (fun c79 => ?_)
                      · rw [if_pos c79] at hR
                        refine XM_aload_n C dMo_keep_169 rfl ?_
                        refine XM_get (k := 9) (v := .ref (M.2.1 9)) C rfl fwMo_31 dMo_keep_170 ?_
                        refine XM_iload C dMo_keep_173 rfl ?_
                        obtain ⟨q80, hR⟩ := o_if hR
                        refine XM_iald (k := 9) (n := 36) C rfl (xin_vp q80) dMo_keep_175 ?_
                        obtain ⟨q81, hR⟩ := o_if hR
                        refine XM_iast (k := 49) (n := 8) C rfl (xin_vp q81) dMo_keep_176 ?_
                        obtain ⟨s82, es82, hR⟩ := b_bnd hR
                        rw [← es82]
                        refine XM_goto (tgt := 205) C dMo_keep_177 (by decide) ?_
                        refine XM_iconst (v := 0) C dMo_keep_205 rfl ?_
                        refine XM_istore (lv' := [(5, .int ((0 : Int32))), (6, .int ((((10 : Int32)) + (s65 11 (Int32.toNatClampNeg ((((12 : Int32)) * (x3)) + (x4))))) + ((100 : Int32)))), (0, .ref (M.1)), (1, .int (x1)), (2, .int (x2)), (3, .int (x3)), (4, .int (x4))]) C dMo_keep_206 (by decide) rfl ?_
                        refine XM_sub (lv' := [(0, .ref (M.1)), (1, .int (x1)), (2, .int (x2)), (3, .int (x3)), (4, .int (x4)), (5, .int ((0 : Int32)))]) [2, 3, 4, 5, 6, 0] rfl ?_
                        exact (ih (x1) (x2) (x3) (x4) ((0 : Int32)) 0 _ _ _).2 hR
                      · rw [if_neg c79] at hR
                        refine XM_aload_n C dMo_keep_158 rfl ?_
                        refine XM_get (k := 9) (v := .ref (M.2.1 9)) C rfl fwMo_31 dMo_keep_159 ?_
                        refine XM_iload C dMo_keep_162 rfl ?_
                        obtain ⟨q83, hR⟩ := o_if hR
                        refine XM_iald (k := 9) (n := 36) C rfl (xin_vp q83) dMo_keep_164 ?_
                        refine XM_ineg C dMo_keep_165 ?_
                        refine XM_goto (tgt := 176) C dMo_keep_166 (by decide) ?_
                        obtain ⟨q84, hR⟩ := o_if hR
                        refine XM_iast (k := 49) (n := 8) C rfl (xin_vp q84) dMo_keep_176 ?_
                        obtain ⟨s85, es85, hR⟩ := b_bnd hR
                        rw [← es85]
                        refine XM_goto (tgt := 205) C dMo_keep_177 (by decide) ?_
                        refine XM_iconst (v := 0) C dMo_keep_205 rfl ?_
                        refine XM_istore (lv' := [(5, .int ((0 : Int32))), (6, .int ((((10 : Int32)) + (s65 11 (Int32.toNatClampNeg ((((12 : Int32)) * (x3)) + (x4))))) + ((100 : Int32)))), (0, .ref (M.1)), (1, .int (x1)), (2, .int (x2)), (3, .int (x3)), (4, .int (x4))]) C dMo_keep_206 (by decide) rfl ?_
                        refine XM_sub (lv' := [(0, .ref (M.1)), (1, .int (x1)), (2, .int (x2)), (3, .int (x3)), (4, .int (x4)), (5, .int ((0 : Int32)))]) [2, 3, 4, 5, 6, 0] rfl ?_
                        exact (ih (x1) (x2) (x3) (x4) ((0 : Int32)) 0 _ _ _).2 hR
                    · rw [if_neg c75] at hR
                      refine XM_iconst (v := 2) C dMo_keep_133 rfl ?_
                      refine XM_iload C dMo_keep_134 rfl ?_
                      refine XM_imul C dMo_keep_136 ?_
                      refine XM_goto (tgt := 142) C dMo_keep_137 (by decide) ?_
                      obtain ⟨q86, hR⟩ := o_if hR
                      refine XM_iast (k := 48) (n := 8) C rfl (xin_vp q86) dMo_keep_142 ?_
                      obtain ⟨s87, es87, hR⟩ := b_bnd hR
                      rw [← es87]
                      refine XM_aload_n C dMo_keep_143 rfl ?_
                      refine XM_get (k := 49) (v := .ref (M.2.1 49)) C rfl fwMo_110 dMo_keep_144 ?_
                      refine XM_iload_n C dMo_keep_147 rfl ?_
                      refine XM_aload_n C dMo_keep_148 rfl ?_
                      refine XM_get (k := 9) (v := .ref (M.2.1 9)) C rfl fwMo_31 dMo_keep_149 ?_
                      refine XM_iload C dMo_keep_152 rfl ?_
                      obtain ⟨q88, hR⟩ := o_if hR
                      refine XM_iald (k := 9) (n := 36) C rfl (xin_vp q88) dMo_keep_154 ?_
                      refine XM_if_ge (tgt := 169) C dMo_keep_155 (by decide) (fun c89 => ?_) (fun c89 => ?_)
                      · rw [if_pos c89] at hR
                        refine XM_aload_n C dMo_keep_169 rfl ?_
                        refine XM_get (k := 9) (v := .ref (M.2.1 9)) C rfl fwMo_31 dMo_keep_170 ?_
                        refine XM_iload C dMo_keep_173 rfl ?_
                        obtain ⟨q90, hR⟩ := o_if hR
                        refine XM_iald (k := 9) (n := 36) C rfl (xin_vp q90) dMo_keep_175 ?_
                        obtain ⟨q91, hR⟩ := o_if hR
                        refine XM_iast (k := 49) (n := 8) C rfl (xin_vp q91) dMo_keep_176 ?_
                        obtain ⟨s92, es92, hR⟩ := b_bnd hR
                        rw [← es92]
                        refine XM_goto (tgt := 205) C dMo_keep_177 (by decide) ?_
                        refine XM_iconst (v := 0) C dMo_keep_205 rfl ?_
                        refine XM_istore (lv' := [(5, .int ((0 : Int32))), (6, .int ((((10 : Int32)) + (s65 11 (Int32.toNatClampNeg ((((12 : Int32)) * (x3)) + (x4))))) + ((100 : Int32)))), (0, .ref (M.1)), (1, .int (x1)), (2, .int (x2)), (3, .int (x3)), (4, .int (x4))]) C dMo_keep_206 (by decide) rfl ?_
                        refine XM_sub (lv' := [(0, .ref (M.1)), (1, .int (x1)), (2, .int (x2)), (3, .int (x3)), (4, .int (x4)), (5, .int ((0 : Int32)))]) [2, 3, 4, 5, 6, 0] rfl ?_
                        exact (ih (x1) (x2) (x3) (x4) ((0 : Int32)) 0 _ _ _).2 hR
                      · rw [if_neg c89] at hR
                        refine XM_aload_n C dMo_keep_158 rfl ?_
                        refine XM_get (k := 9) (v := .ref (M.2.1 9)) C rfl fwMo_31 dMo_keep_159 ?_
                        refine XM_iload C dMo_keep_162 rfl ?_
                        obtain ⟨q93, hR⟩ := o_if hR
                        refine XM_iald (k := 9) (n := 36) C rfl (xin_vp q93) dMo_keep_164 ?_
                        refine XM_ineg C dMo_keep_165 ?_
                        refine XM_goto (tgt := 176) C dMo_keep_166 (by decide) ?_
                        obtain ⟨q94, hR⟩ := o_if hR
                        refine XM_iast (k := 49) (n := 8) C rfl (xin_vp q94) dMo_keep_176 ?_
                        obtain ⟨s95, es95, hR⟩ := b_bnd hR
                        rw [← es95]
                        refine XM_goto (tgt := 205) C dMo_keep_177 (by decide) ?_
                        refine XM_iconst (v := 0) C dMo_keep_205 rfl ?_
                        refine XM_istore (lv' := [(5, .int ((0 : Int32))), (6, .int ((((10 : Int32)) + (s65 11 (Int32.toNatClampNeg ((((12 : Int32)) * (x3)) + (x4))))) + ((100 : Int32)))), (0, .ref (M.1)), (1, .int (x1)), (2, .int (x2)), (3, .int (x3)), (4, .int (x4))]) C dMo_keep_206 (by decide) rfl ?_
                        refine XM_sub (lv' := [(0, .ref (M.1)), (1, .int (x1)), (2, .int (x2)), (3, .int (x3)), (4, .int (x4)), (5, .int ((0 : Int32)))]) [2, 3, 4, 5, 6, 0] rfl ?_
                        exact (ih (x1) (x2) (x3) (x4) ((0 : Int32)) 0 _ _ _).2 hR
                  · rw [if_pos c73] at hR
                    refine XM_iconst (v := 0) C dMo_keep_109 rfl ?_
                    refine XM_goto (tgt := 115) C dMo_keep_110 (by decide) ?_
                    refine XM_iadd C dMo_keep_115 ?_
                    refine XM_istore (lv' := [(6, .int ((((10 : Int32)) + (s65 11 (Int32.toNatClampNeg ((((12 : Int32)) * (x3)) + (x4))))) + ((0 : Int32)))), (5, .int ((((12 : Int32)) * (x3)) + (x4))), (0, .ref (M.1)), (1, .int (x1)), (2, .int (x2)), (3, .int (x3)), (4, .int (x4))]) C dMo_keep_116 (by decide) rfl ?_
                    refine XM_aload_n C dMo_keep_118 rfl ?_
                    refine XM_get (k := 48) (v := .ref (M.2.1 48)) C rfl fwMo_107 dMo_keep_119 ?_
                    refine XM_iload_n C dMo_keep_122 rfl ?_
                    refine XM_aload_n C dMo_keep_123 rfl ?_
                    refine XM_get (k := 9) (v := .ref (M.2.1 9)) C rfl fwMo_31 dMo_keep_124 ?_
                    refine XM_iload C dMo_keep_127 rfl ?_
                    obtain ⟨q96, hR⟩ := o_if hR
                    refine XM_iald (k := 9) (n := 36) C rfl (xin_vp q96) dMo_keep_129 ?_
                    refine XM_if_ge (tgt := 140) C dMo_keep_130 (by decide) (fun c97 => ?_) (fun c97 => ?_)
                    · rw [if_pos c97] at hR
                      refine XM_iload C dMo_keep_140 rfl ?_
                      obtain ⟨q98, hR⟩ := o_if hR
                      refine XM_iast (k := 48) (n := 8) C rfl (xin_vp q98) dMo_keep_142 ?_
                      obtain ⟨s99, es99, hR⟩ := b_bnd hR
                      rw [← es99]
                      refine XM_aload_n C dMo_keep_143 rfl ?_
                      refine XM_get (k := 49) (v := .ref (M.2.1 49)) C rfl fwMo_110 dMo_keep_144 ?_
                      refine XM_iload_n C dMo_keep_147 rfl ?_
                      refine XM_aload_n C dMo_keep_148 rfl ?_
                      refine XM_get (k := 9) (v := .ref (M.2.1 9)) C rfl fwMo_31 dMo_keep_149 ?_
                      refine XM_iload C dMo_keep_152 rfl ?_
                      obtain ⟨q100, hR⟩ := o_if hR
                      refine XM_iald (k := 9) (n := 36) C rfl (xin_vp q100) dMo_keep_154 ?_
                      refine XM_if_ge (tgt := 169) C dMo_keep_155 (by decide) (fun c101 => ?_) (fun c101 => ?_)
                      · rw [if_pos c101] at hR
                        refine XM_aload_n C dMo_keep_169 rfl ?_
                        refine XM_get (k := 9) (v := .ref (M.2.1 9)) C rfl fwMo_31 dMo_keep_170 ?_
                        refine XM_iload C dMo_keep_173 rfl ?_
                        obtain ⟨q102, hR⟩ := o_if hR
                        refine XM_iald (k := 9) (n := 36) C rfl (xin_vp q102) dMo_keep_175 ?_
                        obtain ⟨q103, hR⟩ := o_if hR
                        refine XM_iast (k := 49) (n := 8) C rfl (xin_vp q103) dMo_keep_176 ?_
                        obtain ⟨s104, es104, hR⟩ := b_bnd hR
                        rw [← es104]
                        refine XM_goto (tgt := 205) C dMo_keep_177 (by decide) ?_
                        refine XM_iconst (v := 0) C dMo_keep_205 rfl ?_
                        refine XM_istore (lv' := [(5, .int ((0 : Int32))), (6, .int ((((10 : Int32)) + (s65 11 (Int32.toNatClampNeg ((((12 : Int32)) * (x3)) + (x4))))) + ((0 : Int32)))), (0, .ref (M.1)), (1, .int (x1)), (2, .int (x2)), (3, .int (x3)), (4, .int (x4))]) C dMo_keep_206 (by decide) rfl ?_
                        refine XM_sub (lv' := [(0, .ref (M.1)), (1, .int (x1)), (2, .int (x2)), (3, .int (x3)), (4, .int (x4)), (5, .int ((0 : Int32)))]) [2, 3, 4, 5, 6, 0] rfl ?_
                        exact (ih (x1) (x2) (x3) (x4) ((0 : Int32)) 0 _ _ _).2 hR
                      · rw [if_neg c101] at hR
                        refine XM_aload_n C dMo_keep_158 rfl ?_
                        refine XM_get (k := 9) (v := .ref (M.2.1 9)) C rfl fwMo_31 dMo_keep_159 ?_
                        refine XM_iload C dMo_keep_162 rfl ?_
                        obtain ⟨q105, hR⟩ := o_if hR
                        refine XM_iald (k := 9) (n := 36) C rfl (xin_vp q105) dMo_keep_164 ?_
                        refine XM_ineg C dMo_keep_165 ?_
                        refine XM_goto (tgt := 176) C dMo_keep_166 (by decide) ?_
                        obtain ⟨q106, hR⟩ := o_if hR
                        refine XM_iast (k := 49) (n := 8) C rfl (xin_vp q106) dMo_keep_176 ?_
                        obtain ⟨s107, es107, hR⟩ := b_bnd hR
                        rw [← es107]
                        refine XM_goto (tgt := 205) C dMo_keep_177 (by decide) ?_
                        refine XM_iconst (v := 0) C dMo_keep_205 rfl ?_
                        refine XM_istore (lv' := [(5, .int ((0 : Int32))), (6, .int ((((10 : Int32)) + (s65 11 (Int32.toNatClampNeg ((((12 : Int32)) * (x3)) + (x4))))) + ((0 : Int32)))), (0, .ref (M.1)), (1, .int (x1)), (2, .int (x2)), (3, .int (x3)), (4, .int (x4))]) C dMo_keep_206 (by decide) rfl ?_
                        refine XM_sub (lv' := [(0, .ref (M.1)), (1, .int (x1)), (2, .int (x2)), (3, .int (x3)), (4, .int (x4)), (5, .int ((0 : Int32)))]) [2, 3, 4, 5, 6, 0] rfl ?_
                        exact (ih (x1) (x2) (x3) (x4) ((0 : Int32)) 0 _ _ _).2 hR
                    · rw [if_neg c97] at hR
                      refine XM_iconst (v := 2) C dMo_keep_133 rfl ?_
                      refine XM_iload C dMo_keep_134 rfl ?_
                      refine XM_imul C dMo_keep_136 ?_
                      refine XM_goto (tgt := 142) C dMo_keep_137 (by decide) ?_
                      obtain ⟨q108, hR⟩ := o_if hR
                      refine XM_iast (k := 48) (n := 8) C rfl (xin_vp q108) dMo_keep_142 ?_
                      obtain ⟨s109, es109, hR⟩ := b_bnd hR
                      rw [← es109]
                      refine XM_aload_n C dMo_keep_143 rfl ?_
                      refine XM_get (k := 49) (v := .ref (M.2.1 49)) C rfl fwMo_110 dMo_keep_144 ?_
                      refine XM_iload_n C dMo_keep_147 rfl ?_
                      refine XM_aload_n C dMo_keep_148 rfl ?_
                      refine XM_get (k := 9) (v := .ref (M.2.1 9)) C rfl fwMo_31 dMo_keep_149 ?_
                      refine XM_iload C dMo_keep_152 rfl ?_
                      obtain ⟨q110, hR⟩ := o_if hR
                      refine XM_iald (k := 9) (n := 36) C rfl (xin_vp q110) dMo_keep_154 ?_
                      refine XM_if_ge (tgt := 169) C dMo_keep_155 (by decide) (fun c111 => ?_) (fun c111 => ?_)
                      · rw [if_pos c111] at hR
                        refine XM_aload_n C dMo_keep_169 rfl ?_
                        refine XM_get (k := 9) (v := .ref (M.2.1 9)) C rfl fwMo_31 dMo_keep_170 ?_
                        refine XM_iload C dMo_keep_173 rfl ?_
                        obtain ⟨q112, hR⟩ := o_if hR
                        refine XM_iald (k := 9) (n := 36) C rfl (xin_vp q112) dMo_keep_175 ?_
                        obtain ⟨q113, hR⟩ := o_if hR
                        refine XM_iast (k := 49) (n := 8) C rfl (xin_vp q113) dMo_keep_176 ?_
                        obtain ⟨s114, es114, hR⟩ := b_bnd hR
                        rw [← es114]
                        refine XM_goto (tgt := 205) C dMo_keep_177 (by decide) ?_
                        refine XM_iconst (v := 0) C dMo_keep_205 rfl ?_
                        refine XM_istore (lv' := [(5, .int ((0 : Int32))), (6, .int ((((10 : Int32)) + (s65 11 (Int32.toNatClampNeg ((((12 : Int32)) * (x3)) + (x4))))) + ((0 : Int32)))), (0, .ref (M.1)), (1, .int (x1)), (2, .int (x2)), (3, .int (x3)), (4, .int (x4))]) C dMo_keep_206 (by decide) rfl ?_
                        refine XM_sub (lv' := [(0, .ref (M.1)), (1, .int (x1)), (2, .int (x2)), (3, .int (x3)), (4, .int (x4)), (5, .int ((0 : Int32)))]) [2, 3, 4, 5, 6, 0] rfl ?_
                        exact (ih (x1) (x2) (x3) (x4) ((0 : Int32)) 0 _ _ _).2 hR
                      · rw [if_neg c111] at hR
                        refine XM_aload_n C dMo_keep_158 rfl ?_
                        refine XM_get (k := 9) (v := .ref (M.2.1 9)) C rfl fwMo_31 dMo_keep_159 ?_
                        refine XM_iload C dMo_keep_162 rfl ?_
                        obtain ⟨q115, hR⟩ := o_if hR
                        refine XM_iald (k := 9) (n := 36) C rfl (xin_vp q115) dMo_keep_164 ?_
                        refine XM_ineg C dMo_keep_165 ?_
                        refine XM_goto (tgt := 176) C dMo_keep_166 (by decide) ?_
                        obtain ⟨q116, hR⟩ := o_if hR
                        refine XM_iast (k := 49) (n := 8) C rfl (xin_vp q116) dMo_keep_176 ?_
                        obtain ⟨s117, es117, hR⟩ := b_bnd hR
                        rw [← es117]
                        refine XM_goto (tgt := 205) C dMo_keep_177 (by decide) ?_
                        refine XM_iconst (v := 0) C dMo_keep_205 rfl ?_
                        refine XM_istore (lv' := [(5, .int ((0 : Int32))), (6, .int ((((10 : Int32)) + (s65 11 (Int32.toNatClampNeg ((((12 : Int32)) * (x3)) + (x4))))) + ((0 : Int32)))), (0, .ref (M.1)), (1, .int (x1)), (2, .int (x2)), (3, .int (x3)), (4, .int (x4))]) C dMo_keep_206 (by decide) rfl ?_
                        refine XM_sub (lv' := [(0, .ref (M.1)), (1, .int (x1)), (2, .int (x2)), (3, .int (x3)), (4, .int (x4)), (5, .int ((0 : Int32)))]) [2, 3, 4, 5, 6, 0] rfl ?_
                        exact (ih (x1) (x2) (x3) (x4) ((0 : Int32)) 0 _ _ _).2 hR
            · rw [if_pos c8] at hR
              refine XM_bipush (v := 16) C dMo_keep_51 (by decide) ?_
              refine XM_goto (tgt := 74) C dMo_keep_53 (by decide) ?_
              obtain ⟨q118, hR⟩ := o_if hR
              refine XM_iast (k := 47) (n := 8) C rfl (xin_vp q118) dMo_keep_74 ?_
              obtain ⟨s119, es119, hR⟩ := b_bnd hR
              rw [← es119]
              refine XM_iload_n C dMo_keep_75 rfl ?_
              refine XM_iconst (v := 1) C dMo_keep_76 rfl ?_
              refine XM_icmp_ne (tgt := 180) C dMo_keep_77 (by decide) (fun c120 => ?_) (fun c120 => ?_)
              · rw [if_neg c120] at hR
                refine XM_iload_n C dMo_keep_180 rfl ?_
                refine XM_iconst (v := 2) C dMo_keep_181 rfl ?_
                refine XM_icmp_ne (tgt := 205) C dMo_keep_182 (by decide) (fun c121 => ?_) (fun c121 => ?_)
                · rw [if_neg c121] at hR
                  refine XM_iconst (v := 0) C dMo_keep_205 rfl ?_
                  refine XM_istore (lv' := [(5, .int ((0 : Int32))), (0, .ref (M.1)), (1, .int (x1)), (2, .int (x2)), (3, .int (x3)), (4, .int (x4))]) C dMo_keep_206 (by decide) rfl ?_
                  refine XM_sub (lv' := [(0, .ref (M.1)), (1, .int (x1)), (2, .int (x2)), (3, .int (x3)), (4, .int (x4)), (5, .int ((0 : Int32)))]) [1, 2, 3, 4, 5, 0] rfl ?_
                  exact (ih (x1) (x2) (x3) (x4) ((0 : Int32)) 0 _ _ _).2 hR
                · rw [if_pos c121] at hR
                  refine XM_aload_n C dMo_keep_185 rfl ?_
                  refine XM_get (k := 48) (v := .ref (M.2.1 48)) C rfl fwMo_107 dMo_keep_186 ?_
                  refine XM_iload_n C dMo_keep_189 rfl ?_
                  refine XM_iconst (v := 3) C dMo_keep_190 rfl ?_
                  refine XM_aload_n C dMo_keep_191 rfl ?_
                  refine XM_get (k := 4) (v := .ref (M.2.1 4)) C rfl fwMo_16 dMo_keep_192 ?_
                  refine XM_bipush (v := 6) C dMo_keep_195 (by decide) ?_
                  refine XM_iload_n C dMo_keep_197 rfl ?_
                  refine XM_imul C dMo_keep_198 ?_
                  refine XM_iload C dMo_keep_199 rfl ?_
                  refine XM_iadd C dMo_keep_201 ?_
                  obtain ⟨q122, hR⟩ := o_if hR
                  refine XM_iald (k := 4) (n := 18) C rfl (xin_vp q122) dMo_keep_202 ?_
                  refine XM_iadd C dMo_keep_203 ?_
                  obtain ⟨q123, hR⟩ := o_if hR
                  refine XM_iast (k := 48) (n := 8) C rfl (xin_vp q123) dMo_keep_204 ?_
                  obtain ⟨s124, es124, hR⟩ := b_bnd hR
                  rw [← es124]
                  refine XM_iconst (v := 0) C dMo_keep_205 rfl ?_
                  refine XM_istore (lv' := [(5, .int ((0 : Int32))), (0, .ref (M.1)), (1, .int (x1)), (2, .int (x2)), (3, .int (x3)), (4, .int (x4))]) C dMo_keep_206 (by decide) rfl ?_
                  refine XM_sub (lv' := [(0, .ref (M.1)), (1, .int (x1)), (2, .int (x2)), (3, .int (x3)), (4, .int (x4)), (5, .int ((0 : Int32)))]) [1, 2, 3, 4, 5, 0] rfl ?_
                  exact (ih (x1) (x2) (x3) (x4) ((0 : Int32)) 0 _ _ _).2 hR
              · rw [if_pos c120] at hR
                refine XM_bipush (v := 12) C dMo_keep_80 (by decide) ?_
                refine XM_iload_n C dMo_keep_82 rfl ?_
                refine XM_imul C dMo_keep_83 ?_
                refine XM_iload C dMo_keep_84 rfl ?_
                refine XM_iadd C dMo_keep_86 ?_
                refine XM_istore (lv' := [(5, .int ((((12 : Int32)) * (x3)) + (x4))), (0, .ref (M.1)), (1, .int (x1)), (2, .int (x2)), (3, .int (x3)), (4, .int (x4))]) C dMo_keep_87 (by decide) rfl ?_
                refine XM_bipush (v := 10) C dMo_keep_89 (by decide) ?_
                refine XM_aload_n C dMo_keep_91 rfl ?_
                refine XM_get (k := 11) (v := .ref (M.2.1 11)) C rfl fwMo_37 dMo_keep_92 ?_
                refine XM_iload C dMo_keep_95 rfl ?_
                obtain ⟨q125, hR⟩ := o_if hR
                refine XM_iald (k := 11) (n := 36) C rfl (xin_vp q125) dMo_keep_97 ?_
                refine XM_iadd C dMo_keep_98 ?_
                refine XM_aload_n C dMo_keep_99 rfl ?_
                refine XM_get (k := 9) (v := .ref (M.2.1 9)) C rfl fwMo_31 dMo_keep_100 ?_
                refine XM_iload C dMo_keep_103 rfl ?_
                obtain ⟨q126, hR⟩ := o_if hR
                refine XM_iald (k := 9) (n := 36) C rfl (xin_vp q126) dMo_keep_105 ?_
                refine XM_if_ne (tgt := 113) C dMo_keep_106 (by decide) (fun c127 => ?_) (fun c127 => ?_)
                · rw [if_neg c127] at hR
                  refine XM_bipush (v := 100) C dMo_keep_113 (by decide) ?_
                  refine XM_iadd C dMo_keep_115 ?_
                  refine XM_istore (lv' := [(6, .int ((((10 : Int32)) + (s119 11 (Int32.toNatClampNeg ((((12 : Int32)) * (x3)) + (x4))))) + ((100 : Int32)))), (5, .int ((((12 : Int32)) * (x3)) + (x4))), (0, .ref (M.1)), (1, .int (x1)), (2, .int (x2)), (3, .int (x3)), (4, .int (x4))]) C dMo_keep_116 (by decide) rfl ?_
                  refine XM_aload_n C dMo_keep_118 rfl ?_
                  refine XM_get (k := 48) (v := .ref (M.2.1 48)) C rfl fwMo_107 dMo_keep_119 ?_
                  refine XM_iload_n C dMo_keep_122 rfl ?_
                  refine XM_aload_n C dMo_keep_123 rfl ?_
                  refine XM_get (k := 9) (v := .ref (M.2.1 9)) C rfl fwMo_31 dMo_keep_124 ?_
                  refine XM_iload C dMo_keep_127 rfl ?_
                  obtain ⟨q128, hR⟩ := o_if hR
                  refine XM_iald (k := 9) (n := 36) C rfl (xin_vp q128) dMo_keep_129 ?_
                  refine XM_if_ge (tgt := 140) C dMo_keep_130 (by decide) (fun c129 => ?_) (fun c129 => ?_)
                  · rw [if_pos c129] at hR
                    refine XM_iload C dMo_keep_140 rfl ?_
                    obtain ⟨q130, hR⟩ := o_if hR
                    refine XM_iast (k := 48) (n := 8) C rfl (xin_vp q130) dMo_keep_142 ?_
                    obtain ⟨s131, es131, hR⟩ := b_bnd hR
                    rw [← es131]
                    refine XM_aload_n C dMo_keep_143 rfl ?_
                    refine XM_get (k := 49) (v := .ref (M.2.1 49)) C rfl fwMo_110 dMo_keep_144 ?_
                    refine XM_iload_n C dMo_keep_147 rfl ?_
                    refine XM_aload_n C dMo_keep_148 rfl ?_
                    refine XM_get (k := 9) (v := .ref (M.2.1 9)) C rfl fwMo_31 dMo_keep_149 ?_
                    refine XM_iload C dMo_keep_152 rfl ?_
                    obtain ⟨q132, hR⟩ := o_if hR
                    refine XM_iald (k := 9) (n := 36) C rfl (xin_vp q132) dMo_keep_154 ?_
                    refine XM_if_ge (tgt := 169) C dMo_keep_155 (by decide) (fun c133 => ?_) (fun c133 => ?_)
                    · rw [if_pos c133] at hR
                      refine XM_aload_n C dMo_keep_169 rfl ?_
                      refine XM_get (k := 9) (v := .ref (M.2.1 9)) C rfl fwMo_31 dMo_keep_170 ?_
                      refine XM_iload C dMo_keep_173 rfl ?_
                      obtain ⟨q134, hR⟩ := o_if hR
                      refine XM_iald (k := 9) (n := 36) C rfl (xin_vp q134) dMo_keep_175 ?_
                      obtain ⟨q135, hR⟩ := o_if hR
                      refine XM_iast (k := 49) (n := 8) C rfl (xin_vp q135) dMo_keep_176 ?_
                      obtain ⟨s136, es136, hR⟩ := b_bnd hR
                      rw [← es136]
                      refine XM_goto (tgt := 205) C dMo_keep_177 (by decide) ?_
                      refine XM_iconst (v := 0) C dMo_keep_205 rfl ?_
                      refine XM_istore (lv' := [(5, .int ((0 : Int32))), (6, .int ((((10 : Int32)) + (s119 11 (Int32.toNatClampNeg ((((12 : Int32)) * (x3)) + (x4))))) + ((100 : Int32)))), (0, .ref (M.1)), (1, .int (x1)), (2, .int (x2)), (3, .int (x3)), (4, .int (x4))]) C dMo_keep_206 (by decide) rfl ?_
                      refine XM_sub (lv' := [(0, .ref (M.1)), (1, .int (x1)), (2, .int (x2)), (3, .int (x3)), (4, .int (x4)), (5, .int ((0 : Int32)))]) [2, 3, 4, 5, 6, 0] rfl ?_
                      exact (ih (x1) (x2) (x3) (x4) ((0 : Int32)) 0 _ _ _).2 hR
                    · rw [if_neg c133] at hR
                      refine XM_aload_n C dMo_keep_158 rfl ?_
                      refine XM_get (k := 9) (v := .ref (M.2.1 9)) C rfl fwMo_31 dMo_keep_159 ?_
                      refine XM_iload C dMo_keep_162 rfl ?_
                      obtain ⟨q137, hR⟩ := o_if hR
                      refine XM_iald (k := 9) (n := 36) C rfl (xin_vp q137) dMo_keep_164 ?_
                      refine XM_ineg C dMo_keep_165 ?_
                      refine XM_goto (tgt := 176) C dMo_keep_166 (by decide) ?_
                      obtain ⟨q138, hR⟩ := o_if hR
                      refine XM_iast (k := 49) (n := 8) C rfl (xin_vp q138) dMo_keep_176 ?_
                      obtain ⟨s139, es139, hR⟩ := b_bnd hR
                      rw [← es139]
                      refine XM_goto (tgt := 205) C dMo_keep_177 (by decide) ?_
                      refine XM_iconst (v := 0) C dMo_keep_205 rfl ?_
                      refine XM_istore (lv' := [(5, .int ((0 : Int32))), (6, .int ((((10 : Int32)) + (s119 11 (Int32.toNatClampNeg ((((12 : Int32)) * (x3)) + (x4))))) + ((100 : Int32)))), (0, .ref (M.1)), (1, .int (x1)), (2, .int (x2)), (3, .int (x3)), (4, .int (x4))]) C dMo_keep_206 (by decide) rfl ?_
                      refine XM_sub (lv' := [(0, .ref (M.1)), (1, .int (x1)), (2, .int (x2)), (3, .int (x3)), (4, .int (x4)), (5, .int ((0 : Int32)))]) [2, 3, 4, 5, 6, 0] rfl ?_
                      exact (ih (x1) (x2) (x3) (x4) ((0 : Int32)) 0 _ _ _).2 hR
                  · rw [if_neg c129] at hR
                    refine XM_iconst (v := 2) C dMo_keep_133 rfl ?_
                    refine XM_iload C dMo_keep_134 rfl ?_
                    refine XM_imul C dMo_keep_136 ?_
                    refine XM_goto (tgt := 142) C dMo_keep_137 (by decide) ?_
                    obtain ⟨q140, hR⟩ := o_if hR
                    refine XM_iast (k := 48) (n := 8) C rfl (xin_vp q140) dMo_keep_142 ?_
                    obtain ⟨s141, es141, hR⟩ := b_bnd hR
                    rw [← es141]
                    refine XM_aload_n C dMo_keep_143 rfl ?_
                    refine XM_get (k := 49) (v := .ref (M.2.1 49)) C rfl fwMo_110 dMo_keep_144 ?_
                    refine XM_iload_n C dMo_keep_147 rfl ?_
                    refine XM_aload_n C dMo_keep_148 rfl ?_
                    refine XM_get (k := 9) (v := .ref (M.2.1 9)) C rfl fwMo_31 dMo_keep_149 ?_
                    refine XM_iload C dMo_keep_152 rfl ?_
                    obtain ⟨q142, hR⟩ := o_if hR
                    refine XM_iald (k := 9) (n := 36) C rfl (xin_vp q142) dMo_keep_154 ?_
                    refine XM_if_ge (tgt := 169) C dMo_keep_155 (by decide) (fun c143 => ?_) (fun c143 => ?_)
                    · rw [if_pos c143] at hR
                      refine XM_aload_n C dMo_keep_169 rfl ?_
                      refine XM_get (k := 9) (v := .ref (M.2.1 9)) C rfl fwMo_31 dMo_keep_170 ?_
                      refine XM_iload C dMo_keep_173 rfl ?_
                      obtain ⟨q144, hR⟩ := o_if hR
                      refine XM_iald (k := 9) (n := 36) C rfl (xin_vp q144) dMo_keep_175 ?_
                      obtain ⟨q145, hR⟩ := o_if hR
                      refine XM_iast (k := 49) (n := 8) C rfl (xin_vp q145) dMo_keep_176 ?_
                      obtain ⟨s146, es146, hR⟩ := b_bnd hR
                      rw [← es146]
                      refine XM_goto (tgt := 205) C dMo_keep_177 (by decide) ?_
                      refine XM_iconst (v := 0) C dMo_keep_205 rfl ?_
                      refine XM_istore (lv' := [(5, .int ((0 : Int32))), (6, .int ((((10 : Int32)) + (s119 11 (Int32.toNatClampNeg ((((12 : Int32)) * (x3)) + (x4))))) + ((100 : Int32)))), (0, .ref (M.1)), (1, .int (x1)), (2, .int (x2)), (3, .int (x3)), (4, .int (x4))]) C dMo_keep_206 (by decide) rfl ?_
                      refine XM_sub (lv' := [(0, .ref (M.1)), (1, .int (x1)), (2, .int (x2)), (3, .int (x3)), (4, .int (x4)), (5, .int ((0 : Int32)))]) [2, 3, 4, 5, 6, 0] rfl ?_
                      exact (ih (x1) (x2) (x3) (x4) ((0 : Int32)) 0 _ _ _).2 hR
                    · rw [if_neg c143] at hR
                      refine XM_aload_n C dMo_keep_158 rfl ?_
                      refine XM_get (k := 9) (v := .ref (M.2.1 9)) C rfl fwMo_31 dMo_keep_159 ?_
                      refine XM_iload C dMo_keep_162 rfl ?_
                      obtain ⟨q147, hR⟩ := o_if hR
                      refine XM_iald (k := 9) (n := 36) C rfl (xin_vp q147) dMo_keep_164 ?_
                      refine XM_ineg C dMo_keep_165 ?_
                      refine XM_goto (tgt := 176) C dMo_keep_166 (by decide) ?_
                      obtain ⟨q148, hR⟩ := o_if hR
                      refine XM_iast (k := 49) (n := 8) C rfl (xin_vp q148) dMo_keep_176 ?_
                      obtain ⟨s149, es149, hR⟩ := b_bnd hR
                      rw [← es149]
                      refine XM_goto (tgt := 205) C dMo_keep_177 (by decide) ?_
                      refine XM_iconst (v := 0) C dMo_keep_205 rfl ?_
                      refine XM_istore (lv' := [(5, .int ((0 : Int32))), (6, .int ((((10 : Int32)) + (s119 11 (Int32.toNatClampNeg ((((12 : Int32)) * (x3)) + (x4))))) + ((100 : Int32)))), (0, .ref (M.1)), (1, .int (x1)), (2, .int (x2)), (3, .int (x3)), (4, .int (x4))]) C dMo_keep_206 (by decide) rfl ?_
                      refine XM_sub (lv' := [(0, .ref (M.1)), (1, .int (x1)), (2, .int (x2)), (3, .int (x3)), (4, .int (x4)), (5, .int ((0 : Int32)))]) [2, 3, 4, 5, 6, 0] rfl ?_
                      exact (ih (x1) (x2) (x3) (x4) ((0 : Int32)) 0 _ _ _).2 hR
                · rw [if_pos c127] at hR
                  refine XM_iconst (v := 0) C dMo_keep_109 rfl ?_
                  refine XM_goto (tgt := 115) C dMo_keep_110 (by decide) ?_
                  refine XM_iadd C dMo_keep_115 ?_
                  refine XM_istore (lv' := [(6, .int ((((10 : Int32)) + (s119 11 (Int32.toNatClampNeg ((((12 : Int32)) * (x3)) + (x4))))) + ((0 : Int32)))), (5, .int ((((12 : Int32)) * (x3)) + (x4))), (0, .ref (M.1)), (1, .int (x1)), (2, .int (x2)), (3, .int (x3)), (4, .int (x4))]) C dMo_keep_116 (by decide) rfl ?_
                  refine XM_aload_n C dMo_keep_118 rfl ?_
                  refine XM_get (k := 48) (v := .ref (M.2.1 48)) C rfl fwMo_107 dMo_keep_119 ?_
                  refine XM_iload_n C dMo_keep_122 rfl ?_
                  refine XM_aload_n C dMo_keep_123 rfl ?_
                  refine XM_get (k := 9) (v := .ref (M.2.1 9)) C rfl fwMo_31 dMo_keep_124 ?_
                  refine XM_iload C dMo_keep_127 rfl ?_
                  obtain ⟨q150, hR⟩ := o_if hR
                  refine XM_iald (k := 9) (n := 36) C rfl (xin_vp q150) dMo_keep_129 ?_
                  refine XM_if_ge (tgt := 140) C dMo_keep_130 (by decide) (fun c151 => ?_) (fun c151 => ?_)
                  · rw [if_pos c151] at hR
                    refine XM_iload C dMo_keep_140 rfl ?_
                    obtain ⟨q152, hR⟩ := o_if hR
                    refine XM_iast (k := 48) (n := 8) C rfl (xin_vp q152) dMo_keep_142 ?_
                    obtain ⟨s153, es153, hR⟩ := b_bnd hR
                    rw [← es153]
                    refine XM_aload_n C dMo_keep_143 rfl ?_
                    refine XM_get (k := 49) (v := .ref (M.2.1 49)) C rfl fwMo_110 dMo_keep_144 ?_
                    refine XM_iload_n C dMo_keep_147 rfl ?_
                    refine XM_aload_n C dMo_keep_148 rfl ?_
                    refine XM_get (k := 9) (v := .ref (M.2.1 9)) C rfl fwMo_31 dMo_keep_149 ?_
                    refine XM_iload C dMo_keep_152 rfl ?_
                    obtain ⟨q154, hR⟩ := o_if hR
                    refine XM_iald (k := 9) (n := 36) C rfl (xin_vp q154) dMo_keep_154 ?_
                    refine XM_if_ge (tgt := 169) C dMo_keep_155 (by decide) (fun c155 => ?_) (fun c155 => ?_)
                    · rw [if_pos c155] at hR
                      refine XM_aload_n C dMo_keep_169 rfl ?_
                      refine XM_get (k := 9) (v := .ref (M.2.1 9)) C rfl fwMo_31 dMo_keep_170 ?_
                      refine XM_iload C dMo_keep_173 rfl ?_
                      obtain ⟨q156, hR⟩ := o_if hR
                      refine XM_iald (k := 9) (n := 36) C rfl (xin_vp q156) dMo_keep_175 ?_
                      obtain ⟨q157, hR⟩ := o_if hR
                      refine XM_iast (k := 49) (n := 8) C rfl (xin_vp q157) dMo_keep_176 ?_
                      obtain ⟨s158, es158, hR⟩ := b_bnd hR
                      rw [← es158]
                      refine XM_goto (tgt := 205) C dMo_keep_177 (by decide) ?_
                      refine XM_iconst (v := 0) C dMo_keep_205 rfl ?_
                      refine XM_istore (lv' := [(5, .int ((0 : Int32))), (6, .int ((((10 : Int32)) + (s119 11 (Int32.toNatClampNeg ((((12 : Int32)) * (x3)) + (x4))))) + ((0 : Int32)))), (0, .ref (M.1)), (1, .int (x1)), (2, .int (x2)), (3, .int (x3)), (4, .int (x4))]) C dMo_keep_206 (by decide) rfl ?_
                      refine XM_sub (lv' := [(0, .ref (M.1)), (1, .int (x1)), (2, .int (x2)), (3, .int (x3)), (4, .int (x4)), (5, .int ((0 : Int32)))]) [2, 3, 4, 5, 6, 0] rfl ?_
                      exact (ih (x1) (x2) (x3) (x4) ((0 : Int32)) 0 _ _ _).2 hR
                    · rw [if_neg c155] at hR
                      refine XM_aload_n C dMo_keep_158 rfl ?_
                      refine XM_get (k := 9) (v := .ref (M.2.1 9)) C rfl fwMo_31 dMo_keep_159 ?_
                      refine XM_iload C dMo_keep_162 rfl ?_
                      obtain ⟨q159, hR⟩ := o_if hR
                      refine XM_iald (k := 9) (n := 36) C rfl (xin_vp q159) dMo_keep_164 ?_
                      refine XM_ineg C dMo_keep_165 ?_
                      refine XM_goto (tgt := 176) C dMo_keep_166 (by decide) ?_
                      obtain ⟨q160, hR⟩ := o_if hR
                      refine XM_iast (k := 49) (n := 8) C rfl (xin_vp q160) dMo_keep_176 ?_
                      obtain ⟨s161, es161, hR⟩ := b_bnd hR
                      rw [← es161]
                      refine XM_goto (tgt := 205) C dMo_keep_177 (by decide) ?_
                      refine XM_iconst (v := 0) C dMo_keep_205 rfl ?_
                      refine XM_istore (lv' := [(5, .int ((0 : Int32))), (6, .int ((((10 : Int32)) + (s119 11 (Int32.toNatClampNeg ((((12 : Int32)) * (x3)) + (x4))))) + ((0 : Int32)))), (0, .ref (M.1)), (1, .int (x1)), (2, .int (x2)), (3, .int (x3)), (4, .int (x4))]) C dMo_keep_206 (by decide) rfl ?_
                      refine XM_sub (lv' := [(0, .ref (M.1)), (1, .int (x1)), (2, .int (x2)), (3, .int (x3)), (4, .int (x4)), (5, .int ((0 : Int32)))]) [2, 3, 4, 5, 6, 0] rfl ?_
                      exact (ih (x1) (x2) (x3) (x4) ((0 : Int32)) 0 _ _ _).2 hR
                  · rw [if_neg c151] at hR
                    refine XM_iconst (v := 2) C dMo_keep_133 rfl ?_
                    refine XM_iload C dMo_keep_134 rfl ?_
                    refine XM_imul C dMo_keep_136 ?_
                    refine XM_goto (tgt := 142) C dMo_keep_137 (by decide) ?_
                    obtain ⟨q162, hR⟩ := o_if hR
                    refine XM_iast (k := 48) (n := 8) C rfl (xin_vp q162) dMo_keep_142 ?_
                    obtain ⟨s163, es163, hR⟩ := b_bnd hR
                    rw [← es163]
                    refine XM_aload_n C dMo_keep_143 rfl ?_
                    refine XM_get (k := 49) (v := .ref (M.2.1 49)) C rfl fwMo_110 dMo_keep_144 ?_
                    refine XM_iload_n C dMo_keep_147 rfl ?_
                    refine XM_aload_n C dMo_keep_148 rfl ?_
                    refine XM_get (k := 9) (v := .ref (M.2.1 9)) C rfl fwMo_31 dMo_keep_149 ?_
                    refine XM_iload C dMo_keep_152 rfl ?_
                    obtain ⟨q164, hR⟩ := o_if hR
                    refine XM_iald (k := 9) (n := 36) C rfl (xin_vp q164) dMo_keep_154 ?_
                    refine XM_if_ge (tgt := 169) C dMo_keep_155 (by decide) (fun c165 => ?_) (fun c165 => ?_)
                    · rw [if_pos c165] at hR
                      refine XM_aload_n C dMo_keep_169 rfl ?_
                      refine XM_get (k := 9) (v := .ref (M.2.1 9)) C rfl fwMo_31 dMo_keep_170 ?_
                      refine XM_iload C dMo_keep_173 rfl ?_
                      obtain ⟨q166, hR⟩ := o_if hR
                      refine XM_iald (k := 9) (n := 36) C rfl (xin_vp q166) dMo_keep_175 ?_
                      obtain ⟨q167, hR⟩ := o_if hR
                      refine XM_iast (k := 49) (n := 8) C rfl (xin_vp q167) dMo_keep_176 ?_
                      obtain ⟨s168, es168, hR⟩ := b_bnd hR
                      rw [← es168]
                      refine XM_goto (tgt := 205) C dMo_keep_177 (by decide) ?_
                      refine XM_iconst (v := 0) C dMo_keep_205 rfl ?_
                      refine XM_istore (lv' := [(5, .int ((0 : Int32))), (6, .int ((((10 : Int32)) + (s119 11 (Int32.toNatClampNeg ((((12 : Int32)) * (x3)) + (x4))))) + ((0 : Int32)))), (0, .ref (M.1)), (1, .int (x1)), (2, .int (x2)), (3, .int (x3)), (4, .int (x4))]) C dMo_keep_206 (by decide) rfl ?_
                      refine XM_sub (lv' := [(0, .ref (M.1)), (1, .int (x1)), (2, .int (x2)), (3, .int (x3)), (4, .int (x4)), (5, .int ((0 : Int32)))]) [2, 3, 4, 5, 6, 0] rfl ?_
                      exact (ih (x1) (x2) (x3) (x4) ((0 : Int32)) 0 _ _ _).2 hR
                    · rw [if_neg c165] at hR
                      refine XM_aload_n C dMo_keep_158 rfl ?_
                      refine XM_get (k := 9) (v := .ref (M.2.1 9)) C rfl fwMo_31 dMo_keep_159 ?_
                      refine XM_iload C dMo_keep_162 rfl ?_
                      obtain ⟨q169, hR⟩ := o_if hR
                      refine XM_iald (k := 9) (n := 36) C rfl (xin_vp q169) dMo_keep_164 ?_
                      refine XM_ineg C dMo_keep_165 ?_
                      refine XM_goto (tgt := 176) C dMo_keep_166 (by decide) ?_
                      obtain ⟨q170, hR⟩ := o_if hR
                      refine XM_iast (k := 49) (n := 8) C rfl (xin_vp q170) dMo_keep_176 ?_
                      obtain ⟨s171, es171, hR⟩ := b_bnd hR
                      rw [← es171]
                      refine XM_goto (tgt := 205) C dMo_keep_177 (by decide) ?_
                      refine XM_iconst (v := 0) C dMo_keep_205 rfl ?_
                      refine XM_istore (lv' := [(5, .int ((0 : Int32))), (6, .int ((((10 : Int32)) + (s119 11 (Int32.toNatClampNeg ((((12 : Int32)) * (x3)) + (x4))))) + ((0 : Int32)))), (0, .ref (M.1)), (1, .int (x1)), (2, .int (x2)), (3, .int (x3)), (4, .int (x4))]) C dMo_keep_206 (by decide) rfl ?_
                      refine XM_sub (lv' := [(0, .ref (M.1)), (1, .int (x1)), (2, .int (x2)), (3, .int (x3)), (4, .int (x4)), (5, .int ((0 : Int32)))]) [2, 3, 4, 5, 6, 0] rfl ?_
                      exact (ih (x1) (x2) (x3) (x4) ((0 : Int32)) 0 _ _ _).2 hR
          · rw [if_neg c7] at hR
            refine XM_iconst (v := 0) C dMo_keep_42 rfl ?_
            refine XM_goto (tgt := 74) C dMo_keep_43 (by decide) ?_
            obtain ⟨q172, hR⟩ := o_if hR
            refine XM_iast (k := 47) (n := 8) C rfl (xin_vp q172) dMo_keep_74 ?_
            obtain ⟨s173, es173, hR⟩ := b_bnd hR
            rw [← es173]
            refine XM_iload_n C dMo_keep_75 rfl ?_
            refine XM_iconst (v := 1) C dMo_keep_76 rfl ?_
            refine XM_icmp_ne (tgt := 180) C dMo_keep_77 (by decide) (fun c174 => ?_) (fun c174 => ?_)
            · rw [if_neg c174] at hR
              refine XM_iload_n C dMo_keep_180 rfl ?_
              refine XM_iconst (v := 2) C dMo_keep_181 rfl ?_
              refine XM_icmp_ne (tgt := 205) C dMo_keep_182 (by decide) (fun c175 => ?_) (fun c175 => ?_)
              · rw [if_neg c175] at hR
                refine XM_iconst (v := 0) C dMo_keep_205 rfl ?_
                refine XM_istore (lv' := [(5, .int ((0 : Int32))), (0, .ref (M.1)), (1, .int (x1)), (2, .int (x2)), (3, .int (x3)), (4, .int (x4))]) C dMo_keep_206 (by decide) rfl ?_
                refine XM_sub (lv' := [(0, .ref (M.1)), (1, .int (x1)), (2, .int (x2)), (3, .int (x3)), (4, .int (x4)), (5, .int ((0 : Int32)))]) [1, 2, 3, 4, 5, 0] rfl ?_
                exact (ih (x1) (x2) (x3) (x4) ((0 : Int32)) 0 _ _ _).2 hR
              · rw [if_pos c175] at hR
                refine XM_aload_n C dMo_keep_185 rfl ?_
                refine XM_get (k := 48) (v := .ref (M.2.1 48)) C rfl fwMo_107 dMo_keep_186 ?_
                refine XM_iload_n C dMo_keep_189 rfl ?_
                refine XM_iconst (v := 3) C dMo_keep_190 rfl ?_
                refine XM_aload_n C dMo_keep_191 rfl ?_
                refine XM_get (k := 4) (v := .ref (M.2.1 4)) C rfl fwMo_16 dMo_keep_192 ?_
                refine XM_bipush (v := 6) C dMo_keep_195 (by decide) ?_
                refine XM_iload_n C dMo_keep_197 rfl ?_
                refine XM_imul C dMo_keep_198 ?_
                refine XM_iload C dMo_keep_199 rfl ?_
                refine XM_iadd C dMo_keep_201 ?_
                obtain ⟨q176, hR⟩ := o_if hR
                refine XM_iald (k := 4) (n := 18) C rfl (xin_vp q176) dMo_keep_202 ?_
                refine XM_iadd C dMo_keep_203 ?_
                obtain ⟨q177, hR⟩ := o_if hR
                refine XM_iast (k := 48) (n := 8) C rfl (xin_vp q177) dMo_keep_204 ?_
                obtain ⟨s178, es178, hR⟩ := b_bnd hR
                rw [← es178]
                refine XM_iconst (v := 0) C dMo_keep_205 rfl ?_
                refine XM_istore (lv' := [(5, .int ((0 : Int32))), (0, .ref (M.1)), (1, .int (x1)), (2, .int (x2)), (3, .int (x3)), (4, .int (x4))]) C dMo_keep_206 (by decide) rfl ?_
                refine XM_sub (lv' := [(0, .ref (M.1)), (1, .int (x1)), (2, .int (x2)), (3, .int (x3)), (4, .int (x4)), (5, .int ((0 : Int32)))]) [1, 2, 3, 4, 5, 0] rfl ?_
                exact (ih (x1) (x2) (x3) (x4) ((0 : Int32)) 0 _ _ _).2 hR
            · rw [if_pos c174] at hR
              refine XM_bipush (v := 12) C dMo_keep_80 (by decide) ?_
              refine XM_iload_n C dMo_keep_82 rfl ?_
              refine XM_imul C dMo_keep_83 ?_
              refine XM_iload C dMo_keep_84 rfl ?_
              refine XM_iadd C dMo_keep_86 ?_
              refine XM_istore (lv' := [(5, .int ((((12 : Int32)) * (x3)) + (x4))), (0, .ref (M.1)), (1, .int (x1)), (2, .int (x2)), (3, .int (x3)), (4, .int (x4))]) C dMo_keep_87 (by decide) rfl ?_
              refine XM_bipush (v := 10) C dMo_keep_89 (by decide) ?_
              refine XM_aload_n C dMo_keep_91 rfl ?_
              refine XM_get (k := 11) (v := .ref (M.2.1 11)) C rfl fwMo_37 dMo_keep_92 ?_
              refine XM_iload C dMo_keep_95 rfl ?_
              obtain ⟨q179, hR⟩ := o_if hR
              refine XM_iald (k := 11) (n := 36) C rfl (xin_vp q179) dMo_keep_97 ?_
              refine XM_iadd C dMo_keep_98 ?_
              refine XM_aload_n C dMo_keep_99 rfl ?_
              refine XM_get (k := 9) (v := .ref (M.2.1 9)) C rfl fwMo_31 dMo_keep_100 ?_
              refine XM_iload C dMo_keep_103 rfl ?_
              obtain ⟨q180, hR⟩ := o_if hR
              refine XM_iald (k := 9) (n := 36) C rfl (xin_vp q180) dMo_keep_105 ?_
              refine XM_if_ne (tgt := 113) C dMo_keep_106 (by decide) (fun c181 => ?_) (fun c181 => ?_)
              · rw [if_neg c181] at hR
                refine XM_bipush (v := 100) C dMo_keep_113 (by decide) ?_
                refine XM_iadd C dMo_keep_115 ?_
                refine XM_istore (lv' := [(6, .int ((((10 : Int32)) + (s173 11 (Int32.toNatClampNeg ((((12 : Int32)) * (x3)) + (x4))))) + ((100 : Int32)))), (5, .int ((((12 : Int32)) * (x3)) + (x4))), (0, .ref (M.1)), (1, .int (x1)), (2, .int (x2)), (3, .int (x3)), (4, .int (x4))]) C dMo_keep_116 (by decide) rfl ?_
                refine XM_aload_n C dMo_keep_118 rfl ?_
                refine XM_get (k := 48) (v := .ref (M.2.1 48)) C rfl fwMo_107 dMo_keep_119 ?_
                refine XM_iload_n C dMo_keep_122 rfl ?_
                refine XM_aload_n C dMo_keep_123 rfl ?_
                refine XM_get (k := 9) (v := .ref (M.2.1 9)) C rfl fwMo_31 dMo_keep_124 ?_
                refine XM_iload C dMo_keep_127 rfl ?_
                obtain ⟨q182, hR⟩ := o_if hR
                refine XM_iald (k := 9) (n := 36) C rfl (xin_vp q182) dMo_keep_129 ?_
                refine XM_if_ge (tgt := 140) C dMo_keep_130 (by decide) (fun c183 => ?_) (fun c183 => ?_)
                · rw [if_pos c183] at hR
                  refine XM_iload C dMo_keep_140 rfl ?_
                  obtain ⟨q184, hR⟩ := o_if hR
                  refine XM_iast (k := 48) (n := 8) C rfl (xin_vp q184) dMo_keep_142 ?_
                  obtain ⟨s185, es185, hR⟩ := b_bnd hR
                  rw [← es185]
                  refine XM_aload_n C dMo_keep_143 rfl ?_
                  refine XM_get (k := 49) (v := .ref (M.2.1 49)) C rfl fwMo_110 dMo_keep_144 ?_
                  refine XM_iload_n C dMo_keep_147 rfl ?_
                  refine XM_aload_n C dMo_keep_148 rfl ?_
                  refine XM_get (k := 9) (v := .ref (M.2.1 9)) C rfl fwMo_31 dMo_keep_149 ?_
                  refine XM_iload C dMo_keep_152 rfl ?_
                  obtain ⟨q186, hR⟩ := o_if hR
                  refine XM_iald (k := 9) (n := 36) C rfl (xin_vp q186) dMo_keep_154 ?_
                  refine XM_if_ge (tgt := 169) C dMo_keep_155 (by decide) (fun c187 => ?_) (fun c187 => ?_)
                  · rw [if_pos c187] at hR
                    refine XM_aload_n C dMo_keep_169 rfl ?_
                    refine XM_get (k := 9) (v := .ref (M.2.1 9)) C rfl fwMo_31 dMo_keep_170 ?_
                    refine XM_iload C dMo_keep_173 rfl ?_
                    obtain ⟨q188, hR⟩ := o_if hR
                    refine XM_iald (k := 9) (n := 36) C rfl (xin_vp q188) dMo_keep_175 ?_
                    obtain ⟨q189, hR⟩ := o_if hR
                    refine XM_iast (k := 49) (n := 8) C rfl (xin_vp q189) dMo_keep_176 ?_
                    obtain ⟨s190, es190, hR⟩ := b_bnd hR
                    rw [← es190]
                    refine XM_goto (tgt := 205) C dMo_keep_177 (by decide) ?_
                    refine XM_iconst (v := 0) C dMo_keep_205 rfl ?_
                    refine XM_istore (lv' := [(5, .int ((0 : Int32))), (6, .int ((((10 : Int32)) + (s173 11 (Int32.toNatClampNeg ((((12 : Int32)) * (x3)) + (x4))))) + ((100 : Int32)))), (0, .ref (M.1)), (1, .int (x1)), (2, .int (x2)), (3, .int (x3)), (4, .int (x4))]) C dMo_keep_206 (by decide) rfl ?_
                    refine XM_sub (lv' := [(0, .ref (M.1)), (1, .int (x1)), (2, .int (x2)), (3, .int (x3)), (4, .int (x4)), (5, .int ((0 : Int32)))]) [2, 3, 4, 5, 6, 0] rfl ?_
                    exact (ih (x1) (x2) (x3) (x4) ((0 : Int32)) 0 _ _ _).2 hR
                  · rw [if_neg c187] at hR
                    refine XM_aload_n C dMo_keep_158 rfl ?_
                    refine XM_get (k := 9) (v := .ref (M.2.1 9)) C rfl fwMo_31 dMo_keep_159 ?_
                    refine XM_iload C dMo_keep_162 rfl ?_
                    obtain ⟨q191, hR⟩ := o_if hR
                    refine XM_iald (k := 9) (n := 36) C rfl (xin_vp q191) dMo_keep_164 ?_
                    refine XM_ineg C dMo_keep_165 ?_
                    refine XM_goto (tgt := 176) C dMo_keep_166 (by decide) ?_
                    obtain ⟨q192, hR⟩ := o_if hR
                    refine XM_iast (k := 49) (n := 8) C rfl (xin_vp q192) dMo_keep_176 ?_
                    obtain ⟨s193, es193, hR⟩ := b_bnd hR
                    rw [← es193]
                    refine XM_goto (tgt := 205) C dMo_keep_177 (by decide) ?_
                    refine XM_iconst (v := 0) C dMo_keep_205 rfl ?_
                    refine XM_istore (lv' := [(5, .int ((0 : Int32))), (6, .int ((((10 : Int32)) + (s173 11 (Int32.toNatClampNeg ((((12 : Int32)) * (x3)) + (x4))))) + ((100 : Int32)))), (0, .ref (M.1)), (1, .int (x1)), (2, .int (x2)), (3, .int (x3)), (4, .int (x4))]) C dMo_keep_206 (by decide) rfl ?_
                    refine XM_sub (lv' := [(0, .ref (M.1)), (1, .int (x1)), (2, .int (x2)), (3, .int (x3)), (4, .int (x4)), (5, .int ((0 : Int32)))]) [2, 3, 4, 5, 6, 0] rfl ?_
                    exact (ih (x1) (x2) (x3) (x4) ((0 : Int32)) 0 _ _ _).2 hR
                · rw [if_neg c183] at hR
                  refine XM_iconst (v := 2) C dMo_keep_133 rfl ?_
                  refine XM_iload C dMo_keep_134 rfl ?_
                  refine XM_imul C dMo_keep_136 ?_
                  refine XM_goto (tgt := 142) C dMo_keep_137 (by decide) ?_
                  obtain ⟨q194, hR⟩ := o_if hR
                  refine XM_iast (k := 48) (n := 8) C rfl (xin_vp q194) dMo_keep_142 ?_
                  obtain ⟨s195, es195, hR⟩ := b_bnd hR
                  rw [← es195]
                  refine XM_aload_n C dMo_keep_143 rfl ?_
                  refine XM_get (k := 49) (v := .ref (M.2.1 49)) C rfl fwMo_110 dMo_keep_144 ?_
                  refine XM_iload_n C dMo_keep_147 rfl ?_
                  refine XM_aload_n C dMo_keep_148 rfl ?_
                  refine XM_get (k := 9) (v := .ref (M.2.1 9)) C rfl fwMo_31 dMo_keep_149 ?_
                  refine XM_iload C dMo_keep_152 rfl ?_
                  obtain ⟨q196, hR⟩ := o_if hR
                  refine XM_iald (k := 9) (n := 36) C rfl (xin_vp q196) dMo_keep_154 ?_
                  refine XM_if_ge (tgt := 169) C dMo_keep_155 (by decide) (fun c197 => ?_) (fun c197 => ?_)
                  · rw [if_pos c197] at hR
                    refine XM_aload_n C dMo_keep_169 rfl ?_
                    refine XM_get (k := 9) (v := .ref (M.2.1 9)) C rfl fwMo_31 dMo_keep_170 ?_
                    refine XM_iload C dMo_keep_173 rfl ?_
                    obtain ⟨q198, hR⟩ := o_if hR
                    refine XM_iald (k := 9) (n := 36) C rfl (xin_vp q198) dMo_keep_175 ?_
                    obtain ⟨q199, hR⟩ := o_if hR
                    refine XM_iast (k := 49) (n := 8) C rfl (xin_vp q199) dMo_keep_176 ?_
                    obtain ⟨s200, es200, hR⟩ := b_bnd hR
                    rw [← es200]
                    refine XM_goto (tgt := 205) C dMo_keep_177 (by decide) ?_
                    refine XM_iconst (v := 0) C dMo_keep_205 rfl ?_
                    refine XM_istore (lv' := [(5, .int ((0 : Int32))), (6, .int ((((10 : Int32)) + (s173 11 (Int32.toNatClampNeg ((((12 : Int32)) * (x3)) + (x4))))) + ((100 : Int32)))), (0, .ref (M.1)), (1, .int (x1)), (2, .int (x2)), (3, .int (x3)), (4, .int (x4))]) C dMo_keep_206 (by decide) rfl ?_
                    refine XM_sub (lv' := [(0, .ref (M.1)), (1, .int (x1)), (2, .int (x2)), (3, .int (x3)), (4, .int (x4)), (5, .int ((0 : Int32)))]) [2, 3, 4, 5, 6, 0] rfl ?_
                    exact (ih (x1) (x2) (x3) (x4) ((0 : Int32)) 0 _ _ _).2 hR
                  · rw [if_neg c197] at hR
                    refine XM_aload_n C dMo_keep_158 rfl ?_
                    refine XM_get (k := 9) (v := .ref (M.2.1 9)) C rfl fwMo_31 dMo_keep_159 ?_
                    refine XM_iload C dMo_keep_162 rfl ?_
                    obtain ⟨q201, hR⟩ := o_if hR
                    refine XM_iald (k := 9) (n := 36) C rfl (xin_vp q201) dMo_keep_164 ?_
                    refine XM_ineg C dMo_keep_165 ?_
                    refine XM_goto (tgt := 176) C dMo_keep_166 (by decide) ?_
                    obtain ⟨q202, hR⟩ := o_if hR
                    refine XM_iast (k := 49) (n := 8) C rfl (xin_vp q202) dMo_keep_176 ?_
                    obtain ⟨s203, es203, hR⟩ := b_bnd hR
                    rw [← es203]
                    refine XM_goto (tgt := 205) C dMo_keep_177 (by decide) ?_
                    refine XM_iconst (v := 0) C dMo_keep_205 rfl ?_
                    refine XM_istore (lv' := [(5, .int ((0 : Int32))), (6, .int ((((10 : Int32)) + (s173 11 (Int32.toNatClampNeg ((((12 : Int32)) * (x3)) + (x4))))) + ((100 : Int32)))), (0, .ref (M.1)), (1, .int (x1)), (2, .int (x2)), (3, .int (x3)), (4, .int (x4))]) C dMo_keep_206 (by decide) rfl ?_
                    refine XM_sub (lv' := [(0, .ref (M.1)), (1, .int (x1)), (2, .int (x2)), (3, .int (x3)), (4, .int (x4)), (5, .int ((0 : Int32)))]) [2, 3, 4, 5, 6, 0] rfl ?_
                    exact (ih (x1) (x2) (x3) (x4) ((0 : Int32)) 0 _ _ _).2 hR
              · rw [if_pos c181] at hR
                refine XM_iconst (v := 0) C dMo_keep_109 rfl ?_
                refine XM_goto (tgt := 115) C dMo_keep_110 (by decide) ?_
                refine XM_iadd C dMo_keep_115 ?_
                refine XM_istore (lv' := [(6, .int ((((10 : Int32)) + (s173 11 (Int32.toNatClampNeg ((((12 : Int32)) * (x3)) + (x4))))) + ((0 : Int32)))), (5, .int ((((12 : Int32)) * (x3)) + (x4))), (0, .ref (M.1)), (1, .int (x1)), (2, .int (x2)), (3, .int (x3)), (4, .int (x4))]) C dMo_keep_116 (by decide) rfl ?_
                refine XM_aload_n C dMo_keep_118 rfl ?_
                refine XM_get (k := 48) (v := .ref (M.2.1 48)) C rfl fwMo_107 dMo_keep_119 ?_
                refine XM_iload_n C dMo_keep_122 rfl ?_
                refine XM_aload_n C dMo_keep_123 rfl ?_
                refine XM_get (k := 9) (v := .ref (M.2.1 9)) C rfl fwMo_31 dMo_keep_124 ?_
                refine XM_iload C dMo_keep_127 rfl ?_
                obtain ⟨q204, hR⟩ := o_if hR
                refine XM_iald (k := 9) (n := 36) C rfl (xin_vp q204) dMo_keep_129 ?_
                refine XM_if_ge (tgt := 140) C dMo_keep_130 (by decide) (fun c205 => ?_) (fun c205 => ?_)
                · rw [if_pos c205] at hR
                  refine XM_iload C dMo_keep_140 rfl ?_
                  obtain ⟨q206, hR⟩ := o_if hR
                  refine XM_iast (k := 48) (n := 8) C rfl (xin_vp q206) dMo_keep_142 ?_
                  obtain ⟨s207, es207, hR⟩ := b_bnd hR
                  rw [← es207]
                  refine XM_aload_n C dMo_keep_143 rfl ?_
                  refine XM_get (k := 49) (v := .ref (M.2.1 49)) C rfl fwMo_110 dMo_keep_144 ?_
                  refine XM_iload_n C dMo_keep_147 rfl ?_
                  refine XM_aload_n C dMo_keep_148 rfl ?_
                  refine XM_get (k := 9) (v := .ref (M.2.1 9)) C rfl fwMo_31 dMo_keep_149 ?_
                  refine XM_iload C dMo_keep_152 rfl ?_
                  obtain ⟨q208, hR⟩ := o_if hR
                  refine XM_iald (k := 9) (n := 36) C rfl (xin_vp q208) dMo_keep_154 ?_
                  refine XM_if_ge (tgt := 169) C dMo_keep_155 (by decide) (fun c209 => ?_) (fun c209 => ?_)
                  · rw [if_pos c209] at hR
                    refine XM_aload_n C dMo_keep_169 rfl ?_
                    refine XM_get (k := 9) (v := .ref (M.2.1 9)) C rfl fwMo_31 dMo_keep_170 ?_
                    refine XM_iload C dMo_keep_173 rfl ?_
                    obtain ⟨q210, hR⟩ := o_if hR
                    refine XM_iald (k := 9) (n := 36) C rfl (xin_vp q210) dMo_keep_175 ?_
                    obtain ⟨q211, hR⟩ := o_if hR
                    refine XM_iast (k := 49) (n := 8) C rfl (xin_vp q211) dMo_keep_176 ?_
                    obtain ⟨s212, es212, hR⟩ := b_bnd hR
                    rw [← es212]
                    refine XM_goto (tgt := 205) C dMo_keep_177 (by decide) ?_
                    refine XM_iconst (v := 0) C dMo_keep_205 rfl ?_
                    refine XM_istore (lv' := [(5, .int ((0 : Int32))), (6, .int ((((10 : Int32)) + (s173 11 (Int32.toNatClampNeg ((((12 : Int32)) * (x3)) + (x4))))) + ((0 : Int32)))), (0, .ref (M.1)), (1, .int (x1)), (2, .int (x2)), (3, .int (x3)), (4, .int (x4))]) C dMo_keep_206 (by decide) rfl ?_
                    refine XM_sub (lv' := [(0, .ref (M.1)), (1, .int (x1)), (2, .int (x2)), (3, .int (x3)), (4, .int (x4)), (5, .int ((0 : Int32)))]) [2, 3, 4, 5, 6, 0] rfl ?_
                    exact (ih (x1) (x2) (x3) (x4) ((0 : Int32)) 0 _ _ _).2 hR
                  · rw [if_neg c209] at hR
                    refine XM_aload_n C dMo_keep_158 rfl ?_
                    refine XM_get (k := 9) (v := .ref (M.2.1 9)) C rfl fwMo_31 dMo_keep_159 ?_
                    refine XM_iload C dMo_keep_162 rfl ?_
                    obtain ⟨q213, hR⟩ := o_if hR
                    refine XM_iald (k := 9) (n := 36) C rfl (xin_vp q213) dMo_keep_164 ?_
                    refine XM_ineg C dMo_keep_165 ?_
                    refine XM_goto (tgt := 176) C dMo_keep_166 (by decide) ?_
                    obtain ⟨q214, hR⟩ := o_if hR
                    refine XM_iast (k := 49) (n := 8) C rfl (xin_vp q214) dMo_keep_176 ?_
                    obtain ⟨s215, es215, hR⟩ := b_bnd hR
                    rw [← es215]
                    refine XM_goto (tgt := 205) C dMo_keep_177 (by decide) ?_
                    refine XM_iconst (v := 0) C dMo_keep_205 rfl ?_
                    refine XM_istore (lv' := [(5, .int ((0 : Int32))), (6, .int ((((10 : Int32)) + (s173 11 (Int32.toNatClampNeg ((((12 : Int32)) * (x3)) + (x4))))) + ((0 : Int32)))), (0, .ref (M.1)), (1, .int (x1)), (2, .int (x2)), (3, .int (x3)), (4, .int (x4))]) C dMo_keep_206 (by decide) rfl ?_
                    refine XM_sub (lv' := [(0, .ref (M.1)), (1, .int (x1)), (2, .int (x2)), (3, .int (x3)), (4, .int (x4)), (5, .int ((0 : Int32)))]) [2, 3, 4, 5, 6, 0] rfl ?_
                    exact (ih (x1) (x2) (x3) (x4) ((0 : Int32)) 0 _ _ _).2 hR
                · rw [if_neg c205] at hR
                  refine XM_iconst (v := 2) C dMo_keep_133 rfl ?_
                  refine XM_iload C dMo_keep_134 rfl ?_
                  refine XM_imul C dMo_keep_136 ?_
                  refine XM_goto (tgt := 142) C dMo_keep_137 (by decide) ?_
                  obtain ⟨q216, hR⟩ := o_if hR
                  refine XM_iast (k := 48) (n := 8) C rfl (xin_vp q216) dMo_keep_142 ?_
                  obtain ⟨s217, es217, hR⟩ := b_bnd hR
                  rw [← es217]
                  refine XM_aload_n C dMo_keep_143 rfl ?_
                  refine XM_get (k := 49) (v := .ref (M.2.1 49)) C rfl fwMo_110 dMo_keep_144 ?_
                  refine XM_iload_n C dMo_keep_147 rfl ?_
                  refine XM_aload_n C dMo_keep_148 rfl ?_
                  refine XM_get (k := 9) (v := .ref (M.2.1 9)) C rfl fwMo_31 dMo_keep_149 ?_
                  refine XM_iload C dMo_keep_152 rfl ?_
                  obtain ⟨q218, hR⟩ := o_if hR
                  refine XM_iald (k := 9) (n := 36) C rfl (xin_vp q218) dMo_keep_154 ?_
                  refine XM_if_ge (tgt := 169) C dMo_keep_155 (by decide) (fun c219 => ?_) (fun c219 => ?_)
                  · rw [if_pos c219] at hR
                    refine XM_aload_n C dMo_keep_169 rfl ?_
                    refine XM_get (k := 9) (v := .ref (M.2.1 9)) C rfl fwMo_31 dMo_keep_170 ?_
                    refine XM_iload C dMo_keep_173 rfl ?_
                    obtain ⟨q220, hR⟩ := o_if hR
                    refine XM_iald (k := 9) (n := 36) C rfl (xin_vp q220) dMo_keep_175 ?_
                    obtain ⟨q221, hR⟩ := o_if hR
                    refine XM_iast (k := 49) (n := 8) C rfl (xin_vp q221) dMo_keep_176 ?_
                    obtain ⟨s222, es222, hR⟩ := b_bnd hR
                    rw [← es222]
                    refine XM_goto (tgt := 205) C dMo_keep_177 (by decide) ?_
                    refine XM_iconst (v := 0) C dMo_keep_205 rfl ?_
                    refine XM_istore (lv' := [(5, .int ((0 : Int32))), (6, .int ((((10 : Int32)) + (s173 11 (Int32.toNatClampNeg ((((12 : Int32)) * (x3)) + (x4))))) + ((0 : Int32)))), (0, .ref (M.1)), (1, .int (x1)), (2, .int (x2)), (3, .int (x3)), (4, .int (x4))]) C dMo_keep_206 (by decide) rfl ?_
                    refine XM_sub (lv' := [(0, .ref (M.1)), (1, .int (x1)), (2, .int (x2)), (3, .int (x3)), (4, .int (x4)), (5, .int ((0 : Int32)))]) [2, 3, 4, 5, 6, 0] rfl ?_
                    exact (ih (x1) (x2) (x3) (x4) ((0 : Int32)) 0 _ _ _).2 hR
                  · rw [if_neg c219] at hR
                    refine XM_aload_n C dMo_keep_158 rfl ?_
                    refine XM_get (k := 9) (v := .ref (M.2.1 9)) C rfl fwMo_31 dMo_keep_159 ?_
                    refine XM_iload C dMo_keep_162 rfl ?_
                    obtain ⟨q223, hR⟩ := o_if hR
                    refine XM_iald (k := 9) (n := 36) C rfl (xin_vp q223) dMo_keep_164 ?_
                    refine XM_ineg C dMo_keep_165 ?_
                    refine XM_goto (tgt := 176) C dMo_keep_166 (by decide) ?_
                    obtain ⟨q224, hR⟩ := o_if hR
                    refine XM_iast (k := 49) (n := 8) C rfl (xin_vp q224) dMo_keep_176 ?_
                    obtain ⟨s225, es225, hR⟩ := b_bnd hR
                    rw [← es225]
                    refine XM_goto (tgt := 205) C dMo_keep_177 (by decide) ?_
                    refine XM_iconst (v := 0) C dMo_keep_205 rfl ?_
                    refine XM_istore (lv' := [(5, .int ((0 : Int32))), (6, .int ((((10 : Int32)) + (s173 11 (Int32.toNatClampNeg ((((12 : Int32)) * (x3)) + (x4))))) + ((0 : Int32)))), (0, .ref (M.1)), (1, .int (x1)), (2, .int (x2)), (3, .int (x3)), (4, .int (x4))]) C dMo_keep_206 (by decide) rfl ?_
                    refine XM_sub (lv' := [(0, .ref (M.1)), (1, .int (x1)), (2, .int (x2)), (3, .int (x3)), (4, .int (x4)), (5, .int ((0 : Int32)))]) [2, 3, 4, 5, 6, 0] rfl ?_
                    exact (ih (x1) (x2) (x3) (x4) ((0 : Int32)) 0 _ _ _).2 hR
        · rw [if_pos c4] at hR
          refine XM_iconst (v := (-1)) C dMo_keep_23 rfl ?_
          have hR := Option.some.inj hR
          subst hR
          exact XM_iret C hr dMo_keep_24 rfl rfl rfl
    · rw [Mo_keep_e208] at hR
      unfold Mo_keep_t208 at hR
      refine XM_iload C dMo_keep_208 rfl ?_
      refine XM_aload_n C dMo_keep_210 rfl ?_
      refine XM_get (k := 47) (v := .ref (M.2.1 47)) C rfl fwMo_104 dMo_keep_211 ?_
      refine XM_iload_n C dMo_keep_214 rfl ?_
      obtain ⟨q226, hR⟩ := o_if hR
      refine XM_iald (k := 47) (n := 8) C rfl (xin_vp q226) dMo_keep_215 ?_
      refine XM_icmp_ge (tgt := 278) C dMo_keep_216 (by decide) (fun c227 => ?_) (fun c227 => ?_)
      · rw [if_pos c227] at hR
        refine XM_iconst (v := 0) C dMo_keep_278 rfl ?_
        have hR := Option.some.inj hR
        subst hR
        exact XM_iret C hr dMo_keep_279 rfl rfl rfl
      · rw [if_neg c227] at hR
        refine XM_aload_n C dMo_keep_219 rfl ?_
        refine XM_get (k := 50) (v := .ref (M.2.1 50)) C rfl fwMo_113 dMo_keep_220 ?_
        refine XM_bipush (v := 60) C dMo_keep_223 (by decide) ?_
        refine XM_iload_n C dMo_keep_225 rfl ?_
        refine XM_imul C dMo_keep_226 ?_
        refine XM_iload C dMo_keep_227 rfl ?_
        refine XM_iadd C dMo_keep_229 ?_
        refine XM_iload_n C dMo_keep_230 rfl ?_
        refine XM_iconst (v := 3) C dMo_keep_231 rfl ?_
        refine XM_icmp_ne (tgt := 248) C dMo_keep_232 (by decide) (fun c228 => ?_) (fun c228 => ?_)
        · rw [if_neg c228] at hR
          refine XM_aload_n C dMo_keep_248 rfl ?_
          refine XM_get (k := 25) (v := .ref (M.2.1 25)) C rfl fwMo_61 dMo_keep_249 ?_
          refine XM_bipush (v := 25) C dMo_keep_252 (by decide) ?_
          refine XM_iload C dMo_keep_254 rfl ?_
          refine XM_imul C dMo_keep_256 ?_
          refine XM_iconst (v := 5) C dMo_keep_257 rfl ?_
          refine XM_iload C dMo_keep_258 rfl ?_
          refine XM_iconst (v := 4) C dMo_keep_260 rfl ?_
          refine XM_idiv C dMo_keep_261 (by decide) ?_
          refine XM_imul C dMo_keep_262 ?_
          refine XM_iadd C dMo_keep_263 ?_
          refine XM_iload C dMo_keep_264 rfl ?_
          refine XM_iconst (v := 4) C dMo_keep_266 rfl ?_
          refine XM_irem C dMo_keep_267 (by decide) ?_
          refine XM_iadd C dMo_keep_268 ?_
          obtain ⟨q229, hR⟩ := o_if hR
          refine XM_iald (k := 25) (n := 5000) C rfl (xin_vp q229) dMo_keep_269 ?_
          refine XM_i2l C dMo_keep_270 ?_
          obtain ⟨q230, hR⟩ := o_if hR
          refine XM_last (k := 50) (n := 480) C rfl (xin_vp q230) dMo_keep_271 ?_
          obtain ⟨t231, et231, hR⟩ := b_bnd hR
          rw [← et231]
          refine XM_iinc (v := x5 + 1) (lv' := [(5, .int (x5 + 1)), (0, .ref (M.1)), (1, .int (x1)), (2, .int (x2)), (3, .int (x3)), (4, .int (x4))]) C dMo_keep_272 rfl rfl (by decide) rfl ?_
          refine XM_goto (tgt := 208) C dMo_keep_275 (by decide) ?_
          refine XM_sub (lv' := [(0, .ref (M.1)), (1, .int (x1)), (2, .int (x2)), (3, .int (x3)), (4, .int (x4)), (5, .int (x5 + 1))]) [1, 2, 3, 4, 5, 0] rfl ?_
          exact (ih (x1) (x2) (x3) (x4) (x5 + 1) 0 _ _ _).2 hR
        · rw [if_pos c228] at hR
          refine XM_aload_n C dMo_keep_235 rfl ?_
          refine XM_get (k := 24) (v := .ref (M.2.1 24)) C rfl fwMo_58 dMo_keep_236 ?_
          refine XM_iconst (v := 3) C dMo_keep_239 rfl ?_
          refine XM_iload C dMo_keep_240 rfl ?_
          refine XM_imul C dMo_keep_242 ?_
          obtain ⟨q232, hR⟩ := o_if hR
          refine XM_iald (k := 24) (n := 600) C rfl (xin_vp q232) dMo_keep_243 ?_
          refine XM_i2l C dMo_keep_244 ?_
          refine XM_goto (tgt := 271) C dMo_keep_245 (by decide) ?_
          obtain ⟨q233, hR⟩ := o_if hR
          refine XM_last (k := 50) (n := 480) C rfl (xin_vp q233) dMo_keep_271 ?_
          obtain ⟨t234, et234, hR⟩ := b_bnd hR
          rw [← et234]
          refine XM_iinc (v := x5 + 1) (lv' := [(5, .int (x5 + 1)), (0, .ref (M.1)), (1, .int (x1)), (2, .int (x2)), (3, .int (x3)), (4, .int (x4))]) C dMo_keep_272 rfl rfl (by decide) rfl ?_
          refine XM_goto (tgt := 208) C dMo_keep_275 (by decide) ?_
          refine XM_sub (lv' := [(0, .ref (M.1)), (1, .int (x1)), (2, .int (x2)), (3, .int (x3)), (4, .int (x4)), (5, .int (x5 + 1))]) [1, 2, 3, 4, 5, 0] rfl ?_
          exact (ih (x1) (x2) (x3) (x4) (x5 + 1) 0 _ _ _).2 hR
theorem Mo_keep_c {l : Launch} {G : xG} {B : Nat} {M : xM} {n : Nat} {x1 x2 x3 x4 : Int32} {σ : mS} {τ : mL} {R : Int32 × mS × mL} (hR : Mo_keep_f n 0 x1 x2 x3 x4 0 0 σ τ = some R) : mCon l yMo_keep cMo_keep 7 (some .int) 3 66 G B M [.ref M.1, .int x1, .int x2, .int x3, .int x4] σ τ (some (.int R.1)) R.2.1 R.2.2 := mCon.of (by decide) (Nat.le_of_ble_eq_true rfl) (fun F e C hr => XM_sub (lv' := [(0, .ref (M.1)), (1, .int (x1)), (2, .int (x2)), (3, .int (x3)), (4, .int (x4))]) [0, 1, 2, 3, 4] rfl ((Mo_keep_x C hr n x1 x2 x3 x4 0 0 σ τ R).1 hR))
