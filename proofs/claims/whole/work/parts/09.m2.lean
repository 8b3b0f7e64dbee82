def Mo_findGreatest_t0 (f : Nat → Int32 → Int32 → Int32 → Int32 → mS → mL → Option (Int32 × mS × mL)) (n : Nat) (x1 : Int32) (x2 : Int32) (x3 : Int32) (x4 : Int32) (σ : mS) (τ : mL) : Option (Int32 × mS × mL) := bnd (su σ 20 0 ((1 : Int32))) (fun s1 => f 7 ((0 : Int32)) 0 0 0 s1 τ)
def Mo_findGreatest_t7 (f : Nat → Int32 → Int32 → Int32 → Int32 → mS → mL → Option (Int32 × mS × mL)) (n : Nat) (x1 : Int32) (x2 : Int32) (x3 : Int32) (x4 : Int32) (σ : mS) (τ : mL) : Option (Int32 × mS × mL) := (if (4 : Int32) ≤ x1 then f 27 ((0 : Int32)) 0 0 0 σ τ else (if xin (x1) 4 = true then bnd (su σ 19 (Int32.toNatClampNeg (x1)) ((0 : Int32))) (fun s4 => f 7 (x1 + 1) 0 0 0 s4 τ) else none))
def Mo_findGreatest_t27 (f : Nat → Int32 → Int32 → Int32 → Int32 → mS → mL → Option (Int32 × mS × mL)) (n : Nat) (x1 : Int32) (x2 : Int32) (x3 : Int32) (x4 : Int32) (σ : mS) (τ : mL) : Option (Int32 × mS × mL) := (if σ 1 0 ≤ x1 then some (0, σ, τ) else f 37 (x1) ((0 : Int32)) 0 0 σ τ)
def Mo_findGreatest_t37 (f : Nat → Int32 → Int32 → Int32 → Int32 → mS → mL → Option (Int32 × mS × mL)) (n : Nat) (x1 : Int32) (x2 : Int32) (x3 : Int32) (x4 : Int32) (σ : mS) (τ : mL) : Option (Int32 × mS × mL) := (if xin (x1) 3 = true then (if σ 2 (Int32.toNatClampNeg (x1)) ≤ x2 then f 64 (x1) (((36 : Int32)) * (x1)) 0 0 σ τ else obd (Mo_find_f n 0 (x1) (x2) 0 0 0 σ τ) (fun r8 => f 37 (x1) (x2 + 1) 0 0 r8.2.1 r8.2.2)) else none)
def Mo_findGreatest_t64 (f : Nat → Int32 → Int32 → Int32 → Int32 → mS → mL → Option (Int32 × mS × mL)) (n : Nat) (x1 : Int32) (x2 : Int32) (x3 : Int32) (x4 : Int32) (σ : mS) (τ : mL) : Option (Int32 × mS × mL) := (if xin (x1) 3 = true then (if (((36 : Int32)) * (x1)) + (((3 : Int32)) * (σ 3 (Int32.toNatClampNeg (x1)))) ≤ x2 then f 27 (x1 + 1) 0 0 0 σ τ else (if xin ((x2) / ((3 : Int32))) 36 = true then (if (x2) - (x2) / ((3 : Int32)) * ((3 : Int32)) < σ 11 (Int32.toNatClampNeg ((x2) / ((3 : Int32)))) then (if xin (x2) 108 = true then (if 0 ≤ (σ 14 (Int32.toNatClampNeg (x2))) >>> (((1 : Int32)) &&& 31) then (if σ 20 0 = 0 then bnd (su σ 20 0 ((0 : Int32))) (fun s16 => (if xin (x2) 108 = true then (if s16 12 (Int32.toNatClampNeg (x2)) = 0 then (if xin (x2) 108 = true then (if xin (s16 13 (Int32.toNatClampNeg (x2))) 4 = true then (if (σ 14 (Int32.toNatClampNeg (x2))) >>> (((1 : Int32)) &&& 31) ≤ s16 19 (Int32.toNatClampNeg (s16 13 (Int32.toNatClampNeg (x2)))) then (if xin (s16 13 (Int32.toNatClampNeg (x2))) 4 = true then (if xin (s16 13 (Int32.toNatClampNeg (x2))) 4 = true then bnd (su s16 19 (Int32.toNatClampNeg (s16 13 (Int32.toNatClampNeg (x2)))) (s16 19 (Int32.toNatClampNeg (s16 13 (Int32.toNatClampNeg (x2)))))) (fun s32 => f 64 (x1) (x2 + 1) 0 0 s32 τ) else none) else none) else (if xin (s16 13 (Int32.toNatClampNeg (x2))) 4 = true then bnd (su s16 19 (Int32.toNatClampNeg (s16 13 (Int32.toNatClampNeg (x2)))) ((σ 14 (Int32.toNatClampNeg (x2))) >>> (((1 : Int32)) &&& 31))) (fun s34 => f 64 (x1) (x2 + 1) 0 0 s34 τ) else none)) else none) else none) else (if xin (x2) 108 = true then (if xin (s16 12 (Int32.toNatClampNeg (x2))) 4 = true then (if (σ 14 (Int32.toNatClampNeg (x2))) >>> (((1 : Int32)) &&& 31) ≤ s16 19 (Int32.toNatClampNeg (s16 12 (Int32.toNatClampNeg (x2)))) then (if xin (s16 12 (Int32.toNatClampNeg (x2))) 4 = true then (if xin (s16 12 (Int32.toNatClampNeg (x2))) 4 = true then bnd (su s16 19 (Int32.toNatClampNeg (s16 12 (Int32.toNatClampNeg (x2)))) (s16 19 (Int32.toNatClampNeg (s16 12 (Int32.toNatClampNeg (x2)))))) (fun s24 => f 64 (x1) (x2 + 1) 0 0 s24 τ) else none) else none) else (if xin (s16 12 (Int32.toNatClampNeg (x2))) 4 = true then bnd (su s16 19 (Int32.toNatClampNeg (s16 12 (Int32.toNatClampNeg (x2)))) ((σ 14 (Int32.toNatClampNeg (x2))) >>> (((1 : Int32)) &&& 31))) (fun s26 => f 64 (x1) (x2 + 1) 0 0 s26 τ) else none)) else none) else none)) else none)) else (if xin (x2) 108 = true then (if σ 12 (Int32.toNatClampNeg (x2)) = 0 then bnd (su σ 20 0 ((1 : Int32))) (fun s37 => (if xin (x2) 108 = true then (if s37 12 (Int32.toNatClampNeg (x2)) = 0 then (if xin (x2) 108 = true then (if xin (s37 13 (Int32.toNatClampNeg (x2))) 4 = true then (if (σ 14 (Int32.toNatClampNeg (x2))) >>> (((1 : Int32)) &&& 31) ≤ s37 19 (Int32.toNatClampNeg (s37 13 (Int32.toNatClampNeg (x2)))) then (if xin (s37 13 (Int32.toNatClampNeg (x2))) 4 = true then (if xin (s37 13 (Int32.toNatClampNeg (x2))) 4 = true then bnd (su s37 19 (Int32.toNatClampNeg (s37 13 (Int32.toNatClampNeg (x2)))) (s37 19 (Int32.toNatClampNeg (s37 13 (Int32.toNatClampNeg (x2)))))) (fun s53 => f 64 (x1) (x2 + 1) 0 0 s53 τ) else none) else none) else (if xin (s37 13 (Int32.toNatClampNeg (x2))) 4 = true then bnd (su s37 19 (Int32.toNatClampNeg (s37 13 (Int32.toNatClampNeg (x2)))) ((σ 14 (Int32.toNatClampNeg (x2))) >>> (((1 : Int32)) &&& 31))) (fun s55 => f 64 (x1) (x2 + 1) 0 0 s55 τ) else none)) else none) else none) else (if xin (x2) 108 = true then (if xin (s37 12 (Int32.toNatClampNeg (x2))) 4 = true then (if (σ 14 (Int32.toNatClampNeg (x2))) >>> (((1 : Int32)) &&& 31) ≤ s37 19 (Int32.toNatClampNeg (s37 12 (Int32.toNatClampNeg (x2)))) then (if xin (s37 12 (Int32.toNatClampNeg (x2))) 4 = true then (if xin (s37 12 (Int32.toNatClampNeg (x2))) 4 = true then bnd (su s37 19 (Int32.toNatClampNeg (s37 12 (Int32.toNatClampNeg (x2)))) (s37 19 (Int32.toNatClampNeg (s37 12 (Int32.toNatClampNeg (x2)))))) (fun s45 => f 64 (x1) (x2 + 1) 0 0 s45 τ) else none) else none) else (if xin (s37 12 (Int32.toNatClampNeg (x2))) 4 = true then bnd (su s37 19 (Int32.toNatClampNeg (s37 12 (Int32.toNatClampNeg (x2)))) ((σ 14 (Int32.toNatClampNeg (x2))) >>> (((1 : Int32)) &&& 31))) (fun s47 => f 64 (x1) (x2 + 1) 0 0 s47 τ) else none)) else none) else none)) else none)) else (if xin (x2) 108 = true then (if σ 13 (Int32.toNatClampNeg (x2)) = 0 then bnd (su σ 20 0 ((1 : Int32))) (fun s77 => (if xin (x2) 108 = true then (if s77 12 (Int32.toNatClampNeg (x2)) = 0 then (if xin (x2) 108 = true then (if xin (s77 13 (Int32.toNatClampNeg (x2))) 4 = true then (if (σ 14 (Int32.toNatClampNeg (x2))) >>> (((1 : Int32)) &&& 31) ≤ s77 19 (Int32.toNatClampNeg (s77 13 (Int32.toNatClampNeg (x2)))) then (if xin (s77 13 (Int32.toNatClampNeg (x2))) 4 = true then (if xin (s77 13 (Int32.toNatClampNeg (x2))) 4 = true then bnd (su s77 19 (Int32.toNatClampNeg (s77 13 (Int32.toNatClampNeg (x2)))) (s77 19 (Int32.toNatClampNeg (s77 13 (Int32.toNatClampNeg (x2)))))) (fun s93 => f 64 (x1) (x2 + 1) 0 0 s93 τ) else none) else none) else (if xin (s77 13 (Int32.toNatClampNeg (x2))) 4 = true then bnd (su s77 19 (Int32.toNatClampNeg (s77 13 (Int32.toNatClampNeg (x2)))) ((σ 14 (Int32.toNatClampNeg (x2))) >>> (((1 : Int32)) &&& 31))) (fun s95 => f 64 (x1) (x2 + 1) 0 0 s95 τ) else none)) else none) else none) else (if xin (x2) 108 = true then (if xin (s77 12 (Int32.toNatClampNeg (x2))) 4 = true then (if (σ 14 (Int32.toNatClampNeg (x2))) >>> (((1 : Int32)) &&& 31) ≤ s77 19 (Int32.toNatClampNeg (s77 12 (Int32.toNatClampNeg (x2)))) then (if xin (s77 12 (Int32.toNatClampNeg (x2))) 4 = true then (if xin (s77 12 (Int32.toNatClampNeg (x2))) 4 = true then bnd (su s77 19 (Int32.toNatClampNeg (s77 12 (Int32.toNatClampNeg (x2)))) (s77 19 (Int32.toNatClampNeg (s77 12 (Int32.toNatClampNeg (x2)))))) (fun s85 => f 64 (x1) (x2 + 1) 0 0 s85 τ) else none) else none) else (if xin (s77 12 (Int32.toNatClampNeg (x2))) 4 = true then bnd (su s77 19 (Int32.toNatClampNeg (s77 12 (Int32.toNatClampNeg (x2)))) ((σ 14 (Int32.toNatClampNeg (x2))) >>> (((1 : Int32)) &&& 31))) (fun s87 => f 64 (x1) (x2 + 1) 0 0 s87 τ) else none)) else none) else none)) else none)) else bnd (su σ 20 0 ((0 : Int32))) (fun s58 => (if xin (x2) 108 = true then (if s58 12 (Int32.toNatClampNeg (x2)) = 0 then (if xin (x2) 108 = true then (if xin (s58 13 (Int32.toNatClampNeg (x2))) 4 = true then (if (σ 14 (Int32.toNatClampNeg (x2))) >>> (((1 : Int32)) &&& 31) ≤ s58 19 (Int32.toNatClampNeg (s58 13 (Int32.toNatClampNeg (x2)))) then (if xin (s58 13 (Int32.toNatClampNeg (x2))) 4 = true then (if xin (s58 13 (Int32.toNatClampNeg (x2))) 4 = true then bnd (su s58 19 (Int32.toNatClampNeg (s58 13 (Int32.toNatClampNeg (x2)))) (s58 19 (Int32.toNatClampNeg (s58 13 (Int32.toNatClampNeg (x2)))))) (fun s74 => f 64 (x1) (x2 + 1) 0 0 s74 τ) else none) else none) else (if xin (s58 13 (Int32.toNatClampNeg (x2))) 4 = true then bnd (su s58 19 (Int32.toNatClampNeg (s58 13 (Int32.toNatClampNeg (x2)))) ((σ 14 (Int32.toNatClampNeg (x2))) >>> (((1 : Int32)) &&& 31))) (fun s76 => f 64 (x1) (x2 + 1) 0 0 s76 τ) else none)) else none) else none) else (if xin (x2) 108 = true then (if xin (s58 12 (Int32.toNatClampNeg (x2))) 4 = true then (if (σ 14 (Int32.toNatClampNeg (x2))) >>> (((1 : Int32)) &&& 31) ≤ s58 19 (Int32.toNatClampNeg (s58 12 (Int32.toNatClampNeg (x2)))) then (if xin (s58 12 (Int32.toNatClampNeg (x2))) 4 = true then (if xin (s58 12 (Int32.toNatClampNeg (x2))) 4 = true then bnd (su s58 19 (Int32.toNatClampNeg (s58 12 (Int32.toNatClampNeg (x2)))) (s58 19 (Int32.toNatClampNeg (s58 12 (Int32.toNatClampNeg (x2)))))) (fun s66 => f 64 (x1) (x2 + 1) 0 0 s66 τ) else none) else none) else (if xin (s58 12 (Int32.toNatClampNeg (x2))) 4 = true then bnd (su s58 19 (Int32.toNatClampNeg (s58 12 (Int32.toNatClampNeg (x2)))) ((σ 14 (Int32.toNatClampNeg (x2))) >>> (((1 : Int32)) &&& 31))) (fun s68 => f 64 (x1) (x2 + 1) 0 0 s68 τ) else none)) else none) else none)) else none))) else none)) else none)) else (if σ 20 0 = 0 then bnd (su σ 20 0 ((0 : Int32))) (fun s97 => (if xin (x2) 108 = true then (if s97 12 (Int32.toNatClampNeg (x2)) = 0 then (if xin (x2) 108 = true then (if xin (s97 13 (Int32.toNatClampNeg (x2))) 4 = true then (if -((σ 14 (Int32.toNatClampNeg (x2))) >>> (((1 : Int32)) &&& 31)) ≤ s97 19 (Int32.toNatClampNeg (s97 13 (Int32.toNatClampNeg (x2)))) then (if xin (s97 13 (Int32.toNatClampNeg (x2))) 4 = true then (if xin (s97 13 (Int32.toNatClampNeg (x2))) 4 = true then bnd (su s97 19 (Int32.toNatClampNeg (s97 13 (Int32.toNatClampNeg (x2)))) (s97 19 (Int32.toNatClampNeg (s97 13 (Int32.toNatClampNeg (x2)))))) (fun s113 => f 64 (x1) (x2 + 1) 0 0 s113 τ) else none) else none) else (if xin (s97 13 (Int32.toNatClampNeg (x2))) 4 = true then bnd (su s97 19 (Int32.toNatClampNeg (s97 13 (Int32.toNatClampNeg (x2)))) (-((σ 14 (Int32.toNatClampNeg (x2))) >>> (((1 : Int32)) &&& 31)))) (fun s115 => f 64 (x1) (x2 + 1) 0 0 s115 τ) else none)) else none) else none) else (if xin (x2) 108 = true then (if xin (s97 12 (Int32.toNatClampNeg (x2))) 4 = true then (if -((σ 14 (Int32.toNatClampNeg (x2))) >>> (((1 : Int32)) &&& 31)) ≤ s97 19 (Int32.toNatClampNeg (s97 12 (Int32.toNatClampNeg (x2)))) then (if xin (s97 12 (Int32.toNatClampNeg (x2))) 4 = true then (if xin (s97 12 (Int32.toNatClampNeg (x2))) 4 = true then bnd (su s97 19 (Int32.toNatClampNeg (s97 12 (Int32.toNatClampNeg (x2)))) (s97 19 (Int32.toNatClampNeg (s97 12 (Int32.toNatClampNeg (x2)))))) (fun s105 => f 64 (x1) (x2 + 1) 0 0 s105 τ) else none) else none) else (if xin (s97 12 (Int32.toNatClampNeg (x2))) 4 = true then bnd (su s97 19 (Int32.toNatClampNeg (s97 12 (Int32.toNatClampNeg (x2)))) (-((σ 14 (Int32.toNatClampNeg (x2))) >>> (((1 : Int32)) &&& 31)))) (fun s107 => f 64 (x1) (x2 + 1) 0 0 s107 τ) else none)) else none) else none)) else none)) else (if xin (x2) 108 = true then (if σ 12 (Int32.toNatClampNeg (x2)) = 0 then bnd (su σ 20 0 ((1 : Int32))) (fun s118 => (if xin (x2) 108 = true then (if s118 12 (Int32.toNatClampNeg (x2)) = 0 then (if xin (x2) 108 = true then (if xin (s118 13 (Int32.toNatClampNeg (x2))) 4 = true then (if -((σ 14 (Int32.toNatClampNeg (x2))) >>> (((1 : Int32)) &&& 31)) ≤ s118 19 (Int32.toNatClampNeg (s118 13 (Int32.toNatClampNeg (x2)))) then (if xin (s118 13 (Int32.toNatClampNeg (x2))) 4 = true then (if xin (s118 13 (Int32.toNatClampNeg (x2))) 4 = true then bnd (su s118 19 (Int32.toNatClampNeg (s118 13 (Int32.toNatClampNeg (x2)))) (s118 19 (Int32.toNatClampNeg (s118 13 (Int32.toNatClampNeg (x2)))))) (fun s134 => f 64 (x1) (x2 + 1) 0 0 s134 τ) else none) else none) else (if xin (s118 13 (Int32.toNatClampNeg (x2))) 4 = true then bnd (su s118 19 (Int32.toNatClampNeg (s118 13 (Int32.toNatClampNeg (x2)))) (-((σ 14 (Int32.toNatClampNeg (x2))) >>> (((1 : Int32)) &&& 31)))) (fun s136 => f 64 (x1) (x2 + 1) 0 0 s136 τ) else none)) else none) else none) else (if xin (x2) 108 = true then (if xin (s118 12 (Int32.toNatClampNeg (x2))) 4 = true then (if -((σ 14 (Int32.toNatClampNeg (x2))) >>> (((1 : Int32)) &&& 31)) ≤ s118 19 (Int32.toNatClampNeg (s118 12 (Int32.toNatClampNeg (x2)))) then (if xin (s118 12 (Int32.toNatClampNeg (x2))) 4 = true then (if xin (s118 12 (Int32.toNatClampNeg (x2))) 4 = true then bnd (su s118 19 (Int32.toNatClampNeg (s118 12 (Int32.toNatClampNeg (x2)))) (s118 19 (Int32.toNatClampNeg (s118 12 (Int32.toNatClampNeg (x2)))))) (fun s126 => f 64 (x1) (x2 + 1) 0 0 s126 τ) else none) else none) else (if xin (s118 12 (Int32.toNatClampNeg (x2))) 4 = true then bnd (su s118 19 (Int32.toNatClampNeg (s118 12 (Int32.toNatClampNeg (x2)))) (-((σ 14 (Int32.toNatClampNeg (x2))) >>> (((1 : Int32)) &&& 31)))) (fun s128 => f 64 (x1) (x2 + 1) 0 0 s128 τ) else none)) else none) else none)) else none)) else (if xin (x2) 108 = true then (if σ 13 (Int32.toNatClampNeg (x2)) = 0 then bnd (su σ 20 0 ((1 : Int32))) (fun s158 => (if xin (x2) 108 = true then (if s158 12 (Int32.toNatClampNeg (x2)) = 0 then (if xin (x2) 108 = true then (if xin (s158 13 (Int32.toNatClampNeg (x2))) 4 = true then (if -((σ 14 (Int32.toNatClampNeg (x2))) >>> (((1 : Int32)) &&& 31)) ≤ s158 19 (Int32.toNatClampNeg (s158 13 (Int32.toNatClampNeg (x2)))) then (if xin (s158 13 (Int32.toNatClampNeg (x2))) 4 = true then (if xin (s158 13 (Int32.toNatClampNeg (x2))) 4 = true then bnd (su s158 19 (Int32.toNatClampNeg (s158 13 (Int32.toNatClampNeg (x2)))) (s158 19 (Int32.toNatClampNeg (s158 13 (Int32.toNatClampNeg (x2)))))) (fun s174 => f 64 (x1) (x2 + 1) 0 0 s174 τ) else none) else none) else (if xin (s158 13 (Int32.toNatClampNeg (x2))) 4 = true then bnd (su s158 19 (Int32.toNatClampNeg (s158 13 (Int32.toNatClampNeg (x2)))) (-((σ 14 (Int32.toNatClampNeg (x2))) >>> (((1 : Int32)) &&& 31)))) (fun s176 => f 64 (x1) (x2 + 1) 0 0 s176 τ) else none)) else none) else none) else (if xin (x2) 108 = true then (if xin (s158 12 (Int32.toNatClampNeg (x2))) 4 = true then (if -((σ 14 (Int32.toNatClampNeg (x2))) >>> (((1 : Int32)) &&& 31)) ≤ s158 19 (Int32.toNatClampNeg (s158 12 (Int32.toNatClampNeg (x2)))) then (if xin (s158 12 (Int32.toNatClampNeg (x2))) 4 = true then (if xin (s158 12 (Int32.toNatClampNeg (x2))) 4 = true then bnd (su s158 19 (Int32.toNatClampNeg (s158 12 (Int32.toNatClampNeg (x2)))) (s158 19 (Int32.toNatClampNeg (s158 12 (Int32.toNatClampNeg (x2)))))) (fun s166 => f 64 (x1) (x2 + 1) 0 0 s166 τ) else none) else none) else (if xin (s158 12 (Int32.toNatClampNeg (x2))) 4 = true then bnd (su s158 19 (Int32.toNatClampNeg (s158 12 (Int32.toNatClampNeg (x2)))) (-((σ 14 (Int32.toNatClampNeg (x2))) >>> (((1 : Int32)) &&& 31)))) (fun s168 => f 64 (x1) (x2 + 1) 0 0 s168 τ) else none)) else none) else none)) else none)) else bnd (su σ 20 0 ((0 : Int32))) (fun s139 => (if xin (x2) 108 = true then (if s139 12 (Int32.toNatClampNeg (x2)) = 0 then (if xin (x2) 108 = true then (if xin (s139 13 (Int32.toNatClampNeg (x2))) 4 = true then (if -((σ 14 (Int32.toNatClampNeg (x2))) >>> (((1 : Int32)) &&& 31)) ≤ s139 19 (Int32.toNatClampNeg (s139 13 (Int32.toNatClampNeg (x2)))) then (if xin (s139 13 (Int32.toNatClampNeg (x2))) 4 = true then (if xin (s139 13 (Int32.toNatClampNeg (x2))) 4 = true then bnd (su s139 19 (Int32.toNatClampNeg (s139 13 (Int32.toNatClampNeg (x2)))) (s139 19 (Int32.toNatClampNeg (s139 13 (Int32.toNatClampNeg (x2)))))) (fun s155 => f 64 (x1) (x2 + 1) 0 0 s155 τ) else none) else none) else (if xin (s139 13 (Int32.toNatClampNeg (x2))) 4 = true then bnd (su s139 19 (Int32.toNatClampNeg (s139 13 (Int32.toNatClampNeg (x2)))) (-((σ 14 (Int32.toNatClampNeg (x2))) >>> (((1 : Int32)) &&& 31)))) (fun s157 => f 64 (x1) (x2 + 1) 0 0 s157 τ) else none)) else none) else none) else (if xin (x2) 108 = true then (if xin (s139 12 (Int32.toNatClampNeg (x2))) 4 = true then (if -((σ 14 (Int32.toNatClampNeg (x2))) >>> (((1 : Int32)) &&& 31)) ≤ s139 19 (Int32.toNatClampNeg (s139 12 (Int32.toNatClampNeg (x2)))) then (if xin (s139 12 (Int32.toNatClampNeg (x2))) 4 = true then (if xin (s139 12 (Int32.toNatClampNeg (x2))) 4 = true then bnd (su s139 19 (Int32.toNatClampNeg (s139 12 (Int32.toNatClampNeg (x2)))) (s139 19 (Int32.toNatClampNeg (s139 12 (Int32.toNatClampNeg (x2)))))) (fun s147 => f 64 (x1) (x2 + 1) 0 0 s147 τ) else none) else none) else (if xin (s139 12 (Int32.toNatClampNeg (x2))) 4 = true then bnd (su s139 19 (Int32.toNatClampNeg (s139 12 (Int32.toNatClampNeg (x2)))) (-((σ 14 (Int32.toNatClampNeg (x2))) >>> (((1 : Int32)) &&& 31)))) (fun s149 => f 64 (x1) (x2 + 1) 0 0 s149 τ) else none)) else none) else none)) else none))) else none)) else none))) else none) else f 64 (x1) (x2 + 1) 0 0 σ τ) else none)) else none)
def Mo_findGreatest_f : Nat → Nat → Int32 → Int32 → Int32 → Int32 → mS → mL → Option (Int32 × mS × mL)
  | 0 => fun _ _ _ _ _ _ _ => none
  | n + 1 => fun p x1 x2 x3 x4 σ τ => if p = 0 then Mo_findGreatest_t0 (Mo_findGreatest_f n) n x1 x2 x3 x4 σ τ else if p = 7 then Mo_findGreatest_t7 (Mo_findGreatest_f n) n x1 x2 x3 x4 σ τ else if p = 27 then Mo_findGreatest_t27 (Mo_findGreatest_f n) n x1 x2 x3 x4 σ τ else if p = 37 then Mo_findGreatest_t37 (Mo_findGreatest_f n) n x1 x2 x3 x4 σ τ else if p = 64 then Mo_findGreatest_t64 (Mo_findGreatest_f n) n x1 x2 x3 x4 σ τ else none
theorem Mo_findGreatest_e0 (n : Nat) (x1 : Int32) (x2 : Int32) (x3 : Int32) (x4 : Int32) (σ : mS) (τ : mL) : Mo_findGreatest_f (n + 1) 0 x1 x2 x3 x4 σ τ = Mo_findGreatest_t0 (Mo_findGreatest_f n) n x1 x2 x3 x4 σ τ := by
  show (if 0 = 0 then Mo_findGreatest_t0 (Mo_findGreatest_f n) n x1 x2 x3 x4 σ τ else if 0 = 7 then Mo_findGreatest_t7 (Mo_findGreatest_f n) n x1 x2 x3 x4 σ τ else if 0 = 27 then Mo_findGreatest_t27 (Mo_findGreatest_f n) n x1 x2 x3 x4 σ τ else if 0 = 37 then Mo_findGreatest_t37 (Mo_findGreatest_f n) n x1 x2 x3 x4 σ τ else if 0 = 64 then Mo_findGreatest_t64 (Mo_findGreatest_f n) n x1 x2 x3 x4 σ τ else none) = _
  rw [if_pos rfl]
theorem Mo_findGreatest_e7 (n : Nat) (x1 : Int32) (x2 : Int32) (x3 : Int32) (x4 : Int32) (σ : mS) (τ : mL) : Mo_findGreatest_f (n + 1) 7 x1 x2 x3 x4 σ τ = Mo_findGreatest_t7 (Mo_findGreatest_f n) n x1 x2 x3 x4 σ τ := by
  show (if 7 = 0 then Mo_findGreatest_t0 (Mo_findGreatest_f n) n x1 x2 x3 x4 σ τ else if 7 = 7 then Mo_findGreatest_t7 (Mo_findGreatest_f n) n x1 x2 x3 x4 σ τ else if 7 = 27 then Mo_findGreatest_t27 (Mo_findGreatest_f n) n x1 x2 x3 x4 σ τ else if 7 = 37 then Mo_findGreatest_t37 (Mo_findGreatest_f n) n x1 x2 x3 x4 σ τ else if 7 = 64 then Mo_findGreatest_t64 (Mo_findGreatest_f n) n x1 x2 x3 x4 σ τ else none) = _
  rw [if_neg (by decide), if_pos rfl]
theorem Mo_findGreatest_e27 (n : Nat) (x1 : Int32) (x2 : Int32) (x3 : Int32) (x4 : Int32) (σ : mS) (τ : mL) : Mo_findGreatest_f (n + 1) 27 x1 x2 x3 x4 σ τ = Mo_findGreatest_t27 (Mo_findGreatest_f n) n x1 x2 x3 x4 σ τ := by
  show (if 27 = 0 then Mo_findGreatest_t0 (Mo_findGreatest_f n) n x1 x2 x3 x4 σ τ else if 27 = 7 then Mo_findGreatest_t7 (Mo_findGreatest_f n) n x1 x2 x3 x4 σ τ else if 27 = 27 then Mo_findGreatest_t27 (Mo_findGreatest_f n) n x1 x2 x3 x4 σ τ else if 27 = 37 then Mo_findGreatest_t37 (Mo_findGreatest_f n) n x1 x2 x3 x4 σ τ else if 27 = 64 then Mo_findGreatest_t64 (Mo_findGreatest_f n) n x1 x2 x3 x4 σ τ else none) = _
  rw [if_neg (by decide), if_neg (by decide), if_pos rfl]
theorem Mo_findGreatest_e37 (n : Nat) (x1 : Int32) (x2 : Int32) (x3 : Int32) (x4 : Int32) (σ : mS) (τ : mL) : Mo_findGreatest_f (n + 1) 37 x1 x2 x3 x4 σ τ = Mo_findGreatest_t37 (Mo_findGreatest_f n) n x1 x2 x3 x4 σ τ := by
  show (if 37 = 0 then Mo_findGreatest_t0 (Mo_findGreatest_f n) n x1 x2 x3 x4 σ τ else if 37 = 7 then Mo_findGreatest_t7 (Mo_findGreatest_f n) n x1 x2 x3 x4 σ τ else if 37 = 27 then Mo_findGreatest_t27 (Mo_findGreatest_f n) n x1 x2 x3 x4 σ τ else if 37 = 37 then Mo_findGreatest_t37 (Mo_findGreatest_f n) n x1 x2 x3 x4 σ τ else if 37 = 64 then Mo_findGreatest_t64 (Mo_findGreatest_f n) n x1 x2 x3 x4 σ τ else none) = _
  rw [if_neg (by decide), if_neg (by decide), if_neg (by decide), if_pos rfl]
theorem Mo_findGreatest_e64 (n : Nat) (x1 : Int32) (x2 : Int32) (x3 : Int32) (x4 : Int32) (σ : mS) (τ : mL) : Mo_findGreatest_f (n + 1) 64 x1 x2 x3 x4 σ τ = Mo_findGreatest_t64 (Mo_findGreatest_f n) n x1 x2 x3 x4 σ τ := by
  show (if 64 = 0 then Mo_findGreatest_t0 (Mo_findGreatest_f n) n x1 x2 x3 x4 σ τ else if 64 = 7 then Mo_findGreatest_t7 (Mo_findGreatest_f n) n x1 x2 x3 x4 σ τ else if 64 = 27 then Mo_findGreatest_t27 (Mo_findGreatest_f n) n x1 x2 x3 x4 σ τ else if 64 = 37 then Mo_findGreatest_t37 (Mo_findGreatest_f n) n x1 x2 x3 x4 σ τ else if 64 = 64 then Mo_findGreatest_t64 (Mo_findGreatest_f n) n x1 x2 x3 x4 σ τ else none) = _
  rw [if_neg (by decide), if_neg (by decide), if_neg (by decide), if_neg (by decide), if_pos rfl]
set_option maxRecDepth 100000 in
set_option maxHeartbeats 8000000 in
theorem Mo_findGreatest_x {F : xF} {G : xG} {B : Nat} {M : xM} (C : xC F G B cMo_findGreatest RMo 5 1 25 0 0) (hr : (xFM F).sig.returnType = none) : ∀ (n : Nat) (x1 : Int32) (x2 : Int32) (x3 : Int32) (x4 : Int32) (σ : mS) (τ : mL) (R : Int32 × mS × mL), (Mo_findGreatest_f n 0 x1 x2 x3 x4 σ τ = some R → XM F G B (xZ F G B (mP M none R.2.1 R.2.2) 0 0) 5 M σ τ 0 [(0, .ref (M.1))] []) ∧ (Mo_findGreatest_f n 7 x1 x2 x3 x4 σ τ = some R → XM F G B (xZ F G B (mP M none R.2.1 R.2.2) 0 0) 5 M σ τ 7 [(0, .ref (M.1)), (1, .int (x1))] []) ∧ (Mo_findGreatest_f n 27 x1 x2 x3 x4 σ τ = some R → XM F G B (xZ F G B (mP M none R.2.1 R.2.2) 0 0) 5 M σ τ 27 [(0, .ref (M.1)), (1, .int (x1))] []) ∧ (Mo_findGreatest_f n 37 x1 x2 x3 x4 σ τ = some R → XM F G B (xZ F G B (mP M none R.2.1 R.2.2) 0 0) 5 M σ τ 37 [(0, .ref (M.1)), (1, .int (x1)), (2, .int (x2))] []) ∧ (Mo_findGreatest_f n 64 x1 x2 x3 x4 σ τ = some R → XM F G B (xZ F G B (mP M none R.2.1 R.2.2) 0 0) 5 M σ τ 64 [(0, .ref (M.1)), (1, .int (x1)), (2, .int (x2))] []) := by
  intro n
  induction n with
  | zero => exact fun _ _ _ _ _ _ _ => ⟨(fun hR => nomatch (show (none : Option _) = some _ from hR)), (fun hR => nomatch (show (none : Option _) = some _ from hR)), (fun hR => nomatch (show (none : Option _) = some _ from hR)), (fun hR => nomatch (show (none : Option _) = some _ from hR)), (fun hR => nomatch (show (none : Option _) = some _ from hR))⟩
  | succ n ih =>
    intro x1 x2 x3 x4 σ τ R
    refine ⟨fun hR => ?_, fun hR => ?_, fun hR => ?_, fun hR => ?_, fun hR => ?_⟩
    · rw [Mo_findGreatest_e0] at hR
      unfold Mo_findGreatest_t0 at hR
      refine XM_aload_n C dMo_findGreatest_0 rfl ?_
      refine XM_iconst (v := 1) C dMo_findGreatest_1 rfl ?_
      refine XM_put (k := 20) C rfl fwMo_192 rfl rfl rfl dMo_findGreatest_2 ?_
      obtain ⟨s1, es1, hR⟩ := b_bnd hR
      rw [← es1]
      refine XM_iconst (v := 0) C dMo_findGreatest_5 rfl ?_
      refine XM_istore_n (lv' := [(1, .int ((0 : Int32))), (0, .ref (M.1))]) C dMo_findGreatest_6 (by decide) rfl ?_
      refine XM_sub (lv' := [(0, .ref (M.1)), (1, .int ((0 : Int32)))]) [1, 0] rfl ?_
      exact (ih ((0 : Int32)) 0 0 0 _ _ _).2.1 hR
    · rw [Mo_findGreatest_e7] at hR
      unfold Mo_findGreatest_t7 at hR
      refine XM_iload_n C dMo_findGreatest_7 rfl ?_
      refine XM_iconst (v := 4) C dMo_findGreatest_8 rfl ?_
      refine XM_icmp_ge (tgt := 25) C dMo_findGreatest_9 (by decide) (fun c2 => ?_) (fun c2 => ?_)
      · rw [if_pos c2] at hR
        refine XM_iconst (v := 0) C dMo_findGreatest_25 rfl ?_
        refine XM_istore_n (lv' := [(1, .int ((0 : Int32))), (0, .ref (M.1))]) C dMo_findGreatest_26 (by decide) rfl ?_
        refine XM_sub (lv' := [(0, .ref (M.1)), (1, .int ((0 : Int32)))]) [1, 0] rfl ?_
        exact (ih ((0 : Int32)) 0 0 0 _ _ _).2.2.1 hR
      · rw [if_neg c2] at hR
        refine XM_aload_n C dMo_findGreatest_12 rfl ?_
        refine XM_get (k := 19) (v := .ref (M.2.1 19)) C rfl fwMo_55 dMo_findGreatest_13 ?_
        refine XM_iload_n C dMo_findGreatest_16 rfl ?_
        refine XM_iconst (v := 0) C dMo_findGreatest_17 rfl ?_
        obtain ⟨q3, hR⟩ := o_if hR
        refine XM_iast (k := 19) (n := 4) C rfl (xin_vp q3) dMo_findGreatest_18 ?_
        obtain ⟨s4, es4, hR⟩ := b_bnd hR
        rw [← es4]
        refine XM_iinc (v := x1 + 1) (lv' := [(1, .int (x1 + 1)), (0, .ref (M.1))]) C dMo_findGreatest_19 rfl rfl (by decide) rfl ?_
        refine XM_goto (tgt := 7) C dMo_findGreatest_22 (by decide) ?_
        refine XM_sub (lv' := [(0, .ref (M.1)), (1, .int (x1 + 1))]) [1, 0] rfl ?_
        exact (ih (x1 + 1) 0 0 0 _ _ _).2.1 hR
    · rw [Mo_findGreatest_e27] at hR
      unfold Mo_findGreatest_t27 at hR
      refine XM_iload_n C dMo_findGreatest_27 rfl ?_
      refine XM_aload_n C dMo_findGreatest_28 rfl ?_
      refine XM_get (k := 1) (v := .int (σ 1 0)) C rfl fwMo_128 dMo_findGreatest_29 ?_
      refine XM_icmp_ge (tgt := 219) C dMo_findGreatest_32 (by decide) (fun c5 => ?_) (fun c5 => ?_)
      · rw [if_pos c5] at hR
        have hR := Option.some.inj hR
        subst hR
        exact XM_vret C hr dMo_findGreatest_219 rfl rfl rfl
      · rw [if_neg c5] at hR
        refine XM_iconst (v := 0) C dMo_findGreatest_35 rfl ?_
        refine XM_istore_n (lv' := [(2, .int ((0 : Int32))), (0, .ref (M.1)), (1, .int (x1))]) C dMo_findGreatest_36 (by decide) rfl ?_
        refine XM_sub (lv' := [(0, .ref (M.1)), (1, .int (x1)), (2, .int ((0 : Int32)))]) [1, 2, 0] rfl ?_
        exact (ih (x1) ((0 : Int32)) 0 0 _ _ _).2.2.2.1 hR
    · rw [Mo_findGreatest_e37] at hR
      unfold Mo_findGreatest_t37 at hR
      refine XM_iload_n C dMo_findGreatest_37 rfl ?_
      refine XM_aload_n C dMo_findGreatest_38 rfl ?_
      refine XM_get (k := 2) (v := .ref (M.2.1 2)) C rfl fwMo_7 dMo_findGreatest_39 ?_
      refine XM_iload_n C dMo_findGreatest_42 rfl ?_
      obtain ⟨q6, hR⟩ := o_if hR
      refine XM_iald (k := 2) (n := 3) C rfl (xin_vp q6) dMo_findGreatest_43 ?_
      refine XM_icmp_ge (tgt := 59) C dMo_findGreatest_44 (by decide) (fun c7 => ?_) (fun c7 => ?_)
      · rw [if_pos c7] at hR
        refine XM_bipush (v := 36) C dMo_findGreatest_59 (by decide) ?_
        refine XM_iload_n C dMo_findGreatest_61 rfl ?_
        refine XM_imul C dMo_findGreatest_62 ?_
        refine XM_istore_n (lv' := [(2, .int (((36 : Int32)) * (x1))), (0, .ref (M.1)), (1, .int (x1))]) C dMo_findGreatest_63 (by decide) rfl ?_
        refine XM_sub (lv' := [(0, .ref (M.1)), (1, .int (x1)), (2, .int (((36 : Int32)) * (x1)))]) [1, 2, 0] rfl ?_
        exact (ih (x1) (((36 : Int32)) * (x1)) 0 0 _ _ _).2.2.2.2 hR
      · rw [if_neg c7] at hR
        refine XM_aload_n C dMo_findGreatest_47 rfl ?_
        refine XM_iload_n C dMo_findGreatest_48 rfl ?_
        refine XM_iload_n C dMo_findGreatest_49 rfl ?_
        obtain ⟨r8, hr8, hR⟩ := o_bind hR
        refine XM_callVv (As := [.int (x1), .int (x2)]) (rest := []) C (Mo_find_c hr8) wMo_195 ⟨by decide, by decide⟩ rfl rfl (Nat.le_of_ble_eq_true rfl) dMo_findGreatest_50 ?_
        refine XM_iinc (v := x2 + 1) (lv' := [(2, .int (x2 + 1)), (0, .ref (M.1)), (1, .int (x1))]) C dMo_findGreatest_53 rfl rfl (by decide) rfl ?_
        refine XM_goto (tgt := 37) C dMo_findGreatest_56 (by decide) ?_
        refine XM_sub (lv' := [(0, .ref (M.1)), (1, .int (x1)), (2, .int (x2 + 1))]) [1, 2, 0] rfl ?_
        exact (ih (x1) (x2 + 1) 0 0 _ _ _).2.2.2.1 hR
    · rw [Mo_findGreatest_e64] at hR
      unfold Mo_findGreatest_t64 at hR
      refine XM_iload_n C dMo_findGreatest_64 rfl ?_
      refine XM_bipush (v := 36) C dMo_findGreatest_65 (by decide) ?_
      refine XM_iload_n C dMo_findGreatest_67 rfl ?_
      refine XM_imul C dMo_findGreatest_68 ?_
      refine XM_iconst (v := 3) C dMo_findGreatest_69 rfl ?_
      refine XM_aload_n C dMo_findGreatest_70 rfl ?_
      refine XM_get (k := 3) (v := .ref (M.2.1 3)) C rfl fwMo_13 dMo_findGreatest_71 ?_
      refine XM_iload_n C dMo_findGreatest_74 rfl ?_
      obtain ⟨q9, hR⟩ := o_if hR
      refine XM_iald (k := 3) (n := 3) C rfl (xin_vp q9) dMo_findGreatest_75 ?_
      refine XM_imul C dMo_findGreatest_76 ?_
      refine XM_iadd C dMo_findGreatest_77 ?_
      refine XM_icmp_ge (tgt := 213) C dMo_findGreatest_78 (by decide) (fun c10 => ?_) (fun c10 => ?_)
      · rw [if_pos c10] at hR
        refine XM_iinc (v := x1 + 1) (lv' := [(1, .int (x1 + 1)), (0, .ref (M.1)), (2, .int (x2))]) C dMo_findGreatest_213 rfl rfl (by decide) rfl ?_
        refine XM_goto (tgt := 27) C dMo_findGreatest_216 (by decide) ?_
        refine XM_sub (lv' := [(0, .ref (M.1)), (1, .int (x1 + 1))]) [1, 0] rfl ?_
        exact (ih (x1 + 1) 0 0 0 _ _ _).2.2.1 hR
      · rw [if_neg c10] at hR
        refine XM_iload_n C dMo_findGreatest_81 rfl ?_
        refine XM_iconst (v := 3) C dMo_findGreatest_82 rfl ?_
        refine XM_irem C dMo_findGreatest_83 (by decide) ?_
        refine XM_aload_n C dMo_findGreatest_84 rfl ?_
        refine XM_get (k := 11) (v := .ref (M.2.1 11)) C rfl fwMo_37 dMo_findGreatest_85 ?_
        refine XM_iload_n C dMo_findGreatest_88 rfl ?_
        refine XM_iconst (v := 3) C dMo_findGreatest_89 rfl ?_
        refine XM_idiv C dMo_findGreatest_90 (by decide) ?_
        obtain ⟨q11, hR⟩ := o_if hR
        refine XM_iald (k := 11) (n := 36) C rfl (xin_vp q11) dMo_findGreatest_91 ?_
        refine XM_icmp_lt (tgt := 98) C dMo_findGreatest_92 (by decide) (fun c12 => ?_) (fun c12 => ?_)
        · rw [if_pos c12] at hR
          refine XM_aload_n C dMo_findGreatest_98 rfl ?_
          refine XM_get (k := 14) (v := .ref (M.2.1 14)) C rfl fwMo_46 dMo_findGreatest_99 ?_
          refine XM_iload_n C dMo_findGreatest_102 rfl ?_
          obtain ⟨q13, hR⟩ := o_if hR
          refine XM_iald (k := 14) (n := 108) C rfl (xin_vp q13) dMo_findGreatest_103 ?_
          refine XM_iconst (v := 1) C dMo_findGreatest_104 rfl ?_
          refine XM_ishr C dMo_findGreatest_105 ?_
          refine XM_istore_n (lv' := [(3, .int ((σ 14 (Int32.toNatClampNeg (x2))) >>> (((1 : Int32)) &&& 31))), (0, .ref (M.1)), (1, .int (x1)), (2, .int (x2))]) C dMo_findGreatest_106 (by decide) rfl ?_
          refine XM_iload_n C dMo_findGreatest_107 rfl ?_
          refine XM_if_ge (tgt := 116) C dMo_findGreatest_108 (by decide) (fun c14 => ?_) (fun c14 => ?_)
          · rw [if_pos c14] at hR
            refine XM_iload_n C dMo_findGreatest_116 rfl ?_
            refine XM_istore_n (lv' := [(3, .int ((σ 14 (Int32.toNatClampNeg (x2))) >>> (((1 : Int32)) &&& 31))), (0, .ref (M.1)), (1, .int (x1)), (2, .int (x2))]) C dMo_findGreatest_117 (by decide) rfl ?_
            refine XM_aload_n C dMo_findGreatest_118 rfl ?_
            refine XM_aload_n C dMo_findGreatest_119 rfl ?_
            refine XM_get (k := 20) (v := .int (σ 20 0)) C rfl fwMo_192 dMo_findGreatest_120 ?_
            refine XM_if_eq (tgt := 148) C dMo_findGreatest_123 (by decide) (fun c15 => ?_) (fun c15 => ?_)
            · rw [if_pos c15] at hR
              refine XM_iconst (v := 0) C dMo_findGreatest_148 rfl ?_
              refine XM_put (k := 20) C rfl fwMo_192 rfl rfl rfl dMo_findGreatest_149 ?_
              obtain ⟨s16, es16, hR⟩ := b_bnd hR
              rw [← es16]
              refine XM_aload_n C dMo_findGreatest_152 rfl ?_
              refine XM_get (k := 12) (v := .ref (M.2.1 12)) C rfl fwMo_40 dMo_findGreatest_153 ?_
              refine XM_iload_n C dMo_findGreatest_156 rfl ?_
              obtain ⟨q17, hR⟩ := o_if hR
              refine XM_iald (k := 12) (n := 108) C rfl (xin_vp q17) dMo_findGreatest_157 ?_
              refine XM_if_ne (tgt := 170) C dMo_findGreatest_158 (by decide) (fun c18 => ?_) (fun c18 => ?_)
              · rw [if_neg c18] at hR
                refine XM_aload_n C dMo_findGreatest_170 rfl ?_
                refine XM_get (k := 12) (v := .ref (M.2.1 12)) C rfl fwMo_40 dMo_findGreatest_171 ?_
                refine XM_iload_n C dMo_findGreatest_174 rfl ?_
                obtain ⟨q19, hR⟩ := o_if hR
                refine XM_iald (k := 12) (n := 108) C rfl (xin_vp q19) dMo_findGreatest_175 ?_
                refine XM_istore (lv' := [(4, .int (s16 12 (Int32.toNatClampNeg (x2)))), (3, .int ((σ 14 (Int32.toNatClampNeg (x2))) >>> (((1 : Int32)) &&& 31))), (0, .ref (M.1)), (1, .int (x1)), (2, .int (x2))]) C dMo_findGreatest_176 (by decide) rfl ?_
                refine XM_aload_n C dMo_findGreatest_178 rfl ?_
                refine XM_get (k := 19) (v := .ref (M.2.1 19)) C rfl fwMo_55 dMo_findGreatest_179 ?_
                refine XM_iload C dMo_findGreatest_182 rfl ?_
                refine XM_iload_n C dMo_findGreatest_184 rfl ?_
                refine XM_aload_n C dMo_findGreatest_185 rfl ?_
                refine XM_get (k := 19) (v := .ref (M.2.1 19)) C rfl fwMo_55 dMo_findGreatest_186 ?_
                refine XM_iload C dMo_findGreatest_189 rfl ?_
                obtain ⟨q20, hR⟩ := o_if hR
                refine XM_iald (k := 19) (n := 4) C rfl (xin_vp q20) dMo_findGreatest_191 ?_
                refine XM_icmp_le (tgt := 199) C dMo_findGreatest_192 (by decide) (fun c21 => ?_) (fun c21 => ?_)
                · rw [if_pos c21] at hR
                  refine XM_aload_n C dMo_findGreatest_199 rfl ?_
                  refine XM_get (k := 19) (v := .ref (M.2.1 19)) C rfl fwMo_55 dMo_findGreatest_200 ?_
                  refine XM_iload C dMo_findGreatest_203 rfl ?_
                  obtain ⟨q22, hR⟩ := o_if hR
                  refine XM_iald (k := 19) (n := 4) C rfl (xin_vp q22) dMo_findGreatest_205 ?_
                  obtain ⟨q23, hR⟩ := o_if hR
                  refine XM_iast (k := 19) (n := 4) C rfl (xin_vp q23) dMo_findGreatest_206 ?_
                  obtain ⟨s24, es24, hR⟩ := b_bnd hR
                  rw [← es24]
                  refine XM_iinc (v := x2 + 1) (lv' := [(2, .int (x2 + 1)), (4, .int (s16 12 (Int32.toNatClampNeg (x2)))), (3, .int ((σ 14 (Int32.toNatClampNeg (x2))) >>> (((1 : Int32)) &&& 31))), (0, .ref (M.1)), (1, .int (x1))]) C dMo_findGreatest_207 rfl rfl (by decide) rfl ?_
                  refine XM_goto (tgt := 64) C dMo_findGreatest_210 (by decide) ?_
                  refine XM_sub (lv' := [(0, .ref (M.1)), (1, .int (x1)), (2, .int (x2 + 1))]) [3, 4, 0] rfl ?_
                  exact (ih (x1) (x2 + 1) 0 0 _ _ _).2.2.2.2 hR
                · rw [if_neg c21] at hR
                  refine XM_iload_n C dMo_findGreatest_195 rfl ?_
                  refine XM_goto (tgt := 206) C dMo_findGreatest_196 (by decide) ?_
                  obtain ⟨q25, hR⟩ := o_if hR
                  refine XM_iast (k := 19) (n := 4) C rfl (xin_vp q25) dMo_findGreatest_206 ?_
                  obtain ⟨s26, es26, hR⟩ := b_bnd hR
                  rw [← es26]
                  refine XM_iinc (v := x2 + 1) (lv' := [(2, .int (x2 + 1)), (4, .int (s16 12 (Int32.toNatClampNeg (x2)))), (3, .int ((σ 14 (Int32.toNatClampNeg (x2))) >>> (((1 : Int32)) &&& 31))), (0, .ref (M.1)), (1, .int (x1))]) C dMo_findGreatest_207 rfl rfl (by decide) rfl ?_
                  refine XM_goto (tgt := 64) C dMo_findGreatest_210 (by decide) ?_
                  refine XM_sub (lv' := [(0, .ref (M.1)), (1, .int (x1)), (2, .int (x2 + 1))]) [3, 4, 0] rfl ?_
                  exact (ih (x1) (x2 + 1) 0 0 _ _ _).2.2.2.2 hR
              · rw [if_pos c18] at hR
                refine XM_aload_n C dMo_findGreatest_161 rfl ?_
                refine XM_get (k := 13) (v := .ref (M.2.1 13)) C rfl fwMo_43 dMo_findGreatest_162 ?_
                refine XM_iload_n C dMo_findGreatest_165 rfl ?_
                obtain ⟨q27, hR⟩ := o_if hR
                refine XM_iald (k := 13) (n := 108) C rfl (xin_vp q27) dMo_findGreatest_166 ?_
                refine XM_goto (tgt := 176) C dMo_findGreatest_167 (by decide) ?_
                refine XM_istore (lv' := [(4, .int (s16 13 (Int32.toNatClampNeg (x2)))), (3, .int ((σ 14 (Int32.toNatClampNeg (x2))) >>> (((1 : Int32)) &&& 31))), (0, .ref (M.1)), (1, .int (x1)), (2, .int (x2))]) C dMo_findGreatest_176 (by decide) rfl ?_
                refine XM_aload_n C dMo_findGreatest_178 rfl ?_
                refine XM_get (k := 19) (v := .ref (M.2.1 19)) C rfl fwMo_55 dMo_findGreatest_179 ?_
                refine XM_iload C dMo_findGreatest_182 rfl ?_
                refine XM_iload_n C dMo_findGreatest_184 rfl ?_
                refine XM_aload_n C dMo_findGreatest_185 rfl ?_
                refine XM_get (k := 19) (v := .ref (M.2.1 19)) C rfl fwMo_55 dMo_findGreatest_186 ?_
                refine XM_iload C dMo_findGreatest_189 rfl ?_
                obtain ⟨q28, hR⟩ := o_if hR
                refine XM_iald (k := 19) (n := 4) C rfl (xin_vp q28) dMo_findGreatest_191 ?_
                refine XM_icmp_le (tgt := 199) C dMo_findGreatest_192 (by decide) (fun c29 => ?_) (fun c29 => ?_)
                · rw [if_pos c29] at hR
                  refine XM_aload_n C dMo_findGreatest_199 rfl ?_
                  refine XM_get (k := 19) (v := .ref (M.2.1 19)) C rfl fwMo_55 dMo_findGreatest_200 ?_
                  refine XM_iload C dMo_findGreatest_203 rfl ?_
                  obtain ⟨q30, hR⟩ := o_if hR
                  refine XM_iald (k := 19) (n := 4) C rfl (xin_vp q30) dMo_findGreatest_205 ?_
                  obtain ⟨q31, hR⟩ := o_if hR
                  refine XM_iast (k := 19) (n := 4) C rfl (xin_vp q31) dMo_findGreatest_206 ?_
                  obtain ⟨s32, es32, hR⟩ := b_bnd hR
                  rw [← es32]
                  refine XM_iinc (v := x2 + 1) (lv' := [(2, .int (x2 + 1)), (4, .int (s16 13 (Int32.toNatClampNeg (x2)))), (3, .int ((σ 14 (Int32.toNatClampNeg (x2))) >>> (((1 : Int32)) &&& 31))), (0, .ref (M.1)), (1, .int (x1))]) C dMo_findGreatest_207 rfl rfl (by decide) rfl ?_
                  refine XM_goto (tgt := 64) C dMo_findGreatest_210 (by decide) ?_
                  refine XM_sub (lv' := [(0, .ref (M.1)), (1, .int (x1)), (2, .int (x2 + 1))]) [3, 4, 0] rfl ?_
                  exact (ih (x1) (x2 + 1) 0 0 _ _ _).2.2.2.2 hR
                · rw [if_neg c29] at hR
                  refine XM_iload_n C dMo_findGreatest_195 rfl ?_
                  refine XM_goto (tgt := 206) C dMo_findGreatest_196 (by decide) ?_
                  obtain ⟨q33, hR⟩ := o_if hR
                  refine XM_iast (k := 19) (n := 4) C rfl (xin_vp q33) dMo_findGreatest_206 ?_
                  obtain ⟨s34, es34, hR⟩ := b_bnd hR
                  rw [← es34]
                  refine XM_iinc (v := x2 + 1) (lv' := [(2, .int (x2 + 1)), (4, .int (s16 13 (Int32.toNatClampNeg (x2)))), (3, .int ((σ 14 (Int32.toNatClampNeg (x2))) >>> (((1 : Int32)) &&& 31))), (0, .ref (M.1)), (1, .int (x1))]) C dMo_findGreatest_207 rfl rfl (by decide) rfl ?_
                  refine XM_goto (tgt := 64) C dMo_findGreatest_210 (by decide) ?_
                  refine XM_sub (lv' := [(0, .ref (M.1)), (1, .int (x1)), (2, .int (x2 + 1))]) [3, 4, 0] rfl ?_
                  exact (ih (x1) (x2 + 1) 0 0 _ _ _).2.2.2.2 hR
            · rw [if_neg c15] at hR
              refine XM_aload_n C dMo_findGreatest_126 rfl ?_
              refine XM_get (k := 12) (v := .ref (M.2.1 12)) C rfl fwMo_40 dMo_findGreatest_127 ?_
              refine XM_iload_n C dMo_findGreatest_130 rfl ?_
              obtain ⟨q35, hR⟩ := o_if hR
              refine XM_iald (k := 12) (n := 108) C rfl (xin_vp q35) dMo_findGreatest_131 ?_
              refine XM_if_eq (tgt := 144) C dMo_findGreatest_132 (by decide) (fun c36 => ?_) (fun c36 => ?_)
              · rw [if_pos c36] at hR
                refine XM_iconst (v := 1) C dMo_findGreatest_144 rfl ?_
                refine XM_goto (tgt := 149) C dMo_findGreatest_145 (by decide) ?_
                refine XM_put (k := 20) C rfl fwMo_192 rfl rfl rfl dMo_findGreatest_149 ?_
                obtain ⟨s37, es37, hR⟩ := b_bnd hR
                rw [← es37]
                refine XM_aload_n C dMo_findGreatest_152 rfl ?_
                refine XM_get (k := 12) (v := .ref (M.2.1 12)) C rfl fwMo_40 dMo_findGreatest_153 ?_
                refine XM_iload_n C dMo_findGreatest_156 rfl ?_
                obtain ⟨q38, hR⟩ := o_if hR
                refine XM_iald (k := 12) (n := 108) C rfl (xin_vp q38) dMo_findGreatest_157 ?_
                refine XM_if_ne (tgt := 170) C dMo_findGreatest_158 (by decide) (fun c39 => ?_) (fun c39 => ?_)
                · rw [if_neg c39] at hR
                  refine XM_aload_n C dMo_findGreatest_170 rfl ?_
                  refine XM_get (k := 12) (v := .ref (M.2.1 12)) C rfl fwMo_40 dMo_findGreatest_171 ?_
                  refine XM_iload_n C dMo_findGreatest_174 rfl ?_
                  obtain ⟨q40, hR⟩ := o_if hR
                  refine XM_iald (k := 12) (n := 108) C rfl (xin_vp q40) dMo_findGreatest_175 ?_
                  refine XM_istore (lv' := [(4, .int (s37 12 (Int32.toNatClampNeg (x2)))), (3, .int ((σ 14 (Int32.toNatClampNeg (x2))) >>> (((1 : Int32)) &&& 31))), (0, .ref (M.1)), (1, .int (x1)), (2, .int (x2))]) C dMo_findGreatest_176 (by decide) rfl ?_
                  refine XM_aload_n C dMo_findGreatest_178 rfl ?_
                  refine XM_get (k := 19) (v := .ref (M.2.1 19)) C rfl fwMo_55 dMo_findGreatest_179 ?_
                  refine XM_iload C dMo_findGreatest_182 rfl ?_
                  refine XM_iload_n C dMo_findGreatest_184 rfl ?_
                  refine XM_aload_n C dMo_findGreatest_185 rfl ?_
                  refine XM_get (k := 19) (v := .ref (M.2.1 19)) C rfl fwMo_55 dMo_findGreatest_186 ?_
                  refine XM_iload C dMo_findGreatest_189 rfl ?_
                  obtain ⟨q41, hR⟩ := o_if hR
                  refine XM_iald (k := 19) (n := 4) C rfl (xin_vp q41) dMo_findGreatest_191 ?_
                  refine XM_icmp_le (tgt := 199) C dMo_findGreatest_192 (by decide) (fun c42 => ?_) (fun c42 => ?_)
                  · rw [if_pos c42] at hR
                    refine XM_aload_n C dMo_findGreatest_199 rfl ?_
                    refine XM_get (k := 19) (v := .ref (M.2.1 19)) C rfl fwMo_55 dMo_findGreatest_200 ?_
                    refine XM_iload C dMo_findGreatest_203 rfl ?_
                    obtain ⟨q43, hR⟩ := o_if hR
                    refine XM_iald (k := 19) (n := 4) C rfl (xin_vp q43) dMo_findGreatest_205 ?_
                    obtain ⟨q44, hR⟩ := o_if hR
                    refine XM_iast (k := 19) (n := 4) C rfl (xin_vp q44) dMo_findGreatest_206 ?_
                    obtain ⟨s45, es45, hR⟩ := b_bnd hR
                    rw [← es45]
                    refine XM_iinc (v := x2 + 1) (lv' := [(2, .int (x2 + 1)), (4, .int (s37 12 (Int32.toNatClampNeg (x2)))), (3, .int ((σ 14 (Int32.toNatClampNeg (x2))) >>> (((1 : Int32)) &&& 31))), (0, .ref (M.1)), (1, .int (x1))]) C dMo_findGreatest_207 rfl rfl (by decide) rfl ?_
                    refine XM_goto (tgt := 64) C dMo_findGreatest_210 (by decide) ?_
                    refine XM_sub (lv' := [(0, .ref (M.1)), (1, .int (x1)), (2, .int (x2 + 1))]) [3, 4, 0] rfl ?_
                    exact (ih (x1) (x2 + 1) 0 0 _ _ _).2.2.2.2 hR
                  · rw [if_neg c42] at hR
                    refine XM_iload_n C dMo_findGreatest_195 rfl ?_
                    refine XM_goto (tgt := 206) C dMo_findGreatest_196 (by decide) ?_
                    obtain ⟨q46, hR⟩ := o_if hR
                    refine XM_iast (k := 19) (n := 4) C rfl (xin_vp q46) dMo_findGreatest_206 ?_
                    obtain ⟨s47, es47, hR⟩ := b_bnd hR
                    rw [← es47]
                    refine XM_iinc (v := x2 + 1) (lv' := [(2, .int (x2 + 1)), (4, .int (s37 12 (Int32.toNatClampNeg (x2)))), (3, .int ((σ 14 (Int32.toNatClampNeg (x2))) >>> (((1 : Int32)) &&& 31))), (0, .ref (M.1)), (1, .int (x1))]) C dMo_findGreatest_207 rfl rfl (by decide) rfl ?_
                    refine XM_goto (tgt := 64) C dMo_findGreatest_210 (by decide) ?_
                    refine XM_sub (lv' := [(0, .ref (M.1)), (1, .int (x1)), (2, .int (x2 + 1))]) [3, 4, 0] rfl ?_
                    exact (ih (x1) (x2 + 1) 0 0 _ _ _).2.2.2.2 hR
                · rw [if_pos c39] at hR
                  refine XM_aload_n C dMo_findGreatest_161 rfl ?_
                  refine XM_get (k := 13) (v := .ref (M.2.1 13)) C rfl fwMo_43 dMo_findGreatest_162 ?_
                  refine XM_iload_n C dMo_findGreatest_165 rfl ?_
                  obtain ⟨q48, hR⟩ := o_if hR
                  refine XM_iald (k := 13) (n := 108) C rfl (xin_vp q48) dMo_findGreatest_166 ?_
                  refine XM_goto (tgt := 176) C dMo_findGreatest_167 (by decide) ?_
                  refine XM_istore (lv' := [(4, .int (s37 13 (Int32.toNatClampNeg (x2)))), (3, .int ((σ 14 (Int32.toNatClampNeg (x2))) >>> (((1 : Int32)) &&& 31))), (0, .ref (M.1)), (1, .int (x1)), (2, .int (x2))]) C dMo_findGreatest_176 (by decide) rfl ?_
                  refine XM_aload_n C dMo_findGreatest_178 rfl ?_
                  refine XM_get (k := 19) (v := .ref (M.2.1 19)) C rfl fwMo_55 dMo_findGreatest_179 ?_
                  refine XM_iload C dMo_findGreatest_182 rfl ?_
                  refine XM_iload_n C dMo_findGreatest_184 rfl ?_
                  refine XM_aload_n C dMo_findGreatest_185 rfl ?_
                  refine XM_get (k := 19) (v := .ref (M.2.1 19)) C rfl fwMo_55 dMo_findGreatest_186 ?_
                  refine XM_iload C dMo_findGreatest_189 rfl ?_
                  obtain ⟨q49, hR⟩ := o_if hR
                  refine XM_iald (k := 19) (n := 4) C rfl (xin_vp q49) dMo_findGreatest_191 ?_
                  refine XM_icmp_le (tgt := 199) C dMo_findGreatest_192 (by decide) (fun c50 => ?_) (fun c50 => ?_)
                  · rw [if_pos c50] at hR
                    refine XM_aload_n C dMo_findGreatest_199 rfl ?_
                    refine XM_get (k := 19) (v := .ref (M.2.1 19)) C rfl fwMo_55 dMo_findGreatest_200 ?_
                    refine XM_iload C dMo_findGreatest_203 rfl ?_
                    obtain ⟨q51, hR⟩ := o_if hR
                    refine XM_iald (k := 19) (n := 4) C rfl (xin_vp q51) dMo_findGreatest_205 ?_
                    obtain ⟨q52, hR⟩ := o_if hR
                    refine XM_iast (k := 19) (n := 4) C rfl (xin_vp q52) dMo_findGreatest_206 ?_
                    obtain ⟨s53, es53, hR⟩ := b_bnd hR
                    rw [← es53]
                    refine XM_iinc (v := x2 + 1) (lv' := [(2, .int (x2 + 1)), (4, .int (s37 13 (Int32.toNatClampNeg (x2)))), (3, .int ((σ 14 (Int32.toNatClampNeg (x2))) >>> (((1 : Int32)) &&& 31))), (0, .ref (M.1)), (1, .int (x1))]) C dMo_findGreatest_207 rfl rfl (by decide) rfl ?_
                    refine XM_goto (tgt := 64) C dMo_findGreatest_210 (by decide) ?_
                    refine XM_sub (lv' := [(0, .ref (M.1)), (1, .int (x1)), (2, .int (x2 + 1))]) [3, 4, 0] rfl ?_
                    exact (ih (x1) (x2 + 1) 0 0 _ _ _).2.2.2.2 hR
                  · rw [if_neg c50] at hR
                    refine XM_iload_n C dMo_findGreatest_195 rfl ?_
                    refine XM_goto (tgt := 206) C dMo_findGreatest_196 (by decide) ?_
                    obtain ⟨q54, hR⟩ := o_if hR
                    refine XM_iast (k := 19) (n := 4) C rfl (xin_vp q54) dMo_findGreatest_206 ?_
                    obtain ⟨s55, es55, hR⟩ := b_bnd hR
                    rw [← es55]
                    refine XM_iinc (v := x2 + 1) (lv' := [(2, .int (x2 + 1)), (4, .int (s37 13 (Int32.toNatClampNeg (x2)))), (3, .int ((σ 14 (Int32.toNatClampNeg (x2))) >>> (((1 : Int32)) &&& 31))), (0, .ref (M.1)), (1, .int (x1))]) C dMo_findGreatest_207 rfl rfl (by decide) rfl ?_
                    refine XM_goto (tgt := 64) C dMo_findGreatest_210 (by decide) ?_
                    refine XM_sub (lv' := [(0, .ref (M.1)), (1, .int (x1)), (2, .int (x2 + 1))]) [3, 4, 0] rfl ?_
                    exact (ih (x1) (x2 + 1) 0 0 _ _ _).2.2.2.2 hR
              · rw [if_neg c36] at hR
                refine XM_aload_n C dMo_findGreatest_135 rfl ?_
                refine XM_get (k := 13) (v := .ref (M.2.1 13)) C rfl fwMo_43 dMo_findGreatest_136 ?_
                refine XM_iload_n C dMo_findGreatest_139 rfl ?_
                obtain ⟨q56, hR⟩ := o_if hR
                refine XM_iald (k := 13) (n := 108) C rfl (xin_vp q56) dMo_findGreatest_140 ?_
                refine XM_if_ne (tgt := 148) C dMo_findGreatest_141 (by decide) (fun c57 => ?_) (fun c57 => ?_)
                · rw [if_neg c57] at hR
                  refine XM_iconst (v := 0) C dMo_findGreatest_148 rfl ?_
                  refine XM_put (k := 20) C rfl fwMo_192 rfl rfl rfl dMo_findGreatest_149 ?_
                  obtain ⟨s58, es58, hR⟩ := b_bnd hR
                  rw [← es58]
                  refine XM_aload_n C dMo_findGreatest_152 rfl ?_
                  refine XM_get (k := 12) (v := .ref (M.2.1 12)) C rfl fwMo_40 dMo_findGreatest_153 ?_
                  refine XM_iload_n C dMo_findGreatest_156 rfl ?_
                  obtain ⟨q59, hR⟩ := o_if hR
                  refine XM_iald (k := 12) (n := 108) C rfl (xin_vp q59) dMo_findGreatest_157 ?_
                  refine XM_if_ne (tgt := 170) C dMo_findGreatest_158 (by decide) (fun c60 => ?_) (fun c60 => ?_)
                  · rw [if_neg c60] at hR
                    refine XM_aload_n C dMo_findGreatest_170 rfl ?_
                    refine XM_get (k := 12) (v := .ref (M.2.1 12)) C rfl fwMo_40 dMo_findGreatest_171 ?_
                    refine XM_iload_n C dMo_findGreatest_174 rfl ?_
                    obtain ⟨q61, hR⟩ := o_if hR
                    refine XM_iald (k := 12) (n := 108) C rfl (xin_vp q61) dMo_findGreatest_175 ?_
                    refine XM_istore (lv' := [(4, .int (s58 12 (Int32.toNatClampNeg (x2)))), (3, .int ((σ 14 (Int32.toNatClampNeg (x2))) >>> (((1 : Int32)) &&& 31))), (0, .ref (M.1)), (1, .int (x1)), (2, .int (x2))]) C dMo_findGreatest_176 (by decide) rfl ?_
                    refine XM_aload_n C dMo_findGreatest_178 rfl ?_
                    refine XM_get (k := 19) (v := .ref (M.2.1 19)) C rfl fwMo_55 dMo_findGreatest_179 ?_
                    refine XM_iload C dMo_findGreatest_182 rfl ?_
                    refine XM_iload_n C dMo_findGreatest_184 rfl ?_
                    refine XM_aload_n C dMo_findGreatest_185 rfl ?_
                    refine XM_get (k := 19) (v := .ref (M.2.1 19)) C rfl fwMo_55 dMo_findGreatest_186 ?_
                    refine XM_iload C dMo_findGreatest_189 rfl ?_
                    obtain ⟨q62, hR⟩ := o_if hR
                    refine XM_iald (k := 19) (n := 4) C rfl (xin_vp q62) dMo_findGreatest_191 ?_
                    refine XM_icmp_le (tgt := 199) C dMo_findGreatest_192 (by decide) (fun c63 => ?_) (fun c63 => ?_)
                    · rw [if_pos c63] at hR
                      refine XM_aload_n C dMo_findGreatest_199 rfl ?_
                      refine XM_get (k := 19) (v := .ref (M.2.1 19)) C rfl fwMo_55 dMo_findGreatest_200 ?_
                      refine XM_iload C dMo_findGreatest_203 rfl ?_
                      obtain ⟨q64, hR⟩ := o_if hR
                      refine XM_iald (k := 19) (n := 4) C rfl (xin_vp q64) dMo_findGreatest_205 ?_
                      obtain ⟨q65, hR⟩ := o_if hR
                      refine XM_iast (k := 19) (n := 4) C rfl (xin_vp q65) dMo_findGreatest_206 ?_
                      obtain ⟨s66, es66, hR⟩ := b_bnd hR
                      rw [← es66]
                      refine XM_iinc (v := x2 + 1) (lv' := [(2, .int (x2 + 1)), (4, .int (s58 12 (Int32.toNatClampNeg (x2)))), (3, .int ((σ 14 (Int32.toNatClampNeg (x2))) >>> (((1 : Int32)) &&& 31))), (0, .ref (M.1)), (1, .int (x1))]) C dMo_findGreatest_207 rfl rfl (by decide) rfl ?_
                      refine XM_goto (tgt := 64) C dMo_findGreatest_210 (by decide) ?_
                      refine XM_sub (lv' := [(0, .ref (M.1)), (1, .int (x1)), (2, .int (x2 + 1))]) [3, 4, 0] rfl ?_
                      exact (ih (x1) (x2 + 1) 0 0 _ _ _).2.2.2.2 hR
                    · rw [if_neg c63] at hR
                      refine XM_iload_n C dMo_findGreatest_195 rfl ?_
                      refine XM_goto (tgt := 206) C dMo_findGreatest_196 (by decide) ?_
                      obtain ⟨q67, hR⟩ := o_if hR
                      refine XM_iast (k := 19) (n := 4) C rfl (xin_vp q67) dMo_findGreatest_206 ?_
                      obtain ⟨s68, es68, hR⟩ := b_bnd hR
                      rw [← es68]
                      refine XM_iinc (v := x2 + 1) (lv' := [(2, .int (x2 + 1)), (4, .int (s58 12 (Int32.toNatClampNeg (x2)))), (3, .int ((σ 14 (Int32.toNatClampNeg (x2))) >>> (((1 : Int32)) &&& 31))), (0, .ref (M.1)), (1, .int (x1))]) C dMo_findGreatest_207 rfl rfl (by decide) rfl ?_
                      refine XM_goto (tgt := 64) C dMo_findGreatest_210 (by decide) ?_
                      refine XM_sub (lv' := [(0, .ref (M.1)), (1, .int (x1)), (2, .int (x2 + 1))]) [3, 4, 0] rfl ?_
                      exact (ih (x1) (x2 + 1) 0 0 _ _ _).2.2.2.2 hR
                  · rw [if_pos c60] at hR
                    refine XM_aload_n C dMo_findGreatest_161 rfl ?_
                    refine XM_get (k := 13) (v := .ref (M.2.1 13)) C rfl fwMo_43 dMo_findGreatest_162 ?_
                    refine XM_iload_n C dMo_findGreatest_165 rfl ?_
                    obtain ⟨q69, hR⟩ := o_if hR
                    refine XM_iald (k := 13) (n := 108) C rfl (xin_vp q69) dMo_findGreatest_166 ?_
                    refine XM_goto (tgt := 176) C dMo_findGreatest_167 (by decide) ?_
                    refine XM_istore (lv' := [(4, .int (s58 13 (Int32.toNatClampNeg (x2)))), (3, .int ((σ 14 (Int32.toNatClampNeg (x2))) >>> (((1 : Int32)) &&& 31))), (0, .ref (M.1)), (1, .int (x1)), (2, .int (x2))]) C dMo_findGreatest_176 (by decide) rfl ?_
                    refine XM_aload_n C dMo_findGreatest_178 rfl ?_
                    refine XM_get (k := 19) (v := .ref (M.2.1 19)) C rfl fwMo_55 dMo_findGreatest_179 ?_
                    refine XM_iload C dMo_findGreatest_182 rfl ?_
                    refine XM_iload_n C dMo_findGreatest_184 rfl ?_
                    refine XM_aload_n C dMo_findGreatest_185 rfl ?_
                    refine XM_get (k := 19) (v := .ref (M.2.1 19)) C rfl fwMo_55 dMo_findGreatest_186 ?_
                    refine XM_iload C dMo_findGreatest_189 rfl ?_
                    obtain ⟨q70, hR⟩ := o_if hR
                    refine XM_iald (k := 19) (n := 4) C rfl (xin_vp q70) dMo_findGreatest_191 ?_
                    refine XM_icmp_le (tgt := 199) C dMo_findGreatest_192 (by decide) (fun c71 => ?_) (fun c71 => ?_)
                    · rw [if_pos c71] at hR
                      refine XM_aload_n C dMo_findGreatest_199 rfl ?_
                      refine XM_get (k := 19) (v := .ref (M.2.1 19)) C rfl fwMo_55 dMo_findGreatest_200 ?_
                      refine XM_iload C dMo_findGreatest_203 rfl ?_
                      obtain ⟨q72, hR⟩ := o_if hR
                      refine XM_iald (k := 19) (n := 4) C rfl (xin_vp q72) dMo_findGreatest_205 ?_
                      obtain ⟨q73, hR⟩ := o_if hR
                      refine XM_iast (k := 19) (n := 4) C rfl (xin_vp q73) dMo_findGreatest_206 ?_
                      obtain ⟨s74, es74, hR⟩ := b_bnd hR
                      rw [← es74]
                      refine XM_iinc (v := x2 + 1) (lv' := [(2, .int (x2 + 1)), (4, .int (s58 13 (Int32.toNatClampNeg (x2)))), (3, .int ((σ 14 (Int32.toNatClampNeg (x2))) >>> (((1 : Int32)) &&& 31))), (0, .ref (M.1)), (1, .int (x1))]) C dMo_findGreatest_207 rfl rfl (by decide) rfl ?_
                      refine XM_goto (tgt := 64) C dMo_findGreatest_210 (by decide) ?_
                      refine XM_sub (lv' := [(0, .ref (M.1)), (1, .int (x1)), (2, .int (x2 + 1))]) [3, 4, 0] rfl ?_
                      exact (ih (x1) (x2 + 1) 0 0 _ _ _).2.2.2.2 hR
                    · rw [if_neg c71] at hR
                      refine XM_iload_n C dMo_findGreatest_195 rfl ?_
                      refine XM_goto (tgt := 206) C dMo_findGreatest_196 (by decide) ?_
                      obtain ⟨q75, hR⟩ := o_if hR
                      refine XM_iast (k := 19) (n := 4) C rfl (xin_vp q75) dMo_findGreatest_206 ?_
                      obtain ⟨s76, es76, hR⟩ := b_bnd hR
                      rw [← es76]
                      refine XM_iinc (v := x2 + 1) (lv' := [(2, .int (x2 + 1)), (4, .int (s58 13 (Int32.toNatClampNeg (x2)))), (3, .int ((σ 14 (Int32.toNatClampNeg (x2))) >>> (((1 : Int32)) &&& 31))), (0, .ref (M.1)), (1, .int (x1))]) C dMo_findGreatest_207 rfl rfl (by decide) rfl ?_
                      refine XM_goto (tgt := 64) C dMo_findGreatest_210 (by decide) ?_
                      refine XM_sub (lv' := [(0, .ref (M.1)), (1, .int (x1)), (2, .int (x2 + 1))]) [3, 4, 0] rfl ?_
                      exact (ih (x1) (x2 + 1) 0 0 _ _ _).2.2.2.2 hR
                · rw [if_pos c57] at hR
                  refine XM_iconst (v := 1) C dMo_findGreatest_144 rfl ?_
                  refine XM_goto (tgt := 149) C dMo_findGreatest_145 (by decide) ?_
                  refine XM_put (k := 20) C rfl fwMo_192 rfl rfl rfl dMo_findGreatest_149 ?_
                  obtain ⟨s77, es77, hR⟩ := b_bnd hR
                  rw [← es77]
                  refine XM_aload_n C dMo_findGreatest_152 rfl ?_
                  refine XM_get (k := 12) (v := .ref (M.2.1 12)) C rfl fwMo_40 dMo_findGreatest_153 ?_
                  refine XM_iload_n C dMo_findGreatest_156 rfl ?_
                  obtain ⟨q78, hR⟩ := o_if hR
                  refine XM_iald (k := 12) (n := 108) C rfl (xin_vp q78) dMo_findGreatest_157 ?_
                  refine XM_if_ne (tgt := 170) C dMo_findGreatest_158 (by decide) (fun c79 => ?_) (fun c79 => ?_)
                  · rw [if_neg c79] at hR
                    refine XM_aload_n C dMo_findGreatest_170 rfl ?_
                    refine XM_get (k := 12) (v := .ref (M.2.1 12)) C rfl fwMo_40 dMo_findGreatest_171 ?_
                    refine XM_iload_n C dMo_findGreatest_174 rfl ?_
                    obtain ⟨q80, hR⟩ := o_if hR
                    refine XM_iald (k := 12) (n := 108) C rfl (xin_vp q80) dMo_findGreatest_175 ?_
                    refine XM_istore (lv' := [(4, .int (s77 12 (Int32.toNatClampNeg (x2)))), (3, .int ((σ 14 (Int32.toNatClampNeg (x2))) >>> (((1 : Int32)) &&& 31))), (0, .ref (M.1)), (1, .int (x1)), (2, .int (x2))]) C dMo_findGreatest_176 (by decide) rfl ?_
                    refine XM_aload_n C dMo_findGreatest_178 rfl ?_
                    refine XM_get (k := 19) (v := .ref (M.2.1 19)) C rfl fwMo_55 dMo_findGreatest_179 ?_
                    refine XM_iload C dMo_findGreatest_182 rfl ?_
                    refine XM_iload_n C dMo_findGreatest_184 rfl ?_
                    refine XM_aload_n C dMo_findGreatest_185 rfl ?_
                    refine XM_get (k := 19) (v := .ref (M.2.1 19)) C rfl fwMo_55 dMo_findGreatest_186 ?_
                    refine XM_iload C dMo_findGreatest_189 rfl ?_
                    obtain ⟨q81, hR⟩ := o_if hR
                    refine XM_iald (k := 19) (n := 4) C rfl (xin_vp q81) dMo_findGreatest_191 ?_
                    refine XM_icmp_le (tgt := 199) C dMo_findGreatest_192 (by decide) (fun c82 => ?_) (fun c82 => ?_)
                    · rw [if_pos c82] at hR
                      refine XM_aload_n C dMo_findGreatest_199 rfl ?_
                      refine XM_get (k := 19) (v := .ref (M.2.1 19)) C rfl fwMo_55 dMo_findGreatest_200 ?_
                      refine XM_iload C dMo_findGreatest_203 rfl ?_
                      obtain ⟨q83, hR⟩ := o_if hR
                      refine XM_iald (k := 19) (n := 4) C rfl (xin_vp q83) dMo_findGreatest_205 ?_
                      obtain ⟨q84, hR⟩ := o_if hR
                      refine XM_iast (k := 19) (n := 4) C rfl (xin_vp q84) dMo_findGreatest_206 ?_
                      obtain ⟨s85, es85, hR⟩ := b_bnd hR
                      rw [← es85]
                      refine XM_iinc (v := x2 + 1) (lv' := [(2, .int (x2 + 1)), (4, .int (s77 12 (Int32.toNatClampNeg (x2)))), (3, .int ((σ 14 (Int32.toNatClampNeg (x2))) >>> (((1 : Int32)) &&& 31))), (0, .ref (M.1)), (1, .int (x1))]) C dMo_findGreatest_207 rfl rfl (by decide) rfl ?_
                      refine XM_goto (tgt := 64) C dMo_findGreatest_210 (by decide) ?_
                      refine XM_sub (lv' := [(0, .ref (M.1)), (1, .int (x1)), (2, .int (x2 + 1))]) [3, 4, 0] rfl ?_
                      exact (ih (x1) (x2 + 1) 0 0 _ _ _).2.2.2.2 hR
                    · rw [if_neg c82] at hR
                      refine XM_iload_n C dMo_findGreatest_195 rfl ?_
                      refine XM_goto (tgt := 206) C dMo_findGreatest_196 (by decide) ?_
                      obtain ⟨q86, hR⟩ := o_if hR
                      refine XM_iast (k := 19) (n := 4) C rfl (xin_vp q86) dMo_findGreatest_206 ?_
                      obtain ⟨s87, es87, hR⟩ := b_bnd hR
                      rw [← es87]
                      refine XM_iinc (v := x2 + 1) (lv' := [(2, .int (x2 + 1)), (4, .int (s77 12 (Int32.toNatClampNeg (x2)))), (3, .int ((σ 14 (Int32.toNatClampNeg (x2))) >>> (((1 : Int32)) &&& 31))), (0, .ref (M.1)), (1, .int (x1))]) C dMo_findGreatest_207 rfl rfl (by decide) rfl ?_
                      refine XM_goto (tgt := 64) C dMo_findGreatest_210 (by decide) ?_
                      refine XM_sub (lv' := [(0, .ref (M.1)), (1, .int (x1)), (2, .int (x2 + 1))]) [3, 4, 0] rfl ?_
                      exact (ih (x1) (x2 + 1) 0 0 _ _ _).2.2.2.2 hR
                  · rw [if_pos c79] at hR
                    refine XM_aload_n C dMo_findGreatest_161 rfl ?_
                    refine XM_get (k := 13) (v := .ref (M.2.1 13)) C rfl fwMo_43 dMo_findGreatest_162 ?_
                    refine XM_iload_n C dMo_findGreatest_165 rfl ?_
                    obtain ⟨q88, hR⟩ := o_if hR
                    refine XM_iald (k := 13) (n := 108) C rfl (xin_vp q88) dMo_findGreatest_166 ?_
                    refine XM_goto (tgt := 176) C dMo_findGreatest_167 (by decide) ?_
                    refine XM_istore (lv' := [(4, .int (s77 13 (Int32.toNatClampNeg (x2)))), (3, .int ((σ 14 (Int32.toNatClampNeg (x2))) >>> (((1 : Int32)) &&& 31))), (0, .ref (M.1)), (1, .int (x1)), (2, .int (x2))]) C dMo_findGreatest_176 (by decide) rfl ?_
                    refine XM_aload_n C dMo_findGreatest_178 rfl ?_
                    refine XM_get (k := 19) (v := .ref (M.2.1 19)) C rfl fwMo_55 dMo_findGreatest_179 ?_
                    refine XM_iload C dMo_findGreatest_182 rfl ?_
                    refine XM_iload_n C dMo_findGreatest_184 rfl ?_
                    refine XM_aload_n C dMo_findGreatest_185 rfl ?_
                    refine XM_get (k := 19) (v := .ref (M.2.1 19)) C rfl fwMo_55 dMo_findGreatest_186 ?_
                    refine XM_iload C dMo_findGreatest_189 rfl ?_
                    obtain ⟨q89, hR⟩ := o_if hR
                    refine XM_iald (k := 19) (n := 4) C rfl (xin_vp q89) dMo_findGreatest_191 ?_
                    refine XM_icmp_le (tgt := 199) C dMo_findGreatest_192 (by decide) (fun c90 => ?_) (fun c90 => ?_)
                    · rw [if_pos c90] at hR
                      refine XM_aload_n C dMo_findGreatest_199 rfl ?_
                      refine XM_get (k := 19) (v := .ref (M.2.1 19)) C rfl fwMo_55 dMo_findGreatest_200 ?_
                      refine XM_iload C dMo_findGreatest_203 rfl ?_
                      obtain ⟨q91, hR⟩ := o_if hR
                      refine XM_iald (k := 19) (n := 4) C rfl (xin_vp q91) dMo_findGreatest_205 ?_
                      obtain ⟨q92, hR⟩ := o_if hR
                      refine XM_iast (k := 19) (n := 4) C rfl (xin_vp q92) dMo_findGreatest_206 ?_
                      obtain ⟨s93, es93, hR⟩ := b_bnd hR
                      rw [← es93]
                      refine XM_iinc (v := x2 + 1) (lv' := [(2, .int (x2 + 1)), (4, .int (s77 13 (Int32.toNatClampNeg (x2)))), (3, .int ((σ 14 (Int32.toNatClampNeg (x2))) >>> (((1 : Int32)) &&& 31))), (0, .ref (M.1)), (1, .int (x1))]) C dMo_findGreatest_207 rfl rfl (by decide) rfl ?_
                      refine XM_goto (tgt := 64) C dMo_findGreatest_210 (by decide) ?_
                      refine XM_sub (lv' := [(0, .ref (M.1)), (1, .int (x1)), (2, .int (x2 + 1))]) [3, 4, 0] rfl ?_
                      exact (ih (x1) (x2 + 1) 0 0 _ _ _).2.2.2.2 hR
                    · rw [if_neg c90] at hR
                      refine XM_iload_n C dMo_findGreatest_195 rfl ?_
                      refine XM_goto (tgt := 206) C dMo_findGreatest_196 (by decide) ?_
                      obtain ⟨q94, hR⟩ := o_if hR
                      refine XM_iast (k := 19) (n := 4) C rfl (xin_vp q94) dMo_findGreatest_206 ?_
                      obtain ⟨s95, es95, hR⟩ := b_bnd hR
                      rw [← es95]
                      refine XM_iinc (v := x2 + 1) (lv' := [(2, .int (x2 + 1)), (4, .int (s77 13 (Int32.toNatClampNeg (x2)))), (3, .int ((σ 14 (Int32.toNatClampNeg (x2))) >>> (((1 : Int32)) &&& 31))), (0, .ref (M.1)), (1, .int (x1))]) C dMo_findGreatest_207 rfl rfl (by decide) rfl ?_
                      refine XM_goto (tgt := 64) C dMo_findGreatest_210 (by decide) ?_
                      refine XM_sub (lv' := [(0, .ref (M.1)), (1, .int (x1)), (2, .int (x2 + 1))]) [3, 4, 0] rfl ?_
                      exact (ih (x1) (x2 + 1) 0 0 _ _ _).2.2.2.2 hR
          · rw [if_neg c14] at hR
            refine XM_iload_n C dMo_findGreatest_111 rfl ?_
            refine XM_ineg C dMo_findGreatest_112 ?_
            refine XM_goto (tgt := 117) C dMo_findGreatest_113 (by decide) ?_
            refine XM_istore_n (lv' := [(3, .int (-((σ 14 (Int32.toNatClampNeg (x2))) >>> (((1 : Int32)) &&& 31)))), (0, .ref (M.1)), (1, .int (x1)), (2, .int (x2))]) C dMo_findGreatest_117 (by decide) rfl ?_
            refine XM_aload_n C dMo_findGreatest_118 rfl ?_
            refine XM_aload_n C dMo_findGreatest_119 rfl ?_
            refine XM_get (k := 20) (v := .int (σ 20 0)) C rfl fwMo_192 dMo_findGreatest_120 ?_
            refine XM_if_eq (tgt := 148) C dMo_findGreatest_123 (by decide) (fun c96 => ?_) (fun c96 => ?_)
            · rw [if_pos c96] at hR
              refine XM_iconst (v := 0) C dMo_findGreatest_148 rfl ?_
              refine XM_put (k := 20) C rfl fwMo_192 rfl rfl rfl dMo_findGreatest_149 ?_
              obtain ⟨s97, es97, hR⟩ := b_bnd hR
              rw [← es97]
              refine XM_aload_n C dMo_findGreatest_152 rfl ?_
              refine XM_get (k := 12) (v := .ref (M.2.1 12)) C rfl fwMo_40 dMo_findGreatest_153 ?_
              refine XM_iload_n C dMo_findGreatest_156 rfl ?_
              obtain ⟨q98, hR⟩ := o_if hR
              refine XM_iald (k := 12) (n := 108) C rfl (xin_vp q98) dMo_findGreatest_157 ?_
              refine XM_if_ne (tgt := 170) C dMo_findGreatest_158 (by decide) (fun c99 => ?_) (fun c99 => ?_)
              · rw [if_neg c99] at hR
                refine XM_aload_n C dMo_findGreatest_170 rfl ?_
                refine XM_get (k := 12) (v := .ref (M.2.1 12)) C rfl fwMo_40 dMo_findGreatest_171 ?_
                refine XM_iload_n C dMo_findGreatest_174 rfl ?_
                obtain ⟨q100, hR⟩ := o_if hR
                refine XM_iald (k := 12) (n := 108) C rfl (xin_vp q100) dMo_findGreatest_175 ?_
                refine XM_istore (lv' := [(4, .int (s97 12 (Int32.toNatClampNeg (x2)))), (3, .int (-((σ 14 (Int32.toNatClampNeg (x2))) >>> (((1 : Int32)) &&& 31)))), (0, .ref (M.1)), (1, .int (x1)), (2, .int (x2))]) C dMo_findGreatest_176 (by decide) rfl ?_
                refine XM_aload_n C dMo_findGreatest_178 rfl ?_
                refine XM_get (k := 19) (v := .ref (M.2.1 19)) C rfl fwMo_55 dMo_findGreatest_179 ?_
                refine XM_iload C dMo_findGreatest_182 rfl ?_
                refine XM_iload_n C dMo_findGreatest_184 rfl ?_
                refine XM_aload_n C dMo_findGreatest_185 rfl ?_
                refine XM_get (k := 19) (v := .ref (M.2.1 19)) C rfl fwMo_55 dMo_findGreatest_186 ?_
                refine XM_iload C dMo_findGreatest_189 rfl ?_
                obtain ⟨q101, hR⟩ := o_if hR
                refine XM_iald (k := 19) (n := 4) C rfl (xin_vp q101) dMo_findGreatest_191 ?_
                refine XM_icmp_le (tgt := 199) C dMo_findGreatest_192 (by decide) (fun c102 => ?_) (fun c102 => ?_)
                · rw [if_pos c102] at hR
                  refine XM_aload_n C dMo_findGreatest_199 rfl ?_
                  refine XM_get (k := 19) (v := .ref (M.2.1 19)) C rfl fwMo_55 dMo_findGreatest_200 ?_
                  refine XM_iload C dMo_findGreatest_203 rfl ?_
                  obtain ⟨q103, hR⟩ := o_if hR
                  refine XM_iald (k := 19) (n := 4) C rfl (xin_vp q103) dMo_findGreatest_205 ?_
                  obtain ⟨q104, hR⟩ := o_if hR
                  refine XM_iast (k := 19) (n := 4) C rfl (xin_vp q104) dMo_findGreatest_206 ?_
                  obtain ⟨s105, es105, hR⟩ := b_bnd hR
                  rw [← es105]
                  refine XM_iinc (v := x2 + 1) (lv' := [(2, .int (x2 + 1)), (4, .int (s97 12 (Int32.toNatClampNeg (x2)))), (3, .int (-((σ 14 (Int32.toNatClampNeg (x2))) >>> (((1 : Int32)) &&& 31)))), (0, .ref (M.1)), (1, .int (x1))]) C dMo_findGreatest_207 rfl rfl (by decide) rfl ?_
                  refine XM_goto (tgt := 64) C dMo_findGreatest_210 (by decide) ?_
                  refine XM_sub (lv' := [(0, .ref (M.1)), (1, .int (x1)), (2, .int (x2 + 1))]) [3, 4, 0] rfl ?_
                  exact (ih (x1) (x2 + 1) 0 0 _ _ _).2.2.2.2 hR
                · rw [if_neg c102] at hR
                  refine XM_iload_n C dMo_findGreatest_195 rfl ?_
                  refine XM_goto (tgt := 206) C dMo_findGreatest_196 (by decide) ?_
                  obtain ⟨q106, hR⟩ := o_if hR
                  refine XM_iast (k := 19) (n := 4) C rfl (xin_vp q106) dMo_findGreatest_206 ?_
                  obtain ⟨s107, es107, hR⟩ := b_bnd hR
                  rw [← es107]
                  refine XM_iinc (v := x2 + 1) (lv' := [(2, .int (x2 + 1)), (4, .int (s97 12 (Int32.toNatClampNeg (x2)))), (3, .int (-((σ 14 (Int32.toNatClampNeg (x2))) >>> (((1 : Int32)) &&& 31)))), (0, .ref (M.1)), (1, .int (x1))]) C dMo_findGreatest_207 rfl rfl (by decide) rfl ?_
                  refine XM_goto (tgt := 64) C dMo_findGreatest_210 (by decide) ?_
                  refine XM_sub (lv' := [(0, .ref (M.1)), (1, .int (x1)), (2, .int (x2 + 1))]) [3, 4, 0] rfl ?_
                  exact (ih (x1) (x2 + 1) 0 0 _ _ _).2.2.2.2 hR
              · rw [if_pos c99] at hR
                refine XM_aload_n C dMo_findGreatest_161 rfl ?_
                refine XM_get (k := 13) (v := .ref (M.2.1 13)) C rfl fwMo_43 dMo_findGreatest_162 ?_
                refine XM_iload_n C dMo_findGreatest_165 rfl ?_
                obtain ⟨q108, hR⟩ := o_if hR
                refine XM_iald (k := 13) (n := 108) C rfl (xin_vp q108) dMo_findGreatest_166 ?_
                refine XM_goto (tgt := 176) C dMo_findGreatest_167 (by decide) ?_
                refine XM_istore (lv' := [(4, .int (s97 13 (Int32.toNatClampNeg (x2)))), (3, .int (-((σ 14 (Int32.toNatClampNeg (x2))) >>> (((1 : Int32)) &&& 31)))), (0, .ref (M.1)), (1, .int (x1)), (2, .int (x2))]) C dMo_findGreatest_176 (by decide) rfl ?_
                refine XM_aload_n C dMo_findGreatest_178 rfl ?_
                refine XM_get (k := 19) (v := .ref (M.2.1 19)) C rfl fwMo_55 dMo_findGreatest_179 ?_
                refine XM_iload C dMo_findGreatest_182 rfl ?_
                refine XM_iload_n C dMo_findGreatest_184 rfl ?_
                refine XM_aload_n C dMo_findGreatest_185 rfl ?_
                refine XM_get (k := 19) (v := .ref (M.2.1 19)) C rfl fwMo_55 dMo_findGreatest_186 ?_
                refine XM_iload C dMo_findGreatest_189 rfl ?_
                obtain ⟨q109, hR⟩ := o_if hR
                refine XM_iald (k := 19) (n := 4) C rfl (xin_vp q109) dMo_findGreatest_191 ?_
                refine XM_icmp_le (tgt := 199) C dMo_findGreatest_192 (by decide) (fun c110 => ?_) (fun c110 => ?_)
                · rw [if_pos c110] at hR
                  refine XM_aload_n C dMo_findGreatest_199 rfl ?_
                  refine XM_get (k := 19) (v := .ref (M.2.1 19)) C rfl fwMo_55 dMo_findGreatest_200 ?_
                  refine XM_iload C dMo_findGreatest_203 rfl ?_
                  obtain ⟨q111, hR⟩ := o_if hR
                  refine XM_iald (k := 19) (n := 4) C rfl (xin_vp q111) dMo_findGreatest_205 ?_
                  obtain ⟨q112, hR⟩ := o_if hR
                  refine XM_iast (k := 19) (n := 4) C rfl (xin_vp q112) dMo_findGreatest_206 ?_
                  obtain ⟨s113, es113, hR⟩ := b_bnd hR
                  rw [← es113]
                  refine XM_iinc (v := x2 + 1) (lv' := [(2, .int (x2 + 1)), (4, .int (s97 13 (Int32.toNatClampNeg (x2)))), (3, .int (-((σ 14 (Int32.toNatClampNeg (x2))) >>> (((1 : Int32)) &&& 31)))), (0, .ref (M.1)), (1, .int (x1))]) C dMo_findGreatest_207 rfl rfl (by decide) rfl ?_
                  refine XM_goto (tgt := 64) C dMo_findGreatest_210 (by decide) ?_
                  refine XM_sub (lv' := [(0, .ref (M.1)), (1, .int (x1)), (2, .int (x2 + 1))]) [3, 4, 0] rfl ?_
                  exact (ih (x1) (x2 + 1) 0 0 _ _ _).2.2.2.2 hR
                · rw [if_neg c110] at hR
                  refine XM_iload_n C dMo_findGreatest_195 rfl ?_
                  refine XM_goto (tgt := 206) C dMo_findGreatest_196 (by decide) ?_
                  obtain ⟨q114, hR⟩ := o_if hR
                  refine XM_iast (k := 19) (n := 4) C rfl (xin_vp q114) dMo_findGreatest_206 ?_
                  obtain ⟨s115, es115, hR⟩ := b_bnd hR
                  rw [← es115]
                  refine XM_iinc (v := x2 + 1) (lv' := [(2, .int (x2 + 1)), (4, .int (s97 13 (Int32.toNatClampNeg (x2)))), (3, .int (-((σ 14 (Int32.toNatClampNeg (x2))) >>> (((1 : Int32)) &&& 31)))), (0, .ref (M.1)), (1, .int (x1))]) C dMo_findGreatest_207 rfl rfl (by decide) rfl ?_
                  refine XM_goto (tgt := 64) C dMo_findGreatest_210 (by decide) ?_
                  refine XM_sub (lv' := [(0, .ref (M.1)), (1, .int (x1)), (2, .int (x2 + 1))]) [3, 4, 0] rfl ?_
                  exact (ih (x1) (x2 + 1) 0 0 _ _ _).2.2.2.2 hR
            · rw [if_neg c96] at hR
              refine XM_aload_n C dMo_findGreatest_126 rfl ?_
              refine XM_get (k := 12) (v := .ref (M.2.1 12)) C rfl fwMo_40 dMo_findGreatest_127 ?_
              refine XM_iload_n C dMo_findGreatest_130 rfl ?_
              obtain ⟨q116, hR⟩ := o_if hR
              refine XM_iald (k := 12) (n := 108) C rfl (xin_vp q116) dMo_findGreatest_131 ?_
              refine XM_if_eq (tgt := 144) C dMo_findGreatest_132 (by decide) (fun c117 => ?_) (fun c117 => ?_)
              · rw [if_pos c117] at hR
                refine XM_iconst (v := 1) C dMo_findGreatest_144 rfl ?_
                refine XM_goto (tgt := 149) C dMo_findGreatest_145 (by decide) ?_
                refine XM_put (k := 20) C rfl fwMo_192 rfl rfl rfl dMo_findGreatest_149 ?_
                obtain ⟨s118, es118, hR⟩ := b_bnd hR
                rw [← es118]
                refine XM_aload_n C dMo_findGreatest_152 rfl ?_
                refine XM_get (k := 12) (v := .ref (M.2.1 12)) C rfl fwMo_40 dMo_findGreatest_153 ?_
                refine XM_iload_n C dMo_findGreatest_156 rfl ?_
                obtain ⟨q119, hR⟩ := o_if hR
                refine XM_iald (k := 12) (n := 108) C rfl (xin_vp q119) dMo_findGreatest_157 ?_
                refine XM_if_ne (tgt := 170) C dMo_findGreatest_158 (by decide) (fun c120 => ?_) (fun c120 => ?_)
                · rw [if_neg c120] at hR
                  refine XM_aload_n C dMo_findGreatest_170 rfl ?_
                  refine XM_get (k := 12) (v := .ref (M.2.1 12)) C rfl fwMo_40 dMo_findGreatest_171 ?_
                  refine XM_iload_n C dMo_findGreatest_174 rfl ?_
                  obtain ⟨q121, hR⟩ := o_if hR
                  refine XM_iald (k := 12) (n := 108) C rfl (xin_vp q121) dMo_findGreatest_175 ?_
                  refine XM_istore (lv' := [(4, .int (s118 12 (Int32.toNatClampNeg (x2)))), (3, .int (-((σ 14 (Int32.toNatClampNeg (x2))) >>> (((1 : Int32)) &&& 31)))), (0, .ref (M.1)), (1, .int (x1)), (2, .int (x2))]) C dMo_findGreatest_176 (by decide) rfl ?_
                  refine XM_aload_n C dMo_findGreatest_178 rfl ?_
                  refine XM_get (k := 19) (v := .ref (M.2.1 19)) C rfl fwMo_55 dMo_findGreatest_179 ?_
                  refine XM_iload C dMo_findGreatest_182 rfl ?_
                  refine XM_iload_n C dMo_findGreatest_184 rfl ?_
                  refine XM_aload_n C dMo_findGreatest_185 rfl ?_
                  refine XM_get (k := 19) (v := .ref (M.2.1 19)) C rfl fwMo_55 dMo_findGreatest_186 ?_
                  refine XM_iload C dMo_findGreatest_189 rfl ?_
                  obtain ⟨q122, hR⟩ := o_if hR
                  refine XM_iald (k := 19) (n := 4) C rfl (xin_vp q122) dMo_findGreatest_191 ?_
                  refine XM_icmp_le (tgt := 199) C dMo_findGreatest_192 (by decide) (fun c123 => ?_) (fun c123 => ?_)
                  · rw [if_pos c123] at hR
                    refine XM_aload_n C dMo_findGreatest_199 rfl ?_
                    refine XM_get (k := 19) (v := .ref (M.2.1 19)) C rfl fwMo_55 dMo_findGreatest_200 ?_
                    refine XM_iload C dMo_findGreatest_203 rfl ?_
                    obtain ⟨q124, hR⟩ := o_if hR
                    refine XM_iald (k := 19) (n := 4) C rfl (xin_vp q124) dMo_findGreatest_205 ?_
                    obtain ⟨q125, hR⟩ := o_if hR
                    refine XM_iast (k := 19) (n := 4) C rfl (xin_vp q125) dMo_findGreatest_206 ?_
                    obtain ⟨s126, es126, hR⟩ := b_bnd hR
                    rw [← es126]
                    refine XM_iinc (v := x2 + 1) (lv' := [(2, .int (x2 + 1)), (4, .int (s118 12 (Int32.toNatClampNeg (x2)))), (3, .int (-((σ 14 (Int32.toNatClampNeg (x2))) >>> (((1 : Int32)) &&& 31)))), (0, .ref (M.1)), (1, .int (x1))]) C dMo_findGreatest_207 rfl rfl (by decide) rfl ?_
                    refine XM_goto (tgt := 64) C dMo_findGreatest_210 (by decide) ?_
                    refine XM_sub (lv' := [(0, .ref (M.1)), (1, .int (x1)), (2, .int (x2 + 1))]) [3, 4, 0] rfl ?_
                    exact (ih (x1) (x2 + 1) 0 0 _ _ _).2.2.2.2 hR
                  · rw [if_neg c123] at hR
                    refine XM_iload_n C dMo_findGreatest_195 rfl ?_
                    refine XM_goto (tgt := 206) C dMo_findGreatest_196 (by decide) ?_
                    obtain ⟨q127, hR⟩ := o_if hR
                    refine XM_iast (k := 19) (n := 4) C rfl (xin_vp q127) dMo_findGreatest_206 ?_
                    obtain ⟨s128, es128, hR⟩ := b_bnd hR
                    rw [← es128]
                    refine XM_iinc (v := x2 + 1) (lv' := [(2, .int (x2 + 1)), (4, .int (s118 12 (Int32.toNatClampNeg (x2)))), (3, .int (-((σ 14 (Int32.toNatClampNeg (x2))) >>> (((1 : Int32)) &&& 31)))), (0, .ref (M.1)), (1, .int (x1))]) C dMo_findGreatest_207 rfl rfl (by decide) rfl ?_
                    refine XM_goto (tgt := 64) C dMo_findGreatest_210 (by decide) ?_
                    refine XM_sub (lv' := [(0, .ref (M.1)), (1, .int (x1)), (2, .int (x2 + 1))]) [3, 4, 0] rfl ?_
                    exact (ih (x1) (x2 + 1) 0 0 _ _ _).2.2.2.2 hR
                · rw [if_pos c120] at hR
                  refine XM_aload_n C dMo_findGreatest_161 rfl ?_
                  refine XM_get (k := 13) (v := .ref (M.2.1 13)) C rfl fwMo_43 dMo_findGreatest_162 ?_
                  refine XM_iload_n C dMo_findGreatest_165 rfl ?_
                  obtain ⟨q129, hR⟩ := o_if hR
                  refine XM_iald (k := 13) (n := 108) C rfl (xin_vp q129) dMo_findGreatest_166 ?_
                  refine XM_goto (tgt := 176) C dMo_findGreatest_167 (by decide) ?_
                  refine XM_istore (lv' := [(4, .int (s118 13 (Int32.toNatClampNeg (x2)))), (3, .int (-((σ 14 (Int32.toNatClampNeg (x2))) >>> (((1 : Int32)) &&& 31)))), (0, .ref (M.1)), (1, .int (x1)), (2, .int (x2))]) C dMo_findGreatest_176 (by decide) rfl ?_
                  refine XM_aload_n C dMo_findGreatest_178 rfl ?_
                  refine XM_get (k := 19) (v := .ref (M.2.1 19)) C rfl fwMo_55 dMo_findGreatest_179 ?_
                  refine XM_iload C dMo_findGreatest_182 rfl ?_
                  refine XM_iload_n C dMo_findGreatest_184 rfl ?_
                  refine XM_aload_n C dMo_findGreatest_185 rfl ?_
                  refine XM_get (k := 19) (v := .ref (M.2.1 19)) C rfl fwMo_55 dMo_findGreatest_186 ?_
                  refine XM_iload C dMo_findGreatest_189 rfl ?_
                  obtain ⟨q130, hR⟩ := o_if hR
                  refine XM_iald (k := 19) (n := 4) C rfl (xin_vp q130) dMo_findGreatest_191 ?_
                  refine XM_icmp_le (tgt := 199) C dMo_findGreatest_192 (by decide) (fun c131 => ?_) (fun c131 => ?_)
                  · rw [if_pos c131] at hR
                    refine XM_aload_n C dMo_findGreatest_199 rfl ?_
                    refine XM_get (k := 19) (v := .ref (M.2.1 19)) C rfl fwMo_55 dMo_findGreatest_200 ?_
                    refine XM_iload C dMo_findGreatest_203 rfl ?_
                    obtain ⟨q132, hR⟩ := o_if hR
                    refine XM_iald (k := 19) (n := 4) C rfl (xin_vp q132) dMo_findGreatest_205 ?_
                    obtain ⟨q133, hR⟩ := o_if hR
                    refine XM_iast (k := 19) (n := 4) C rfl (xin_vp q133) dMo_findGreatest_206 ?_
                    obtain ⟨s134, es134, hR⟩ := b_bnd hR
                    rw [← es134]
                    refine XM_iinc (v := x2 + 1) (lv' := [(2, .int (x2 + 1)), (4, .int (s118 13 (Int32.toNatClampNeg (x2)))), (3, .int (-((σ 14 (Int32.toNatClampNeg (x2))) >>> (((1 : Int32)) &&& 31)))), (0, .ref (M.1)), (1, .int (x1))]) C dMo_findGreatest_207 rfl rfl (by decide) rfl ?_
                    refine XM_goto (tgt := 64) C dMo_findGreatest_210 (by decide) ?_
                    refine XM_sub (lv' := [(0, .ref (M.1)), (1, .int (x1)), (2, .int (x2 + 1))]) [3, 4, 0] rfl ?_
                    exact (ih (x1) (x2 + 1) 0 0 _ _ _).2.2.2.2 hR
                  · rw [if_neg c131] at hR
                    refine XM_iload_n C dMo_findGreatest_195 rfl ?_
                    refine XM_goto (tgt := 206) C dMo_findGreatest_196 (by decide) ?_
                    obtain ⟨q135, hR⟩ := o_if hR
                    refine XM_iast (k := 19) (n := 4) C rfl (xin_vp q135) dMo_findGreatest_206 ?_
                    obtain ⟨s136, es136, hR⟩ := b_bnd hR
                    rw [← es136]
                    refine XM_iinc (v := x2 + 1) (lv' := [(2, .int (x2 + 1)), (4, .int (s118 13 (Int32.toNatClampNeg (x2)))), (3, .int (-((σ 14 (Int32.toNatClampNeg (x2))) >>> (((1 : Int32)) &&& 31)))), (0, .ref (M.1)), (1, .int (x1))]) C dMo_findGreatest_207 rfl rfl (by decide) rfl ?_
                    refine XM_goto (tgt := 64) C dMo_findGreatest_210 (by decide) ?_
                    refine XM_sub (lv' := [(0, .ref (M.1)), (1, .int (x1)), (2, .int (x2 + 1))]) [3, 4, 0] rfl ?_
                    exact (ih (x1) (x2 + 1) 0 0 _ _ _).2.2.2.2 hR
              · rw [if_neg c117] at hR
                refine XM_aload_n C dMo_findGreatest_135 rfl ?_
                refine XM_get (k := 13) (v := .ref (M.2.1 13)) C rfl fwMo_43 dMo_findGreatest_136 ?_
                refine XM_iload_n C dMo_findGreatest_139 rfl ?_
                obtain ⟨q137, hR⟩ := o_if hR
                refine XM_iald (k := 13) (n := 108) C rfl (xin_vp q137) dMo_findGreatest_140 ?_
                refine XM_if_ne (tgt := 148) C dMo_findGreatest_141 (by decide) (fun c138 => ?_) (fun c138 => ?_)
                · rw [if_neg c138] at hR
                  refine XM_iconst (v := 0) C dMo_findGreatest_148 rfl ?_
                  refine XM_put (k := 20) C rfl fwMo_192 rfl rfl rfl dMo_findGreatest_149 ?_
                  obtain ⟨s139, es139, hR⟩ := b_bnd hR
                  rw [← es139]
                  refine XM_aload_n C dMo_findGreatest_152 rfl ?_
                  refine XM_get (k := 12) (v := .ref (M.2.1 12)) C rfl fwMo_40 dMo_findGreatest_153 ?_
                  refine XM_iload_n C dMo_findGreatest_156 rfl ?_
                  obtain ⟨q140, hR⟩ := o_if hR
                  refine XM_iald (k := 12) (n := 108) C rfl (xin_vp q140) dMo_findGreatest_157 ?_
                  refine XM_if_ne (tgt := 170) C dMo_findGreatest_158 (by decide) (fun c141 => ?_) (fun c141 => ?_)
                  · rw [if_neg c141] at hR
                    refine XM_aload_n C dMo_findGreatest_170 rfl ?_
                    refine XM_get (k := 12) (v := .ref (M.2.1 12)) C rfl fwMo_40 dMo_findGreatest_171 ?_
                    refine XM_iload_n C dMo_findGreatest_174 rfl ?_
                    obtain ⟨q142, hR⟩ := o_if hR
                    refine XM_iald (k := 12) (n := 108) C rfl (xin_vp q142) dMo_findGreatest_175 ?_
                    refine XM_istore (lv' := [(4, .int (s139 12 (Int32.toNatClampNeg (x2)))), (3, .int (-((σ 14 (Int32.toNatClampNeg (x2))) >>> (((1 : Int32)) &&& 31)))), (0, .ref (M.1)), (1, .int (x1)), (2, .int (x2))]) C dMo_findGreatest_176 (by decide) rfl ?_
                    refine XM_aload_n C dMo_findGreatest_178 rfl ?_
                    refine XM_get (k := 19) (v := .ref (M.2.1 19)) C rfl fwMo_55 dMo_findGreatest_179 ?_
                    refine XM_iload C dMo_findGreatest_182 rfl ?_
                    refine XM_iload_n C dMo_findGreatest_184 rfl ?_
                    refine XM_aload_n C dMo_findGreatest_185 rfl ?_
                    refine XM_get (k := 19) (v := .ref (M.2.1 19)) C rfl fwMo_55 dMo_findGreatest_186 ?_
                    refine XM_iload C dMo_findGreatest_189 rfl ?_
                    obtain ⟨q143, hR⟩ := o_if hR
                    refine XM_iald (k := 19) (n := 4) C rfl (xin_vp q143) dMo_findGreatest_191 ?_
                    refine XM_icmp_le (tgt := 199) C dMo_findGreatest_192 (by decide) (fun c144 => ?_) (fun c144 => ?_)
                    · rw [if_pos c144] at hR
                      refine XM_aload_n C dMo_findGreatest_199 rfl ?_
                      refine XM_get (k := 19) (v := .ref (M.2.1 19)) C rfl fwMo_55 dMo_findGreatest_200 ?_
                      refine XM_iload C dMo_findGreatest_203 rfl ?_
                      obtain ⟨q145, hR⟩ := o_if hR
                      refine XM_iald (k := 19) (n := 4) C rfl (xin_vp q145) dMo_findGreatest_205 ?_
                      obtain ⟨q146, hR⟩ := o_if hR
                      refine XM_iast (k := 19) (n := 4) C rfl (xin_vp q146) dMo_findGreatest_206 ?_
                      obtain ⟨s147, es147, hR⟩ := b_bnd hR
                      rw [← es147]
                      refine XM_iinc (v := x2 + 1) (lv' := [(2, .int (x2 + 1)), (4, .int (s139 12 (Int32.toNatClampNeg (x2)))), (3, .int (-((σ 14 (Int32.toNatClampNeg (x2))) >>> (((1 : Int32)) &&& 31)))), (0, .ref (M.1)), (1, .int (x1))]) C dMo_findGreatest_207 rfl rfl (by decide) rfl ?_
                      refine XM_goto (tgt := 64) C dMo_findGreatest_210 (by decide) ?_
                      refine XM_sub (lv' := [(0, .ref (M.1)), (1, .int (x1)), (2, .int (x2 + 1))]) [3, 4, 0] rfl ?_
                      exact (ih (x1) (x2 + 1) 0 0 _ _ _).2.2.2.2 hR
                    · rw [if_neg c144] at hR
                      refine XM_iload_n C dMo_findGreatest_195 rfl ?_
                      refine XM_goto (tgt := 206) C dMo_findGreatest_196 (by decide) ?_
                      obtain ⟨q148, hR⟩ := o_if hR
                      refine XM_iast (k := 19) (n := 4) C rfl (xin_vp q148) dMo_findGreatest_206 ?_
                      obtain ⟨s149, es149, hR⟩ := b_bnd hR
                      rw [← es149]
                      refine XM_iinc (v := x2 + 1) (lv' := [(2, .int (x2 + 1)), (4, .int (s139 12 (Int32.toNatClampNeg (x2)))), (3, .int (-((σ 14 (Int32.toNatClampNeg (x2))) >>> (((1 : Int32)) &&& 31)))), (0, .ref (M.1)), (1, .int (x1))]) C dMo_findGreatest_207 rfl rfl (by decide) rfl ?_
                      refine XM_goto (tgt := 64) C dMo_findGreatest_210 (by decide) ?_
                      refine XM_sub (lv' := [(0, .ref (M.1)), (1, .int (x1)), (2, .int (x2 + 1))]) [3, 4, 0] rfl ?_
                      exact (ih (x1) (x2 + 1) 0 0 _ _ _).2.2.2.2 hR
                  · rw [if_pos c141] at hR
                    refine XM_aload_n C dMo_findGreatest_161 rfl ?_
                    refine XM_get (k := 13) (v := .ref (M.2.1 13)) C rfl fwMo_43 dMo_findGreatest_162 ?_
                    refine XM_iload_n C dMo_findGreatest_165 rfl ?_
                    obtain ⟨q150, hR⟩ := o_if hR
                    refine XM_iald (k := 13) (n := 108) C rfl (xin_vp q150) dMo_findGreatest_166 ?_
                    refine XM_goto (tgt := 176) C dMo_findGreatest_167 (by decide) ?_
                    refine XM_istore (lv' := [(4, .int (s139 13 (Int32.toNatClampNeg (x2)))), (3, .int (-((σ 14 (Int32.toNatClampNeg (x2))) >>> (((1 : Int32)) &&& 31)))), (0, .ref (M.1)), (1, .int (x1)), (2, .int (x2))]) C dMo_findGreatest_176 (by decide) rfl ?_
                    refine XM_aload_n C dMo_findGreatest_178 rfl ?_
                    refine XM_get (k := 19) (v := .ref (M.2.1 19)) C rfl fwMo_55 dMo_findGreatest_179 ?_
                    refine XM_iload C dMo_findGreatest_182 rfl ?_
                    refine XM_iload_n C dMo_findGreatest_184 rfl ?_
                    refine XM_aload_n C dMo_findGreatest_185 rfl ?_
                    refine XM_get (k := 19) (v := .ref (M.2.1 19)) C rfl fwMo_55 dMo_findGreatest_186 ?_
                    refine XM_iload C dMo_findGreatest_189 rfl ?_
                    obtain ⟨q151, hR⟩ := o_if hR
                    refine XM_iald (k := 19) (n := 4) C rfl (xin_vp q151) dMo_findGreatest_191 ?_
                    refine XM_icmp_le (tgt := 199) C dMo_findGreatest_192 (by decide) (fun c152 => ?_) (fun c152 => ?_)
                    · rw [if_pos c152] at hR
                      refine XM_aload_n C dMo_findGreatest_199 rfl ?_
                      refine XM_get (k := 19) (v := .ref (M.2.1 19)) C rfl fwMo_55 dMo_findGreatest_200 ?_
                      refine XM_iload C dMo_findGreatest_203 rfl ?_
                      obtain ⟨q153, hR⟩ := o_if hR
                      refine XM_iald (k := 19) (n := 4) C rfl (xin_vp q153) dMo_findGreatest_205 ?_
                      obtain ⟨q154, hR⟩ := o_if hR
                      refine XM_iast (k := 19) (n := 4) C rfl (xin_vp q154) dMo_findGreatest_206 ?_
                      obtain ⟨s155, es155, hR⟩ := b_bnd hR
                      rw [← es155]
                      refine XM_iinc (v := x2 + 1) (lv' := [(2, .int (x2 + 1)), (4, .int (s139 13 (Int32.toNatClampNeg (x2)))), (3, .int (-((σ 14 (Int32.toNatClampNeg (x2))) >>> (((1 : Int32)) &&& 31)))), (0, .ref (M.1)), (1, .int (x1))]) C dMo_findGreatest_207 rfl rfl (by decide) rfl ?_
                      refine XM_goto (tgt := 64) C dMo_findGreatest_210 (by decide) ?_
                      refine XM_sub (lv' := [(0, .ref (M.1)), (1, .int (x1)), (2, .int (x2 + 1))]) [3, 4, 0] rfl ?_
                      exact (ih (x1) (x2 + 1) 0 0 _ _ _).2.2.2.2 hR
                    · rw [if_neg c152] at hR
                      refine XM_iload_n C dMo_findGreatest_195 rfl ?_
                      refine XM_goto (tgt := 206) C dMo_findGreatest_196 (by decide) ?_
                      obtain ⟨q156, hR⟩ := o_if hR
                      refine XM_iast (k := 19) (n := 4) C rfl (xin_vp q156) dMo_findGreatest_206 ?_
                      obtain ⟨s157, es157, hR⟩ := b_bnd hR
                      rw [← es157]
                      refine XM_iinc (v := x2 + 1) (lv' := [(2, .int (x2 + 1)), (4, .int (s139 13 (Int32.toNatClampNeg (x2)))), (3, .int (-((σ 14 (Int32.toNatClampNeg (x2))) >>> (((1 : Int32)) &&& 31)))), (0, .ref (M.1)), (1, .int (x1))]) C dMo_findGreatest_207 rfl rfl (by decide) rfl ?_
                      refine XM_goto (tgt := 64) C dMo_findGreatest_210 (by decide) ?_
                      refine XM_sub (lv' := [(0, .ref (M.1)), (1, .int (x1)), (2, .int (x2 + 1))]) [3, 4, 0] rfl ?_
                      exact (ih (x1) (x2 + 1) 0 0 _ _ _).2.2.2.2 hR
                · rw [if_pos c138] at hR
                  refine XM_iconst (v := 1) C dMo_findGreatest_144 rfl ?_
                  refine XM_goto (tgt := 149) C dMo_findGreatest_145 (by decide) ?_
                  refine XM_put (k := 20) C rfl fwMo_192 rfl rfl rfl dMo_findGreatest_149 ?_
                  obtain ⟨s158, es158, hR⟩ := b_bnd hR
                  rw [← es158]
                  refine XM_aload_n C dMo_findGreatest_152 rfl ?_
                  refine XM_get (k := 12) (v := .ref (M.2.1 12)) C rfl fwMo_40 dMo_findGreatest_153 ?_
                  refine XM_iload_n C dMo_findGreatest_156 rfl ?_
                  obtain ⟨q159, hR⟩ := o_if hR
                  refine XM_iald (k := 12) (n := 108) C rfl (xin_vp q159) dMo_findGreatest_157 ?_
                  refine XM_if_ne (tgt := 170) C dMo_findGreatest_158 (by decide) (fun c160 => ?_) (fun c160 => ?_)
                  · rw [if_neg c160] at hR
                    refine XM_aload_n C dMo_findGreatest_170 rfl ?_
                    refine XM_get (k := 12) (v := .ref (M.2.1 12)) C rfl fwMo_40 dMo_findGreatest_171 ?_
                    refine XM_iload_n C dMo_findGreatest_174 rfl ?_
                    obtain ⟨q161, hR⟩ := o_if hR
                    refine XM_iald (k := 12) (n := 108) C rfl (xin_vp q161) dMo_findGreatest_175 ?_
                    refine XM_istore (lv' := [(4, .int (s158 12 (Int32.toNatClampNeg (x2)))), (3, .int (-((σ 14 (Int32.toNatClampNeg (x2))) >>> (((1 : Int32)) &&& 31)))), (0, .ref (M.1)), (1, .int (x1)), (2, .int (x2))]) C dMo_findGreatest_176 (by decide) rfl ?_
                    refine XM_aload_n C dMo_findGreatest_178 rfl ?_
                    refine XM_get (k := 19) (v := .ref (M.2.1 19)) C rfl fwMo_55 dMo_findGreatest_179 ?_
                    refine XM_iload C dMo_findGreatest_182 rfl ?_
                    refine XM_iload_n C dMo_findGreatest_184 rfl ?_
                    refine XM_aload_n C dMo_findGreatest_185 rfl ?_
                    refine XM_get (k := 19) (v := .ref (M.2.1 19)) C rfl fwMo_55 dMo_findGreatest_186 ?_
                    refine XM_iload C dMo_findGreatest_189 rfl ?_
                    obtain ⟨q162, hR⟩ := o_if hR
                    refine XM_iald (k := 19) (n := 4) C rfl (xin_vp q162) dMo_findGreatest_191 ?_
                    refine XM_icmp_le (tgt := 199) C dMo_findGreatest_192 (by decide) (fun c163 => ?_) (fun c163 => ?_)
                    · rw [if_pos c163] at hR
                      refine XM_aload_n C dMo_findGreatest_199 rfl ?_
                      refine XM_get (k := 19) (v := .ref (M.2.1 19)) C rfl fwMo_55 dMo_findGreatest_200 ?_
                      refine XM_iload C dMo_findGreatest_203 rfl ?_
                      obtain ⟨q164, hR⟩ := o_if hR
                      refine XM_iald (k := 19) (n := 4) C rfl (xin_vp q164) dMo_findGreatest_205 ?_
                      obtain ⟨q165, hR⟩ := o_if hR
                      refine XM_iast (k := 19) (n := 4) C rfl (xin_vp q165) dMo_findGreatest_206 ?_
                      obtain ⟨s166, es166, hR⟩ := b_bnd hR
                      rw [← es166]
                      refine XM_iinc (v := x2 + 1) (lv' := [(2, .int (x2 + 1)), (4, .int (s158 12 (Int32.toNatClampNeg (x2)))), (3, .int (-((σ 14 (Int32.toNatClampNeg (x2))) >>> (((1 : Int32)) &&& 31)))), (0, .ref (M.1)), (1, .int (x1))]) C dMo_findGreatest_207 rfl rfl (by decide) rfl ?_
                      refine XM_goto (tgt := 64) C dMo_findGreatest_210 (by decide) ?_
                      refine XM_sub (lv' := [(0, .ref (M.1)), (1, .int (x1)), (2, .int (x2 + 1))]) [3, 4, 0] rfl ?_
                      exact (ih (x1) (x2 + 1) 0 0 _ _ _).2.2.2.2 hR
                    · rw [if_neg c163] at hR
                      refine XM_iload_n C dMo_findGreatest_195 rfl ?_
                      refine XM_goto (tgt := 206) C dMo_findGreatest_196 (by decide) ?_
                      obtain ⟨q167, hR⟩ := o_if hR
                      refine XM_iast (k := 19) (n := 4) C rfl (xin_vp q167) dMo_findGreatest_206 ?_
                      obtain ⟨s168, es168, hR⟩ := b_bnd hR
                      rw [← es168]
                      refine XM_iinc (v := x2 + 1) (lv' := [(2, .int (x2 + 1)), (4, .int (s158 12 (Int32.toNatClampNeg (x2)))), (3, .int (-((σ 14 (Int32.toNatClampNeg (x2))) >>> (((1 : Int32)) &&& 31)))), (0, .ref (M.1)), (1, .int (x1))]) C dMo_findGreatest_207 rfl rfl (by decide) rfl ?_
                      refine XM_goto (tgt := 64) C dMo_findGreatest_210 (by decide) ?_
                      refine XM_sub (lv' := [(0, .ref (M.1)), (1, .int (x1)), (2, .int (x2 + 1))]) [3, 4, 0] rfl ?_
                      exact (ih (x1) (x2 + 1) 0 0 _ _ _).2.2.2.2 hR
                  · rw [if_pos c160] at hR
                    refine XM_aload_n C dMo_findGreatest_161 rfl ?_
                    refine XM_get (k := 13) (v := .ref (M.2.1 13)) C rfl fwMo_43 dMo_findGreatest_162 ?_
                    refine XM_iload_n C dMo_findGreatest_165 rfl ?_
                    obtain ⟨q169, hR⟩ := o_if hR
                    refine XM_iald (k := 13) (n := 108) C rfl (xin_vp q169) dMo_findGreatest_166 ?_
                    refine XM_goto (tgt := 176) C dMo_findGreatest_167 (by decide) ?_
                    refine XM_istore (lv' := [(4, .int (s158 13 (Int32.toNatClampNeg (x2)))), (3, .int (-((σ 14 (Int32.toNatClampNeg (x2))) >>> (((1 : Int32)) &&& 31)))), (0, .ref (M.1)), (1, .int (x1)), (2, .int (x2))]) C dMo_findGreatest_176 (by decide) rfl ?_
                    refine XM_aload_n C dMo_findGreatest_178 rfl ?_
                    refine XM_get (k := 19) (v := .ref (M.2.1 19)) C rfl fwMo_55 dMo_findGreatest_179 ?_
                    refine XM_iload C dMo_findGreatest_182 rfl ?_
                    refine XM_iload_n C dMo_findGreatest_184 rfl ?_
                    refine XM_aload_n C dMo_findGreatest_185 rfl ?_
                    refine XM_get (k := 19) (v := .ref (M.2.1 19)) C rfl fwMo_55 dMo_findGreatest_186 ?_
                    refine XM_iload C dMo_findGreatest_189 rfl ?_
                    obtain ⟨q170, hR⟩ := o_if hR
                    refine XM_iald (k := 19) (n := 4) C rfl (xin_vp q170) dMo_findGreatest_191 ?_
                    refine XM_icmp_le (tgt := 199) C dMo_findGreatest_192 (by decide) (fun c171 => ?_) (fun c171 => ?_)
                    · rw [if_pos c171] at hR
                      refine XM_aload_n C dMo_findGreatest_199 rfl ?_
                      refine XM_get (k := 19) (v := .ref (M.2.1 19)) C rfl fwMo_55 dMo_findGreatest_200 ?_
                      refine XM_iload C dMo_findGreatest_203 rfl ?_
                      obtain ⟨q172, hR⟩ := o_if hR
                      refine XM_iald (k := 19) (n := 4) C rfl (xin_vp q172) dMo_findGreatest_205 ?_
                      obtain ⟨q173, hR⟩ := o_if hR
                      refine XM_iast (k := 19) (n := 4) C rfl (xin_vp q173) dMo_findGreatest_206 ?_
                      obtain ⟨s174, es174, hR⟩ := b_bnd hR
                      rw [← es174]
                      refine XM_iinc (v := x2 + 1) (lv' := [(2, .int (x2 + 1)), (4, .int (s158 13 (Int32.toNatClampNeg (x2)))), (3, .int (-((σ 14 (Int32.toNatClampNeg (x2))) >>> (((1 : Int32)) &&& 31)))), (0, .ref (M.1)), (1, .int (x1))]) C dMo_findGreatest_207 rfl rfl (by decide) rfl ?_
                      refine XM_goto (tgt := 64) C dMo_findGreatest_210 (by decide) ?_
                      refine XM_sub (lv' := [(0, .ref (M.1)), (1, .int (x1)), (2, .int (x2 + 1))]) [3, 4, 0] rfl ?_
                      exact (ih (x1) (x2 + 1) 0 0 _ _ _).2.2.2.2 hR
                    · rw [if_neg c171] at hR
                      refine XM_iload_n C dMo_findGreatest_195 rfl ?_
                      refine XM_goto (tgt := 206) C dMo_findGreatest_196 (by decide) ?_
                      obtain ⟨q175, hR⟩ := o_if hR
                      refine XM_iast (k := 19) (n := 4) C rfl (xin_vp q175) dMo_findGreatest_206 ?_
                      obtain ⟨s176, es176, hR⟩ := b_bnd hR
                      rw [← es176]
                      refine XM_iinc (v := x2 + 1) (lv' := [(2, .int (x2 + 1)), (4, .int (s158 13 (Int32.toNatClampNeg (x2)))), (3, .int (-((σ 14 (Int32.toNatClampNeg (x2))) >>> (((1 : Int32)) &&& 31)))), (0, .ref (M.1)), (1, .int (x1))]) C dMo_findGreatest_207 rfl rfl (by decide) rfl ?_
                      refine XM_goto (tgt := 64) C dMo_findGreatest_210 (by decide) ?_
                      refine XM_sub (lv' := [(0, .ref (M.1)), (1, .int (x1)), (2, .int (x2 + 1))]) [3, 4, 0] rfl ?_
                      exact (ih (x1) (x2 + 1) 0 0 _ _ _).2.2.2.2 hR
        · rw [if_neg c12] at hR
          refine XM_goto (tgt := 207) C dMo_findGreatest_95 (by decide) ?_
          refine XM_iinc (v := x2 + 1) (lv' := [(2, .int (x2 + 1)), (0, .ref (M.1)), (1, .int (x1))]) C dMo_findGreatest_207 rfl rfl (by decide) rfl ?_
          refine XM_goto (tgt := 64) C dMo_findGreatest_210 (by decide) ?_
          refine XM_sub (lv' := [(0, .ref (M.1)), (1, .int (x1)), (2, .int (x2 + 1))]) [1, 2, 0] rfl ?_
          exact (ih (x1) (x2 + 1) 0 0 _ _ _).2.2.2.2 hR
theorem Mo_findGreatest_c {l : Launch} {G : xG} {B : Nat} {M : xM} {n : Nat} {σ : mS} {τ : mL} {R : Int32 × mS × mL} (hR : Mo_findGreatest_f n 0 0 0 0 0 σ τ = some R) : mCon l yMo_findGreatest cMo_findGreatest 5 none 1 25 G B M [.ref M.1] σ τ none R.2.1 R.2.2 := mCon.of (by decide) (Nat.le_of_ble_eq_true rfl) (fun F e C hr => XM_sub (lv' := [(0, .ref (M.1))]) [0] rfl ((Mo_findGreatest_x C hr n 0 0 0 0 σ τ R).1 hR))
