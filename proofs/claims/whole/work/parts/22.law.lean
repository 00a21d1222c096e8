/-! by law.py -/
set_option maxRecDepth 100000 in
def f_L_law_2359 (Y18 : Ly) (x20 : Int32) (again53 : Int32 → Mm → Prop) (M24 : Mm) : Prop :=
  ∀ x25 : Int32, x25 = x20 + 9 → (again53 x25 M24)
set_option maxRecDepth 100000 in
def f_L_law_309 (Y18 : Ly) (x20 : Int32) (again53 : Int32 → Mm → Prop) (M42 : Mm) : Prop :=
  f_L_law_2359 Y18 x20 again53 M42
set_option maxRecDepth 100000 in
def f_L_law_365 (Y18 : Ly) (x20 : Int32) (again53 : Int32 → Mm → Prop) (M56 : Mm) : Prop :=
  f_L_law_2359 Y18 x20 again53 M56
set_option maxRecDepth 100000 in
def f_L_law_433 (Y18 : Ly) (x20 : Int32) (again53 : Int32 → Mm → Prop) (M72 : Mm) : Prop :=
  f_L_law_2359 Y18 x20 again53 M72
set_option maxRecDepth 100000 in
def f_L_law_619 (Y18 : Ly) (x20 : Int32) (again53 : Int32 → Mm → Prop) (M100 : Mm) : Prop :=
  f_L_law_2359 Y18 x20 again53 M100
set_option maxRecDepth 100000 in
def f_L_law_777 (Y18 : Ly) (x20 : Int32) (again53 : Int32 → Mm → Prop) (M124 : Mm) : Prop :=
  f_L_law_2359 Y18 x20 again53 M124
set_option maxRecDepth 100000 in
def f_L_law_833 (Y18 : Ly) (x20 : Int32) (again53 : Int32 → Mm → Prop) (M138 : Mm) : Prop :=
  f_L_law_2359 Y18 x20 again53 M138
set_option maxRecDepth 100000 in
def f_L_law_876 (Y18 : Ly) (x20 : Int32) (again53 : Int32 → Mm → Prop) (M150 : Mm) : Prop :=
  f_L_law_2359 Y18 x20 again53 M150
set_option maxRecDepth 100000 in
def f_L_law_931 (Y18 : Ly) (x20 : Int32) (again53 : Int32 → Mm → Prop) (M164 : Mm) : Prop :=
  f_L_law_2359 Y18 x20 again53 M164
set_option maxRecDepth 100000 in
def f_L_law_1042 (Y18 : Ly) (x20 : Int32) (again53 : Int32 → Mm → Prop) (M184 : Mm) : Prop :=
  f_L_law_2359 Y18 x20 again53 M184
set_option maxRecDepth 100000 in
def f_L_law_1109 (Y18 : Ly) (x20 : Int32) (again53 : Int32 → Mm → Prop) (M200 : Mm) : Prop :=
  f_L_law_2359 Y18 x20 again53 M200
set_option maxRecDepth 100000 in
def f_L_law_1221 (Y18 : Ly) (x20 : Int32) (again53 : Int32 → Mm → Prop) (M220 : Mm) : Prop :=
  f_L_law_2359 Y18 x20 again53 M220
set_option maxRecDepth 100000 in
def f_L_law_1277 (Y18 : Ly) (x20 : Int32) (again53 : Int32 → Mm → Prop) (M234 : Mm) : Prop :=
  f_L_law_2359 Y18 x20 again53 M234
set_option maxRecDepth 100000 in
def f_L_law_1344 (Y18 : Ly) (x20 : Int32) (again53 : Int32 → Mm → Prop) (M250 : Mm) : Prop :=
  f_L_law_2359 Y18 x20 again53 M250
set_option maxRecDepth 100000 in
def f_L_law_1443 (Y18 : Ly) (x20 : Int32) (again53 : Int32 → Mm → Prop) (M268 : Mm) : Prop :=
  f_L_law_2359 Y18 x20 again53 M268
set_option maxRecDepth 100000 in
def f_L_law_1511 (Y18 : Ly) (x20 : Int32) (again53 : Int32 → Mm → Prop) (M284 : Mm) : Prop :=
  f_L_law_2359 Y18 x20 again53 M284
set_option maxRecDepth 100000 in
def f_L_law_1567 (Y18 : Ly) (x20 : Int32) (again53 : Int32 → Mm → Prop) (M298 : Mm) : Prop :=
  f_L_law_2359 Y18 x20 again53 M298
set_option maxRecDepth 100000 in
def f_L_law_1635 (Y18 : Ly) (x20 : Int32) (again53 : Int32 → Mm → Prop) (M314 : Mm) : Prop :=
  f_L_law_2359 Y18 x20 again53 M314
set_option maxRecDepth 100000 in
def f_L_law_1703 (Y18 : Ly) (x20 : Int32) (again53 : Int32 → Mm → Prop) (M330 : Mm) : Prop :=
  f_L_law_2359 Y18 x20 again53 M330
set_option maxRecDepth 100000 in
def f_L_law_1783 (Y18 : Ly) (x20 : Int32) (again53 : Int32 → Mm → Prop) (M348 : Mm) : Prop :=
  f_L_law_2359 Y18 x20 again53 M348
set_option maxRecDepth 100000 in
def f_L_law_1921 (Y18 : Ly) (x20 : Int32) (again53 : Int32 → Mm → Prop) (M372 : Mm) : Prop :=
  f_L_law_2359 Y18 x20 again53 M372
set_option maxRecDepth 100000 in
def f_L_law_1988 (Y18 : Ly) (x20 : Int32) (again53 : Int32 → Mm → Prop) (M388 : Mm) : Prop :=
  f_L_law_2359 Y18 x20 again53 M388
set_option maxRecDepth 100000 in
def f_L_law_2056 (Y18 : Ly) (x20 : Int32) (again53 : Int32 → Mm → Prop) (M404 : Mm) : Prop :=
  f_L_law_2359 Y18 x20 again53 M404
set_option maxRecDepth 100000 in
def f_L_law_2124 (Y18 : Ly) (x20 : Int32) (again53 : Int32 → Mm → Prop) (M420 : Mm) : Prop :=
  f_L_law_2359 Y18 x20 again53 M420
set_option maxRecDepth 100000 in
def f_L_law_2180 (Y18 : Ly) (x20 : Int32) (again53 : Int32 → Mm → Prop) (M434 : Mm) : Prop :=
  f_L_law_2359 Y18 x20 again53 M434
set_option maxRecDepth 100000 in
def f_L_law_2312 (Y18 : Ly) (x20 : Int32) (again53 : Int32 → Mm → Prop) (M483 : Mm) : Prop :=
  f_L_law_2359 Y18 x20 again53 M483
set_option maxRecDepth 100000 in
def f_L_law_2356 (Y18 : Ly) (x20 : Int32) (again53 : Int32 → Mm → Prop) (M495 : Mm) : Prop :=
  f_L_law_2359 Y18 x20 again53 M495
set_option maxRecDepth 100000 in
def L_L_law_53 (Y18 : Ly) (L : Nat) (xs : Nat → Int32) (q1 : Nat) (q9 : Nat) (q17 : Nat) (x20 : Int32) (M21 : Mm) (again53 : Int32 → Mm → Prop) : Prop :=
  (((nI L) - 9) < x20 → (True)) ∧ (¬ (((nI L) - 9) < x20) → (vp_in x20 L ∧ (((((xs x20.toNatClampNeg) &&& 31) < 0 ∨ 31 ≤ ((xs x20.toNatClampNeg) &&& 31)) → (f_L_law_2359 Y18 x20 again53 M21)) ∧ (((xs x20.toNatClampNeg) &&& 31) = 0 → (vp_in (x20 + 1) L ∧ (vp_in (x20 + 2) L ∧ (vp_in (x20 + 3) L ∧ (vp_in (x20 + 4) L ∧ (vp_in (x20 + 5) L ∧ (f_L_feed Y18 q1 (xs (x20 + 1).toNatClampNeg) (xs (x20 + 2).toNatClampNeg) (xs (x20 + 3).toNatClampNeg) (xs (x20 + 4).toNatClampNeg) (xs (x20 + 5).toNatClampNeg) q17 M21 (fun r33 M32 => (vp_in (x20 + 1) L ∧ (vp_in (x20 + 2) L ∧ (vp_in (x20 + 3) L ∧ (vp_in (x20 + 4) L ∧ (vp_in (x20 + 5) L ∧ (yK Y18 q9 = 12 ∧ (f_X12_feed Y18 q9 (xs (x20 + 1).toNatClampNeg) (xs (x20 + 2).toNatClampNeg) (xs (x20 + 3).toNatClampNeg) (xs (x20 + 4).toNatClampNeg) (xs (x20 + 5).toNatClampNeg) M32 (fun r40 M39 => (f_X12_thrown Y18 q9 M39 (fun r43 M42 => ((r43 = r33 → ((¬ r33 = 0 → (f_L_law_309 Y18 x20 again53 M42)) ∧ (r33 = 0 → (yK Y18 q17 = 102 ∧ (vp_in 0 (yN Y18 q17) ∧ (((mJ M42 q17 (0 : Int32).toNatClampNeg) = r40.toInt64 → (f_L_law_309 Y18 x20 again53 M42)) ∧ (¬ ((mJ M42 q17 (0 : Int32).toNatClampNeg) = r40.toInt64) → (False)))))))) ∧ (¬ (r43 = r33) → (False))))))))))))))))))))) ∧ (((xs x20.toNatClampNeg) &&& 31) = 1 → (vp_in (x20 + 1) L ∧ (f_L_trim Y18 q1 (xs (x20 + 1).toNatClampNeg) q17 M21 (fun r51 M50 => (vp_in (x20 + 1) L ∧ (yK Y18 q9 = 12 ∧ (f_X12_trim Y18 q9 (xs (x20 + 1).toNatClampNeg) M50 (fun r54 M53 => (f_X12_thrown Y18 q9 M53 (fun r57 M56 => ((r57 = r51 → ((¬ r51 = 0 → (f_L_law_365 Y18 x20 again53 M56)) ∧ (r51 = 0 → (yK Y18 q17 = 102 ∧ (vp_in 0 (yN Y18 q17) ∧ (((mJ M56 q17 (0 : Int32).toNatClampNeg) = r54.toInt64 → (f_L_law_365 Y18 x20 again53 M56)) ∧ (¬ ((mJ M56 q17 (0 : Int32).toNatClampNeg) = r54.toInt64) → (False)))))))) ∧ (¬ (r57 = r51) → (False))))))))))))) ∧ (((xs x20.toNatClampNeg) &&& 31) = 2 → (vp_in (x20 + 1) L ∧ (vp_in (x20 + 2) L ∧ (f_L_spoil Y18 q1 (xs (x20 + 1).toNatClampNeg) (xs (x20 + 2).toNatClampNeg) q17 M21 (fun r66 M65 => (vp_in (x20 + 1) L ∧ (vp_in (x20 + 2) L ∧ (yK Y18 q9 = 12 ∧ (f_X12_spoil Y18 q9 (xs (x20 + 1).toNatClampNeg) (xs (x20 + 2).toNatClampNeg) M65 (fun r70 M69 => (f_X12_thrown Y18 q9 M69 (fun r73 M72 => ((r73 = r66 → ((¬ r66 = 0 → (f_L_law_433 Y18 x20 again53 M72)) ∧ (r66 = 0 → (yK Y18 q17 = 102 ∧ (vp_in 0 (yN Y18 q17) ∧ (((mJ M72 q17 (0 : Int32).toNatClampNeg) = r70.toInt64 → (f_L_law_433 Y18 x20 again53 M72)) ∧ (¬ ((mJ M72 q17 (0 : Int32).toNatClampNeg) = r70.toInt64) → (False)))))))) ∧ (¬ (r73 = r66) → (False))))))))))))))) ∧ (((xs x20.toNatClampNeg) &&& 31) = 3 → (vp_in (x20 + 1) L ∧ (vp_in (x20 + 2) L ∧ (vp_in (x20 + 3) L ∧ (vp_in (x20 + 4) L ∧ (vp_in (x20 + 5) L ∧ (vp_in (x20 + 6) L ∧ (vp_in (x20 + 7) L ∧ (vp_in (x20 + 8) L ∧ (f_L_record Y18 q1 (xs (x20 + 1).toNatClampNeg) ((((xs (x20 + 2).toNatClampNeg).toInt64) <<< ((32 : Int32).toInt64 &&& 63)) ||| (((xs (x20 + 3).toNatClampNeg).toInt64) &&& 4294967295)) (xs (x20 + 4).toNatClampNeg) ((((xs (x20 + 5).toNatClampNeg).toInt64) <<< ((32 : Int32).toInt64 &&& 63)) ||| (((xs (x20 + 6).toNatClampNeg).toInt64) &&& 4294967295)) (xs (x20 + 7).toNatClampNeg) (xs (x20 + 8).toNatClampNeg) q17 M21 (fun r88 M87 => (vp_in (x20 + 1) L ∧ (vp_in (x20 + 2) L ∧ (vp_in (x20 + 3) L ∧ (vp_in (x20 + 4) L ∧ (vp_in (x20 + 5) L ∧ (vp_in (x20 + 6) L ∧ (vp_in (x20 + 7) L ∧ (vp_in (x20 + 8) L ∧ (yK Y18 q9 = 12 ∧ (f_X12_record Y18 q9 (xs (x20 + 1).toNatClampNeg) ((((xs (x20 + 2).toNatClampNeg).toInt64) <<< ((32 : Int32).toInt64 &&& 63)) ||| (((xs (x20 + 3).toNatClampNeg).toInt64) &&& 4294967295)) (xs (x20 + 4).toNatClampNeg) ((((xs (x20 + 5).toNatClampNeg).toInt64) <<< ((32 : Int32).toInt64 &&& 63)) ||| (((xs (x20 + 6).toNatClampNeg).toInt64) &&& 4294967295)) (xs (x20 + 7).toNatClampNeg) (xs (x20 + 8).toNatClampNeg) M87 (fun r98 M97 => (f_X12_thrown Y18 q9 M97 (fun r101 M100 => ((r101 = r88 → ((¬ r88 = 0 → (f_L_law_619 Y18 x20 again53 M100)) ∧ (r88 = 0 → (yK Y18 q17 = 102 ∧ (vp_in 0 (yN Y18 q17) ∧ (((mJ M100 q17 (0 : Int32).toNatClampNeg) = r98.toInt64 → (f_L_law_619 Y18 x20 again53 M100)) ∧ (¬ ((mJ M100 q17 (0 : Int32).toNatClampNeg) = r98.toInt64) → (False)))))))) ∧ (¬ (r101 = r88) → (False))))))))))))))))))))))))))) ∧ (((xs x20.toNatClampNeg) &&& 31) = 4 → (vp_in (x20 + 1) L ∧ (vp_in (x20 + 2) L ∧ (vp_in (x20 + 3) L ∧ (vp_in (x20 + 4) L ∧ (vp_in (x20 + 5) L ∧ (vp_in (x20 + 6) L ∧ (f_L_seal Y18 q1 ((((xs (x20 + 1).toNatClampNeg).toInt64) <<< ((32 : Int32).toInt64 &&& 63)) ||| (((xs (x20 + 2).toNatClampNeg).toInt64) &&& 4294967295)) (xs (x20 + 3).toNatClampNeg) (xs (x20 + 4).toNatClampNeg) ((((xs (x20 + 5).toNatClampNeg).toInt64) <<< ((32 : Int32).toInt64 &&& 63)) ||| (((xs (x20 + 6).toNatClampNeg).toInt64) &&& 4294967295)) q17 M21 (fun r114 M113 => (vp_in (x20 + 1) L ∧ (vp_in (x20 + 2) L ∧ (vp_in (x20 + 3) L ∧ (vp_in (x20 + 4) L ∧ (vp_in (x20 + 5) L ∧ (vp_in (x20 + 6) L ∧ (yK Y18 q9 = 12 ∧ (f_X12_seal Y18 q9 ((((xs (x20 + 1).toNatClampNeg).toInt64) <<< ((32 : Int32).toInt64 &&& 63)) ||| (((xs (x20 + 2).toNatClampNeg).toInt64) &&& 4294967295)) (xs (x20 + 3).toNatClampNeg) (xs (x20 + 4).toNatClampNeg) ((((xs (x20 + 5).toNatClampNeg).toInt64) <<< ((32 : Int32).toInt64 &&& 63)) ||| (((xs (x20 + 6).toNatClampNeg).toInt64) &&& 4294967295)) M113 (fun r122 M121 => (f_X12_thrown Y18 q9 M121 (fun r125 M124 => ((r125 = r114 → ((¬ r114 = 0 → (f_L_law_777 Y18 x20 again53 M124)) ∧ (r114 = 0 → (yK Y18 q17 = 102 ∧ (vp_in 0 (yN Y18 q17) ∧ (((mJ M124 q17 (0 : Int32).toNatClampNeg) = r122.toInt64 → (f_L_law_777 Y18 x20 again53 M124)) ∧ (¬ ((mJ M124 q17 (0 : Int32).toNatClampNeg) = r122.toInt64) → (False)))))))) ∧ (¬ (r125 = r114) → (False))))))))))))))))))))))) ∧ (((xs x20.toNatClampNeg) &&& 31) = 5 → (vp_in (x20 + 1) L ∧ (f_L_fault Y18 q1 (xs (x20 + 1).toNatClampNeg) q17 M21 (fun r133 M132 => (vp_in (x20 + 1) L ∧ (yK Y18 q9 = 12 ∧ (f_X12_fault Y18 q9 (xs (x20 + 1).toNatClampNeg) M132 (fun r136 M135 => (f_X12_thrown Y18 q9 M135 (fun r139 M138 => ((r139 = r133 → ((¬ r133 = 0 → (f_L_law_833 Y18 x20 again53 M138)) ∧ (r133 = 0 → (yK Y18 q17 = 102 ∧ (vp_in 0 (yN Y18 q17) ∧ (((mJ M138 q17 (0 : Int32).toNatClampNeg) = r136.toInt64 → (f_L_law_833 Y18 x20 again53 M138)) ∧ (¬ ((mJ M138 q17 (0 : Int32).toNatClampNeg) = r136.toInt64) → (False)))))))) ∧ (¬ (r139 = r133) → (False))))))))))))) ∧ (((xs x20.toNatClampNeg) &&& 31) = 6 → (f_L_producer Y18 q1 q17 M21 (fun r146 M145 => (yK Y18 q9 = 12 ∧ (f_X12_producer Y18 q9 M145 (fun r148 M147 => (f_X12_thrown Y18 q9 M147 (fun r151 M150 => ((r151 = r146 → ((¬ r146 = 0 → (f_L_law_876 Y18 x20 again53 M150)) ∧ (r146 = 0 → (yK Y18 q17 = 102 ∧ (vp_in 0 (yN Y18 q17) ∧ (((mJ M150 q17 (0 : Int32).toNatClampNeg) = r148 → (f_L_law_876 Y18 x20 again53 M150)) ∧ (¬ ((mJ M150 q17 (0 : Int32).toNatClampNeg) = r148) → (False)))))))) ∧ (¬ (r151 = r146) → (False))))))))))) ∧ (((xs x20.toNatClampNeg) &&& 31) = 7 → (vp_in (x20 + 1) L ∧ (f_L_produce Y18 q1 (xs (x20 + 1).toNatClampNeg) q17 M21 (fun r159 M158 => (vp_in (x20 + 1) L ∧ (yK Y18 q9 = 12 ∧ (f_X12_produce Y18 q9 (xs (x20 + 1).toNatClampNeg) M158 (fun r162 M161 => (f_X12_thrown Y18 q9 M161 (fun r165 M164 => ((r165 = r159 → ((¬ r159 = 0 → (f_L_law_931 Y18 x20 again53 M164)) ∧ (r159 = 0 → (yK Y18 q17 = 102 ∧ (vp_in 0 (yN Y18 q17) ∧ (((mJ M164 q17 (0 : Int32).toNatClampNeg) = r162 → (f_L_law_931 Y18 x20 again53 M164)) ∧ (¬ ((mJ M164 q17 (0 : Int32).toNatClampNeg) = r162) → (False)))))))) ∧ (¬ (r165 = r159) → (False))))))))))))) ∧ (((xs x20.toNatClampNeg) &&& 31) = 8 → (vp_in (x20 + 1) L ∧ (vp_in (x20 + 2) L ∧ (vp_in (x20 + 3) L ∧ (vp_in (x20 + 4) L ∧ (f_L_known Y18 q1 (xs (x20 + 1).toNatClampNeg) ((((xs (x20 + 2).toNatClampNeg).toInt64) <<< ((32 : Int32).toInt64 &&& 63)) ||| (((xs (x20 + 3).toNatClampNeg).toInt64) &&& 4294967295)) (xs (x20 + 4).toNatClampNeg) q17 M21 (fun r176 M175 => (vp_in (x20 + 1) L ∧ (vp_in (x20 + 2) L ∧ (vp_in (x20 + 3) L ∧ (vp_in (x20 + 4) L ∧ (yK Y18 q9 = 12 ∧ (f_X12_known Y18 q9 (xs (x20 + 1).toNatClampNeg) ((((xs (x20 + 2).toNatClampNeg).toInt64) <<< ((32 : Int32).toInt64 &&& 63)) ||| (((xs (x20 + 3).toNatClampNeg).toInt64) &&& 4294967295)) (xs (x20 + 4).toNatClampNeg) M175 (fun r182 M181 => (f_X12_thrown Y18 q9 M181 (fun r185 M184 => ((r185 = r176 → ((¬ r176 = 0 → (f_L_law_1042 Y18 x20 again53 M184)) ∧ (r176 = 0 → (yK Y18 q17 = 102 ∧ (vp_in 0 (yN Y18 q17) ∧ (((mJ M184 q17 (0 : Int32).toNatClampNeg) = r182 → (f_L_law_1042 Y18 x20 again53 M184)) ∧ (¬ ((mJ M184 q17 (0 : Int32).toNatClampNeg) = r182) → (False)))))))) ∧ (¬ (r185 = r176) → (False))))))))))))))))))) ∧ (((xs x20.toNatClampNeg) &&& 31) = 9 → (vp_in (x20 + 1) L ∧ (vp_in (x20 + 2) L ∧ (f_L_log Y18 q1 (xs (x20 + 1).toNatClampNeg) (xs (x20 + 2).toNatClampNeg) q17 M21 (fun r194 M193 => (vp_in (x20 + 1) L ∧ (vp_in (x20 + 2) L ∧ (yK Y18 q9 = 12 ∧ (f_X12_log Y18 q9 (xs (x20 + 1).toNatClampNeg) (xs (x20 + 2).toNatClampNeg) M193 (fun r198 M197 => (f_X12_thrown Y18 q9 M197 (fun r201 M200 => ((r201 = r194 → ((¬ r194 = 0 → (f_L_law_1109 Y18 x20 again53 M200)) ∧ (r194 = 0 → (yK Y18 q17 = 102 ∧ (vp_in 0 (yN Y18 q17) ∧ (((mJ M200 q17 (0 : Int32).toNatClampNeg) = r198 → (f_L_law_1109 Y18 x20 again53 M200)) ∧ (¬ ((mJ M200 q17 (0 : Int32).toNatClampNeg) = r198) → (False)))))))) ∧ (¬ (r201 = r194) → (False))))))))))))))) ∧ (((xs x20.toNatClampNeg) &&& 31) = 10 → (vp_in (x20 + 1) L ∧ (vp_in (x20 + 2) L ∧ (vp_in (x20 + 3) L ∧ (vp_in (x20 + 4) L ∧ (f_L_fetch Y18 q1 (xs (x20 + 1).toNatClampNeg) ((((xs (x20 + 2).toNatClampNeg).toInt64) <<< ((32 : Int32).toInt64 &&& 63)) ||| (((xs (x20 + 3).toNatClampNeg).toInt64) &&& 4294967295)) (xs (x20 + 4).toNatClampNeg) q17 M21 (fun r212 M211 => (vp_in (x20 + 1) L ∧ (vp_in (x20 + 2) L ∧ (vp_in (x20 + 3) L ∧ (vp_in (x20 + 4) L ∧ (yK Y18 q9 = 12 ∧ (f_X12_fetch Y18 q9 (xs (x20 + 1).toNatClampNeg) ((((xs (x20 + 2).toNatClampNeg).toInt64) <<< ((32 : Int32).toInt64 &&& 63)) ||| (((xs (x20 + 3).toNatClampNeg).toInt64) &&& 4294967295)) (xs (x20 + 4).toNatClampNeg) M211 (fun r218 M217 => (f_X12_thrown Y18 q9 M217 (fun r221 M220 => ((r221 = r212 → ((¬ r212 = 0 → (f_L_law_1221 Y18 x20 again53 M220)) ∧ (r212 = 0 → (yK Y18 q17 = 102 ∧ (vp_in 0 (yN Y18 q17) ∧ (((mJ M220 q17 (0 : Int32).toNatClampNeg) = r218.toInt64 → (f_L_law_1221 Y18 x20 again53 M220)) ∧ (¬ ((mJ M220 q17 (0 : Int32).toNatClampNeg) = r218.toInt64) → (False)))))))) ∧ (¬ (r221 = r212) → (False))))))))))))))))))) ∧ (((xs x20.toNatClampNeg) &&& 31) = 11 → (vp_in (x20 + 1) L ∧ (f_L_byteAt Y18 q1 (xs (x20 + 1).toNatClampNeg) q17 M21 (fun r229 M228 => (vp_in (x20 + 1) L ∧ (yK Y18 q9 = 12 ∧ (f_X12_byteAt Y18 q9 (xs (x20 + 1).toNatClampNeg) M228 (fun r232 M231 => (f_X12_thrown Y18 q9 M231 (fun r235 M234 => ((r235 = r229 → ((¬ r229 = 0 → (f_L_law_1277 Y18 x20 again53 M234)) ∧ (r229 = 0 → (yK Y18 q17 = 102 ∧ (vp_in 0 (yN Y18 q17) ∧ (((mJ M234 q17 (0 : Int32).toNatClampNeg) = r232.toInt64 → (f_L_law_1277 Y18 x20 again53 M234)) ∧ (¬ ((mJ M234 q17 (0 : Int32).toNatClampNeg) = r232.toInt64) → (False)))))))) ∧ (¬ (r235 = r229) → (False))))))))))))) ∧ (((xs x20.toNatClampNeg) &&& 31) = 12 → (vp_in (x20 + 1) L ∧ (vp_in (x20 + 2) L ∧ (f_L_taken Y18 q1 (xs (x20 + 1).toNatClampNeg) (xs (x20 + 2).toNatClampNeg) q17 M21 (fun r244 M243 => (vp_in (x20 + 1) L ∧ (vp_in (x20 + 2) L ∧ (yK Y18 q9 = 12 ∧ (f_X12_taken Y18 q9 (xs (x20 + 1).toNatClampNeg) (xs (x20 + 2).toNatClampNeg) M243 (fun r248 M247 => (f_X12_thrown Y18 q9 M247 (fun r251 M250 => ((r251 = r244 → ((¬ r244 = 0 → (f_L_law_1344 Y18 x20 again53 M250)) ∧ (r244 = 0 → (yK Y18 q17 = 102 ∧ (vp_in 0 (yN Y18 q17) ∧ (((mJ M250 q17 (0 : Int32).toNatClampNeg) = r248 → (f_L_law_1344 Y18 x20 again53 M250)) ∧ (¬ ((mJ M250 q17 (0 : Int32).toNatClampNeg) = r248) → (False)))))))) ∧ (¬ (r251 = r244) → (False))))))))))))))) ∧ (((xs x20.toNatClampNeg) &&& 31) = 13 → (vp_in (x20 + 1) L ∧ (vp_in (x20 + 2) L ∧ (vp_in (x20 + 3) L ∧ (f_L_find Y18 q1 (xs (x20 + 1).toNatClampNeg) ((((xs (x20 + 2).toNatClampNeg).toInt64) <<< ((32 : Int32).toInt64 &&& 63)) ||| (((xs (x20 + 3).toNatClampNeg).toInt64) &&& 4294967295)) q17 M21 (fun r261 M260 => (vp_in (x20 + 1) L ∧ (vp_in (x20 + 2) L ∧ (vp_in (x20 + 3) L ∧ (yK Y18 q9 = 12 ∧ (f_X12_find Y18 q9 (xs (x20 + 1).toNatClampNeg) ((((xs (x20 + 2).toNatClampNeg).toInt64) <<< ((32 : Int32).toInt64 &&& 63)) ||| (((xs (x20 + 3).toNatClampNeg).toInt64) &&& 4294967295)) M260 (fun r266 M265 => (f_X12_thrown Y18 q9 M265 (fun r269 M268 => ((r269 = r261 → ((¬ r261 = 0 → (f_L_law_1443 Y18 x20 again53 M268)) ∧ (r261 = 0 → (yK Y18 q17 = 102 ∧ (vp_in 0 (yN Y18 q17) ∧ (((mJ M268 q17 (0 : Int32).toNatClampNeg) = r266 → (f_L_law_1443 Y18 x20 again53 M268)) ∧ (¬ ((mJ M268 q17 (0 : Int32).toNatClampNeg) = r266) → (False)))))))) ∧ (¬ (r269 = r261) → (False))))))))))))))))) ∧ (((xs x20.toNatClampNeg) &&& 31) = 14 → (vp_in (x20 + 1) L ∧ (vp_in (x20 + 2) L ∧ (f_L_retain Y18 q1 (xs (x20 + 1).toNatClampNeg) (xs (x20 + 2).toNatClampNeg) q17 M21 (fun r278 M277 => (vp_in (x20 + 1) L ∧ (vp_in (x20 + 2) L ∧ (yK Y18 q9 = 12 ∧ (f_X12_retain Y18 q9 (xs (x20 + 1).toNatClampNeg) (xs (x20 + 2).toNatClampNeg) M277 (fun r282 M281 => (f_X12_thrown Y18 q9 M281 (fun r285 M284 => ((r285 = r278 → ((¬ r278 = 0 → (f_L_law_1511 Y18 x20 again53 M284)) ∧ (r278 = 0 → (yK Y18 q17 = 102 ∧ (vp_in 0 (yN Y18 q17) ∧ (((mJ M284 q17 (0 : Int32).toNatClampNeg) = r282.toInt64 → (f_L_law_1511 Y18 x20 again53 M284)) ∧ (¬ ((mJ M284 q17 (0 : Int32).toNatClampNeg) = r282.toInt64) → (False)))))))) ∧ (¬ (r285 = r278) → (False))))))))))))))) ∧ (((xs x20.toNatClampNeg) &&& 31) = 15 → (vp_in (x20 + 1) L ∧ (f_L_compact Y18 q1 (xs (x20 + 1).toNatClampNeg) q17 M21 (fun r293 M292 => (vp_in (x20 + 1) L ∧ (yK Y18 q9 = 12 ∧ (f_X12_compact Y18 q9 (xs (x20 + 1).toNatClampNeg) M292 (fun r296 M295 => (f_X12_thrown Y18 q9 M295 (fun r299 M298 => ((r299 = r293 → ((¬ r293 = 0 → (f_L_law_1567 Y18 x20 again53 M298)) ∧ (r293 = 0 → (yK Y18 q17 = 102 ∧ (vp_in 0 (yN Y18 q17) ∧ (((mJ M298 q17 (0 : Int32).toNatClampNeg) = r296.toInt64 → (f_L_law_1567 Y18 x20 again53 M298)) ∧ (¬ ((mJ M298 q17 (0 : Int32).toNatClampNeg) = r296.toInt64) → (False)))))))) ∧ (¬ (r299 = r293) → (False))))))))))))) ∧ (((xs x20.toNatClampNeg) &&& 31) = 16 → (vp_in (x20 + 1) L ∧ (vp_in (x20 + 2) L ∧ (f_L_join Y18 q1 (xs (x20 + 1).toNatClampNeg) (xs (x20 + 2).toNatClampNeg) q17 M21 (fun r308 M307 => (vp_in (x20 + 1) L ∧ (vp_in (x20 + 2) L ∧ (yK Y18 q9 = 12 ∧ (f_X12_join Y18 q9 (xs (x20 + 1).toNatClampNeg) (xs (x20 + 2).toNatClampNeg) M307 (fun r312 M311 => (f_X12_thrown Y18 q9 M311 (fun r315 M314 => ((r315 = r308 → ((¬ r308 = 0 → (f_L_law_1635 Y18 x20 again53 M314)) ∧ (r308 = 0 → (yK Y18 q17 = 102 ∧ (vp_in 0 (yN Y18 q17) ∧ (((mJ M314 q17 (0 : Int32).toNatClampNeg) = r312.toInt64 → (f_L_law_1635 Y18 x20 again53 M314)) ∧ (¬ ((mJ M314 q17 (0 : Int32).toNatClampNeg) = r312.toInt64) → (False)))))))) ∧ (¬ (r315 = r308) → (False))))))))))))))) ∧ (((xs x20.toNatClampNeg) &&& 31) = 17 → (vp_in (x20 + 1) L ∧ (vp_in (x20 + 2) L ∧ (f_L_leave Y18 q1 (xs (x20 + 1).toNatClampNeg) (xs (x20 + 2).toNatClampNeg) q17 M21 (fun r324 M323 => (vp_in (x20 + 1) L ∧ (vp_in (x20 + 2) L ∧ (yK Y18 q9 = 12 ∧ (f_X12_leave Y18 q9 (xs (x20 + 1).toNatClampNeg) (xs (x20 + 2).toNatClampNeg) M323 (fun r328 M327 => (f_X12_thrown Y18 q9 M327 (fun r331 M330 => ((r331 = r324 → ((¬ r324 = 0 → (f_L_law_1703 Y18 x20 again53 M330)) ∧ (r324 = 0 → (yK Y18 q17 = 102 ∧ (vp_in 0 (yN Y18 q17) ∧ (((mJ M330 q17 (0 : Int32).toNatClampNeg) = r328.toInt64 → (f_L_law_1703 Y18 x20 again53 M330)) ∧ (¬ ((mJ M330 q17 (0 : Int32).toNatClampNeg) = r328.toInt64) → (False)))))))) ∧ (¬ (r331 = r324) → (False))))))))))))))) ∧ (((xs x20.toNatClampNeg) &&& 31) = 18 → (vp_in (x20 + 1) L ∧ (vp_in (x20 + 2) L ∧ (vp_in (x20 + 3) L ∧ (f_L_beat Y18 q1 (xs (x20 + 1).toNatClampNeg) (xs (x20 + 2).toNatClampNeg) (xs (x20 + 3).toNatClampNeg) q17 M21 (fun r341 M340 => (vp_in (x20 + 1) L ∧ (vp_in (x20 + 2) L ∧ (vp_in (x20 + 3) L ∧ (yK Y18 q9 = 12 ∧ (f_X12_beat Y18 q9 (xs (x20 + 1).toNatClampNeg) (xs (x20 + 2).toNatClampNeg) (xs (x20 + 3).toNatClampNeg) M340 (fun r346 M345 => (f_X12_thrown Y18 q9 M345 (fun r349 M348 => ((r349 = r341 → ((¬ r341 = 0 → (f_L_law_1783 Y18 x20 again53 M348)) ∧ (r341 = 0 → (yK Y18 q17 = 102 ∧ (vp_in 0 (yN Y18 q17) ∧ (((mJ M348 q17 (0 : Int32).toNatClampNeg) = r346.toInt64 → (f_L_law_1783 Y18 x20 again53 M348)) ∧ (¬ ((mJ M348 q17 (0 : Int32).toNatClampNeg) = r346.toInt64) → (False)))))))) ∧ (¬ (r349 = r341) → (False))))))))))))))))) ∧ (((xs x20.toNatClampNeg) &&& 31) = 19 → (vp_in (x20 + 1) L ∧ (vp_in (x20 + 2) L ∧ (vp_in (x20 + 3) L ∧ (vp_in (x20 + 4) L ∧ (vp_in (x20 + 5) L ∧ (vp_in (x20 + 6) L ∧ (f_L_commit Y18 q1 (xs (x20 + 1).toNatClampNeg) (xs (x20 + 2).toNatClampNeg) (xs (x20 + 3).toNatClampNeg) (xs (x20 + 4).toNatClampNeg) ((((xs (x20 + 5).toNatClampNeg).toInt64) <<< ((32 : Int32).toInt64 &&& 63)) ||| (((xs (x20 + 6).toNatClampNeg).toInt64) &&& 4294967295)) q17 M21 (fun r362 M361 => (vp_in (x20 + 1) L ∧ (vp_in (x20 + 2) L ∧ (vp_in (x20 + 3) L ∧ (vp_in (x20 + 4) L ∧ (vp_in (x20 + 5) L ∧ (vp_in (x20 + 6) L ∧ (yK Y18 q9 = 12 ∧ (f_X12_commit Y18 q9 (xs (x20 + 1).toNatClampNeg) (xs (x20 + 2).toNatClampNeg) (xs (x20 + 3).toNatClampNeg) (xs (x20 + 4).toNatClampNeg) ((((xs (x20 + 5).toNatClampNeg).toInt64) <<< ((32 : Int32).toInt64 &&& 63)) ||| (((xs (x20 + 6).toNatClampNeg).toInt64) &&& 4294967295)) M361 (fun r370 M369 => (f_X12_thrown Y18 q9 M369 (fun r373 M372 => ((r373 = r362 → ((¬ r362 = 0 → (f_L_law_1921 Y18 x20 again53 M372)) ∧ (r362 = 0 → (yK Y18 q17 = 102 ∧ (vp_in 0 (yN Y18 q17) ∧ (((mJ M372 q17 (0 : Int32).toNatClampNeg) = r370.toInt64 → (f_L_law_1921 Y18 x20 again53 M372)) ∧ (¬ ((mJ M372 q17 (0 : Int32).toNatClampNeg) = r370.toInt64) → (False)))))))) ∧ (¬ (r373 = r362) → (False))))))))))))))))))))))) ∧ (((xs x20.toNatClampNeg) &&& 31) = 20 → (vp_in (x20 + 1) L ∧ (vp_in (x20 + 2) L ∧ (f_L_committed Y18 q1 (xs (x20 + 1).toNatClampNeg) (xs (x20 + 2).toNatClampNeg) q17 M21 (fun r382 M381 => (vp_in (x20 + 1) L ∧ (vp_in (x20 + 2) L ∧ (yK Y18 q9 = 12 ∧ (f_X12_committed Y18 q9 (xs (x20 + 1).toNatClampNeg) (xs (x20 + 2).toNatClampNeg) M381 (fun r386 M385 => (f_X12_thrown Y18 q9 M385 (fun r389 M388 => ((r389 = r382 → ((¬ r382 = 0 → (f_L_law_1988 Y18 x20 again53 M388)) ∧ (r382 = 0 → (yK Y18 q17 = 102 ∧ (vp_in 0 (yN Y18 q17) ∧ (((mJ M388 q17 (0 : Int32).toNatClampNeg) = r386 → (f_L_law_1988 Y18 x20 again53 M388)) ∧ (¬ ((mJ M388 q17 (0 : Int32).toNatClampNeg) = r386) → (False)))))))) ∧ (¬ (r389 = r382) → (False))))))))))))))) ∧ (((xs x20.toNatClampNeg) &&& 31) = 21 → (vp_in (x20 + 1) L ∧ (vp_in (x20 + 2) L ∧ (f_L_group Y18 q1 (xs (x20 + 1).toNatClampNeg) (xs (x20 + 2).toNatClampNeg) q17 M21 (fun r398 M397 => (vp_in (x20 + 1) L ∧ (vp_in (x20 + 2) L ∧ (yK Y18 q9 = 12 ∧ (f_X12_group Y18 q9 (xs (x20 + 1).toNatClampNeg) (xs (x20 + 2).toNatClampNeg) M397 (fun r402 M401 => (f_X12_thrown Y18 q9 M401 (fun r405 M404 => ((r405 = r398 → ((¬ r398 = 0 → (f_L_law_2056 Y18 x20 again53 M404)) ∧ (r398 = 0 → (yK Y18 q17 = 102 ∧ (vp_in 0 (yN Y18 q17) ∧ (((mJ M404 q17 (0 : Int32).toNatClampNeg) = r402.toInt64 → (f_L_law_2056 Y18 x20 again53 M404)) ∧ (¬ ((mJ M404 q17 (0 : Int32).toNatClampNeg) = r402.toInt64) → (False)))))))) ∧ (¬ (r405 = r398) → (False))))))))))))))) ∧ (((xs x20.toNatClampNeg) &&& 31) = 22 → (vp_in (x20 + 1) L ∧ (vp_in (x20 + 2) L ∧ (f_L_share Y18 q1 (xs (x20 + 1).toNatClampNeg) (xs (x20 + 2).toNatClampNeg) q17 M21 (fun r414 M413 => (vp_in (x20 + 1) L ∧ (vp_in (x20 + 2) L ∧ (yK Y18 q9 = 12 ∧ (f_X12_share Y18 q9 (xs (x20 + 1).toNatClampNeg) (xs (x20 + 2).toNatClampNeg) M413 (fun r418 M417 => (f_X12_thrown Y18 q9 M417 (fun r421 M420 => ((r421 = r414 → ((¬ r414 = 0 → (f_L_law_2124 Y18 x20 again53 M420)) ∧ (r414 = 0 → (yK Y18 q17 = 102 ∧ (vp_in 0 (yN Y18 q17) ∧ (((mJ M420 q17 (0 : Int32).toNatClampNeg) = r418.toInt64 → (f_L_law_2124 Y18 x20 again53 M420)) ∧ (¬ ((mJ M420 q17 (0 : Int32).toNatClampNeg) = r418.toInt64) → (False)))))))) ∧ (¬ (r421 = r414) → (False))))))))))))))) ∧ (((xs x20.toNatClampNeg) &&& 31) = 23 → (vp_in (x20 + 1) L ∧ (f_L_ticks Y18 q1 (xs (x20 + 1).toNatClampNeg) q17 M21 (fun r429 M428 => (vp_in (x20 + 1) L ∧ (yK Y18 q9 = 12 ∧ (f_X12_ticks Y18 q9 (xs (x20 + 1).toNatClampNeg) M428 (fun r432 M431 => (f_X12_thrown Y18 q9 M431 (fun r435 M434 => ((r435 = r429 → ((¬ r429 = 0 → (f_L_law_2180 Y18 x20 again53 M434)) ∧ (r429 = 0 → (yK Y18 q17 = 102 ∧ (vp_in 0 (yN Y18 q17) ∧ (((mJ M434 q17 (0 : Int32).toNatClampNeg) = r432.toInt64 → (f_L_law_2180 Y18 x20 again53 M434)) ∧ (¬ ((mJ M434 q17 (0 : Int32).toNatClampNeg) = r432.toInt64) → (False)))))))) ∧ (¬ (r435 = r429) → (False))))))))))))) ∧ (((xs x20.toNatClampNeg) &&& 31) = 24 → (yK Y18 q1 = 11 ∧ (f_X11_time Y18 q1 M21 (fun r442 M441 => (yK Y18 q9 = 12 ∧ (f_X12_time Y18 q9 M441 (fun r445 M444 => ((r442 = r445 → (f_L_law_2359 Y18 x20 again53 M444)) ∧ (¬ (r442 = r445) → (False)))))))))) ∧ (((xs x20.toNatClampNeg) &&& 31) = 25 → (vp_in (x20 + 1) L ∧ (f_L_crash Y18 q1 (xs (x20 + 1).toNatClampNeg) M21 (fun r450 M449 => (vp_in (x20 + 1) L ∧ (yK Y18 q9 = 12 ∧ (f_X12_crash Y18 q9 (xs (x20 + 1).toNatClampNeg) M449 (fun M452 => (f_X12_thrown Y18 q9 M452 (fun r455 M454 => ((r455 = r450 → (f_L_law_2359 Y18 x20 again53 M454)) ∧ (¬ (r455 = r450) → (False))))))))))))) ∧ (((xs x20.toNatClampNeg) &&& 31) = 26 → (yK Y18 q1 = 11 ∧ (f_X11_recover Y18 q1 M21 (fun r458 M457 => (yK Y18 q9 = 12 ∧ (f_X12_recover Y18 q9 M457 (fun r461 M460 => ((r458 = r461 → (f_L_law_2359 Y18 x20 again53 M460)) ∧ (¬ (r458 = r461) → (False)))))))))) ∧ (((xs x20.toNatClampNeg) &&& 31) = 27 → (yK Y18 q1 = 11 ∧ (f_X11_isDown Y18 q1 M21 (fun r465 M464 => (yK Y18 q9 = 12 ∧ (f_X12_isDown Y18 q9 M464 (fun r468 M467 => ((r465 = r468 → (f_L_law_2359 Y18 x20 again53 M467)) ∧ (¬ (r465 = r468) → (False)))))))))) ∧ (((xs x20.toNatClampNeg) &&& 31) = 28 → (yK Y18 q1 = 11 ∧ (f_X11_writes Y18 q1 M21 (fun r472 M471 => (yK Y18 q9 = 12 ∧ (f_X12_writes Y18 q9 M471 (fun r475 M474 => ((r472 = r475 → (f_L_law_2359 Y18 x20 again53 M474)) ∧ (¬ (r472 = r475) → (False)))))))))) ∧ (((xs x20.toNatClampNeg) &&& 31) = 29 → (f_L_free Y18 q1 q17 M21 (fun r479 M478 => (yK Y18 q9 = 12 ∧ (f_X12_free Y18 q9 M478 (fun r481 M480 => (f_X12_thrown Y18 q9 M480 (fun r484 M483 => ((r484 = r479 → ((¬ r479 = 0 → (f_L_law_2312 Y18 x20 again53 M483)) ∧ (r479 = 0 → (yK Y18 q17 = 102 ∧ (vp_in 0 (yN Y18 q17) ∧ (((mJ M483 q17 (0 : Int32).toNatClampNeg) = r481.toInt64 → (f_L_law_2312 Y18 x20 again53 M483)) ∧ (¬ ((mJ M483 q17 (0 : Int32).toNatClampNeg) = r481.toInt64) → (False)))))))) ∧ (¬ (r484 = r479) → (False))))))))))) ∧ (((xs x20.toNatClampNeg) &&& 31) = 30 → (f_L_audit Y18 q1 q17 M21 (fun r491 M490 => (yK Y18 q9 = 12 ∧ (f_X12_audit Y18 q9 M490 (fun r493 M492 => (f_X12_thrown Y18 q9 M492 (fun r496 M495 => ((r496 = r491 → ((¬ r491 = 0 → (f_L_law_2356 Y18 x20 again53 M495)) ∧ (r491 = 0 → (yK Y18 q17 = 102 ∧ (vp_in 0 (yN Y18 q17) ∧ (((mJ M495 q17 (0 : Int32).toNatClampNeg) = r493.toInt64 → (f_L_law_2356 Y18 x20 again53 M495)) ∧ (¬ ((mJ M495 q17 (0 : Int32).toNatClampNeg) = r493.toInt64) → (False)))))))) ∧ (¬ (r496 = r491) → (False))))))))))))))
set_option maxRecDepth 100000 in
def f_L_law (b L : Nat) (xs : Nat → Int32) (Y : Ly) (M : Mm) : Prop :=
  ∀ q1 : Nat, yK Y q1 = 0 → ∀ Y2 : Ly, Y2 = yNew Y q1 11 0 → ∀ M3 : Mm, M3 = mZ M q1 → (f_X11_init Y2 q1 (sc_at L xs 0) (sc_at L xs 1) (sc_at L xs 2) M3 (fun Y7 M8 => (∀ q9 : Nat, yK Y7 q9 = 0 → ∀ Y10 : Ly, Y10 = yNew Y7 q9 12 0 → ∀ M11 : Mm, M11 = mZ M8 q9 → (f_X12_init Y10 q9 (sc_at L xs 0) (sc_at L xs 1) (sc_at L xs 2) M11 (fun Y15 M16 => (∀ q17 : Nat, yK Y15 q17 = 0 → ∀ Y18 : Ly, Y18 = yNew Y15 q17 102 1 → ∀ M19 : Mm, M19 = mZ M16 q17 → (∃ n, n ≤ 513 ∧ LOOP2 (L_L_law_53 Y18 L xs q1 q9 q17) n 3 M19)))))))
abbrev rm_L_law : Room := room_1
def yE : Ly := (fun _ => 0, fun _ => 0)
set_option maxHeartbeats 40000000 in
set_option maxRecDepth 100000 in
theorem whole_law {p : Program} {e : Env} {s : State} {m : MethodId} {below : List Frame} {meth : Method} {c : Code} (l : Launch) (hlt : l.stackTraces = false) {b L : Nat} {xs : Nat → Int32} (hL : L ≤ 4611) (C0 : lw_At p s m meth c b L xs) (D : va_G) (cy : Cy) (tq : Nat) (hK : va_K D vwCl (tysC cy) s) (hC : CX tq (fun q => s.heap.size ≤ q) s s.heap) (M : Mm) (hb8 : ∀ Y, Y = yE → f_L_law b L xs Y M) :
    W p l e room_1 s m #[Value.ref b] below meth c s.heap [] 0 0 (lw_Z below #[Value.ref b] s) (entryFrame m ([Value.ref b] : List Value).toArray 8) := by
  obtain ⟨hx, hb, hr, hml, hown, hts0, hX, hbl, hlocks, hgv⟩ := C0
  have hts : ∀ w ∈ TT, w.before #[Value.ref b] s = true := fun w h => hts0 w (List.mem_filter.mp h).1
  obtain ⟨Y, eY⟩ : ∃ Y : Ly, Y = yE := ⟨_, rfl⟩
  have hf := hb8 Y eY
  have hA : ∀ q : Nat, s.heap.size ≤ q → (fun q : Nat => s.heap.size ≤ q) q := fun _ h => h
  have hbA : ¬ (fun q : Nat => s.heap.size ≤ q) b := Nat.not_le.mpr hbl
  have hL31 : L < 2 ^ 31 := by omega
  have hW : Wd D cy (fun q : Nat => s.heap.size ≤ q) Y M s.heap := by
    subst eY
    exact ⟨fun a j h => absurd (show (0 : Nat) = 100 from h) (by decide), [], fun a => ⟨fun h => absurd h List.not_mem_nil, fun h => absurd rfl h⟩, fun k q h => by simp [va_pl] at h, ⟨fun i j x y h => by simp [va_pl] at h, fun k q h => by simp [va_pl] at h⟩⟩
  clear hb8
  generalize hAe : (fun q : Nat => s.heap.size ≤ q) = A at hW hC hA hbA
  have hAl : ∀ q, A q → s.heap.size ≤ q := fun q h => by rw [← hAe] at h; exact h
  clear hAe
  have hS : va_S A s.heap s.heap [] := va_S.rf
  obtain ⟨ls, hE, hl⟩ := gm_entry m [.ref b] (args := ([Value.ref b] : List Value).toArray) (n := 8) rfl (Nat.le_of_ble_eq_true rfl)
  rw [hE]
  have hl : lv_has ls 8 [(0, .ref b)] := hl
  unfold f_L_law at hf
  refine gm_new (ci := 11) hx hb hts inT_11 tyX11 tyX11_ok hown (hts _ kw_30) (hts _ kw_31) (hts _ kw_1) hK hW hS hA rfl (by decide) rfl def_11 (by show _ ≤ 61024; omega) (by show _ ≤ 8913000; omega) dL_law_0 (fun q1 H Y2 M3 h0q1 eY2 eM3 hW hS => ?_)
  replace hf := hf q1 h0q1 Y2 eY2 M3 eM3
  refine lv_dup hx hb dL_law_3 rfl ?_
  refine lv_aload_n hx hb dL_law_4 rfl (lv_at hl 0 rfl) ?_
  refine lv_iconst (v := 0) hx hb dL_law_5 (by decide +kernel) ?_
  refine vp_callSi (W.runS (As := [.ref b, .int 0]) (rest := [.ref q1, .ref q1]) ⟨hx, hb, hml, hown, hts⟩ (m_L_cell l b L xs 0 hL31 (by decide)) (va_cwS 2 hts (good_S kw_391 kw_392 kw_0 kw_393) rfl rfl rfl (by decide +kernel) ⟨Nat.le_of_ble_eq_true rfl, Nat.le_of_ble_eq_true rfl⟩) (cell_pre hX hbl hbA hS) rfl rfl hl.1 rfl (lv_room (Nat.le_of_ble_eq_true rfl)) dL_law_6 ⟨by show _ ≤ 61024; omega, by show _ ≤ 8913000; omega⟩) (fun r4 er4 => ?_)
  subst er4
  refine lv_aload_n hx hb dL_law_9 rfl (lv_at hl 0 rfl) ?_
  refine lv_iconst (v := 1) hx hb dL_law_10 (by decide +kernel) ?_
  refine vp_callSi (W.runS (As := [.ref b, .int 1]) (rest := [.int (sc_at L xs 0), .ref q1, .ref q1]) ⟨hx, hb, hml, hown, hts⟩ (m_L_cell l b L xs 1 hL31 (by decide)) (va_cwS 2 hts (good_S kw_391 kw_392 kw_0 kw_393) rfl rfl rfl (by decide +kernel) ⟨Nat.le_of_ble_eq_true rfl, Nat.le_of_ble_eq_true rfl⟩) (cell_pre hX hbl hbA hS) rfl rfl hl.1 rfl (lv_room (Nat.le_of_ble_eq_true rfl)) dL_law_11 ⟨by show _ ≤ 61024; omega, by show _ ≤ 8913000; omega⟩) (fun r5 er5 => ?_)
  subst er5
  refine lv_aload_n hx hb dL_law_14 rfl (lv_at hl 0 rfl) ?_
  refine lv_iconst (v := 2) hx hb dL_law_15 (by decide +kernel) ?_
  refine vp_callSi (W.runS (As := [.ref b, .int 2]) (rest := [.int (sc_at L xs 1), .int (sc_at L xs 0), .ref q1, .ref q1]) ⟨hx, hb, hml, hown, hts⟩ (m_L_cell l b L xs 2 hL31 (by decide)) (va_cwS 2 hts (good_S kw_391 kw_392 kw_0 kw_393) rfl rfl rfl (by decide +kernel) ⟨Nat.le_of_ble_eq_true rfl, Nat.le_of_ble_eq_true rfl⟩) (cell_pre hX hbl hbA hS) rfl rfl hl.1 rfl (lv_room (Nat.le_of_ble_eq_true rfl)) dL_law_16 ⟨by show _ ≤ 61024; omega, by show _ ≤ 8913000; omega⟩) (fun r6 er6 => ?_)
  subst er6
  refine gm_ca (va_runI (As := [.int (sc_at L xs 0), .int (sc_at L xs 1), .int (sc_at L xs 2)]) (rest := [.ref q1]) ⟨hx, hb, hml, hown, hts⟩ (m_X11_init l D cy tq _ Y2 _ _ _ _ _ _) (cwI 3 hts (good_C kw_34) rfl rfl rfl (hts _ kw_1) (hts _ kw_32) (hts _ kw_33) rfl (by decide +kernel) ⟨Nat.le_of_ble_eq_true rfl, Nat.le_of_ble_eq_true rfl⟩) (gm_preS hK hW hC hS hA hf) rfl rfl hl.1 rfl (lv_room (Nat.le_of_ble_eq_true rfl)) dL_law_19 ⟨by show _ ≤ 61024; omega, by show _ ≤ 8913000; omega⟩) hW hS hA (fun Y7 M8 H locs hW hS hf => ?_)
  refine lv_astore_n (lv' := [(1, .ref q1), (0, .ref b)]) hx hb dL_law_22 rfl hl (by decide) rfl (fun ls hl => ?_)
  refine gm_new (ci := 12) hx hb hts inT_12 tyX12 tyX12_ok hown (hts _ kw_1307) (hts _ kw_1308) (hts _ kw_12) hK hW hS hA rfl (by decide) rfl def_12 (by show _ ≤ 61024; omega) (by show _ ≤ 8913000; omega) dL_law_23 (fun q9 H Y10 M11 h0q9 eY10 eM11 hW hS => ?_)
  replace hf := hf q9 h0q9 Y10 eY10 M11 eM11
  refine lv_dup hx hb dL_law_26 rfl ?_
  refine lv_aload_n hx hb dL_law_27 rfl (lv_at hl 1 rfl) ?_
  refine lv_iconst (v := 0) hx hb dL_law_28 (by decide +kernel) ?_
  refine vp_callSi (W.runS (As := [.ref b, .int 0]) (rest := [.ref q9, .ref q9]) ⟨hx, hb, hml, hown, hts⟩ (m_L_cell l b L xs 0 hL31 (by decide)) (va_cwS 2 hts (good_S kw_391 kw_392 kw_0 kw_393) rfl rfl rfl (by decide +kernel) ⟨Nat.le_of_ble_eq_true rfl, Nat.le_of_ble_eq_true rfl⟩) (cell_pre hX hbl hbA hS) rfl rfl hl.1 rfl (lv_room (Nat.le_of_ble_eq_true rfl)) dL_law_29 ⟨by show _ ≤ 61024; omega, by show _ ≤ 8913000; omega⟩) (fun r12 er12 => ?_)
  subst er12
  refine lv_aload_n hx hb dL_law_32 rfl (lv_at hl 1 rfl) ?_
  refine lv_iconst (v := 1) hx hb dL_law_33 (by decide +kernel) ?_
  refine vp_callSi (W.runS (As := [.ref b, .int 1]) (rest := [.int (sc_at L xs 0), .ref q9, .ref q9]) ⟨hx, hb, hml, hown, hts⟩ (m_L_cell l b L xs 1 hL31 (by decide)) (va_cwS 2 hts (good_S kw_391 kw_392 kw_0 kw_393) rfl rfl rfl (by decide +kernel) ⟨Nat.le_of_ble_eq_true rfl, Nat.le_of_ble_eq_true rfl⟩) (cell_pre hX hbl hbA hS) rfl rfl hl.1 rfl (lv_room (Nat.le_of_ble_eq_true rfl)) dL_law_34 ⟨by show _ ≤ 61024; omega, by show _ ≤ 8913000; omega⟩) (fun r13 er13 => ?_)
  subst er13
  refine lv_aload_n hx hb dL_law_37 rfl (lv_at hl 1 rfl) ?_
  refine lv_iconst (v := 2) hx hb dL_law_38 (by decide +kernel) ?_
  refine vp_callSi (W.runS (As := [.ref b, .int 2]) (rest := [.int (sc_at L xs 1), .int (sc_at L xs 0), .ref q9, .ref q9]) ⟨hx, hb, hml, hown, hts⟩ (m_L_cell l b L xs 2 hL31 (by decide)) (va_cwS 2 hts (good_S kw_391 kw_392 kw_0 kw_393) rfl rfl rfl (by decide +kernel) ⟨Nat.le_of_ble_eq_true rfl, Nat.le_of_ble_eq_true rfl⟩) (cell_pre hX hbl hbA hS) rfl rfl hl.1 rfl (lv_room (Nat.le_of_ble_eq_true rfl)) dL_law_39 ⟨by show _ ≤ 61024; omega, by show _ ≤ 8913000; omega⟩) (fun r14 er14 => ?_)
  subst er14
  refine gm_ca (va_runI (As := [.int (sc_at L xs 0), .int (sc_at L xs 1), .int (sc_at L xs 2)]) (rest := [.ref q9]) ⟨hx, hb, hml, hown, hts⟩ (m_X12_init l D cy tq _ Y10 _ _ _ _ _ _) (cwI 3 hts (good_C kw_1311) rfl rfl rfl (hts _ kw_12) (hts _ kw_1309) (hts _ kw_1310) rfl (by decide +kernel) ⟨Nat.le_of_ble_eq_true rfl, Nat.le_of_ble_eq_true rfl⟩) (gm_preS hK hW hC hS hA hf) rfl rfl hl.1 rfl (lv_room (Nat.le_of_ble_eq_true rfl)) dL_law_42 ⟨by show _ ≤ 61024; omega, by show _ ≤ 8913000; omega⟩) hW hS hA (fun Y15 M16 H locs hW hS hf => ?_)
  refine lv_astore_n (lv' := [(2, .ref q9), (1, .ref q1), (0, .ref b)]) hx hb dL_law_45 rfl hl (by decide) rfl (fun ls hl => ?_)
  refine lv_iconst (v := 1) hx hb dL_law_46 (by decide +kernel) ?_
  refine gm_newl hx hb (hts _ kw_1452) hK hW hS hA (n := 1) 1 (by decide +kernel) (by decide +kernel) (Nat.le_refl _) (by decide) (by show _ ≤ 61024; omega) (by show _ ≤ 8913000; omega) dL_law_47 (fun q17 H Y18 M19 h0q17 eY18 eM19 hW hS => ?_)
  replace hf := hf q17 h0q17 Y18 eY18 M19 eM19
  refine lv_astore_n (lv' := [(3, .ref q17), (2, .ref q9), (1, .ref q1), (0, .ref b)]) hx hb dL_law_49 rfl hl (by decide) rfl (fun ls hl => ?_)
  refine lv_iconst (v := 3) hx hb dL_law_50 (by decide +kernel) ?_
  refine lv_istore (lv' := [(4, .int 3), (3, .ref q17), (2, .ref q9), (1, .ref q1), (0, .ref b)]) hx hb dL_law_51 hl (by decide) rfl (fun ls hl => ?_)
  obtain ⟨n53, hn53, hf⟩ := hf
  have lp53 : ∀ (n53 : Nat) (x20 : Int32) (M21 : Mm) (H : Heap) (locs : List Loc) (ls : Array Slot), n53 ≤ 513 → lv_has ls 8 [(0, .ref b), (1, .ref q1), (2, .ref q9), (3, .ref q17), (4, .int x20)] → Wd D cy A Y18 M21 H → va_S A s.heap H locs → LOOP2 (L_L_law_53 Y18 L xs q1 q9 q17) n53 x20 M21 → W p l e rm_L_law s m #[Value.ref b] below meth c H locs (124 + (513 - n53) * 3) (2232956 + (513 - n53) * 18) (lw_Z below #[Value.ref b] s) (F0 m 53 ls []) := by
    intro n53
    induction n53 with
    | zero => intro x20 M21 H locs ls hn53 hl hW hS hf; exact hf.elim
    | succ n53 ih53 =>
      intro x20 M21 H locs ls hn53 hl hW hS hf
      replace hf : L_L_law_53 Y18 L xs q1 q9 q17 x20 M21 (LOOP2 (L_L_law_53 Y18 L xs q1 q9 q17) n53) := hf
      unfold L_L_law_53 at hf
      refine lv_iload hx hb dL_law_53 (lv_at hl 4 rfl) ?_
      refine lv_aload_n hx hb dL_law_55 rfl (lv_at hl 0 rfl) ?_
      refine va_slen hx hb hX hbl hbA hS dL_law_56 ?_
      refine lv_bipush (v := 9) hx hb dL_law_57 (by decide +kernel) ?_
      refine lv_isub hx hb dL_law_59 ?_
      refine lv_icmp_gt (tgt := 2365) hx hb dL_law_60 (by decide) (fun c22 => ?_) (fun c22 => ?_)
      · replace hf := hf.1 c22
        refine lv_iconst (v := 1) hx hb dL_law_2365 (by decide +kernel) ?_
        refine W.widen (k := 61024) (n := 8913000) (by omega) (by omega) ?_
        refine va_forget (fun q hq => hAl _ (hS.2.2 q hq)) ?_
        exact lw_ret hx hb hr hlocks dL_law_2366
      · replace hf := hf.2 c22
        refine lv_aload_n hx hb dL_law_63 rfl (lv_at hl 0 rfl) ?_
        refine lv_iload hx hb dL_law_64 (lv_at hl 4 rfl) ?_
        obtain ⟨h23, hf⟩ := hf
        refine va_sld hx hb hX hbl hbA hS h23 dL_law_66 ?_
        refine lv_bipush (v := 31) hx hb dL_law_67 (by decide +kernel) ?_
        refine lv_iand hx hb dL_law_69 ?_
        have j2359 : ∀ (M24 : Mm) (H : Heap) (locs : List Loc) (ls : Array Slot), lv_has ls 8 [(0, .ref b), (1, .ref q1), (2, .ref q9), (3, .ref q17), (4, .int x20)] → Wd D cy A Y18 M24 H → va_S A s.heap H locs → f_L_law_2359 Y18 x20 (LOOP2 (L_L_law_53 Y18 L xs q1 q9 q17) n53) M24 → W p l e rm_L_law s m #[Value.ref b] below meth c H locs (124 + (513 - (n53 + 1)) * 3 + 3) (2232956 + (513 - (n53 + 1)) * 18 + 18) (lw_Z below #[Value.ref b] s) (F0 m 2359 ls []) := by
          intro M24 H locs ls hl hW hS hf
          unfold f_L_law_2359 at hf
          obtain ⟨x25, ex25⟩ : ∃ y : Int32, y = x20 + 9 := ⟨_, rfl⟩
          replace hf := hf x25 ex25
          refine lv_iinc (v := x25) (lv' := [(4, .int x25), (0, .ref b), (1, .ref q1), (2, .ref q9), (3, .ref q17)]) hx hb dL_law_2359 hl (k := 4) rfl (by rw [ex25]; rfl) (by decide) rfl (fun ls hl => ?_)
          refine lv_goto (tgt := 53) hx hb dL_law_2362 (by decide) ?_
          refine W.widen (k := 124 + (513 - n53) * 3) (n := 2232956 + (513 - n53) * 18) (by omega) (by omega) ?_
          exact ih53 _ _ _ _ _ (by omega) (lv_sub hl [1, 2, 3, 4, 0] rfl) hW hS hf
        rcases sw_split ((xs x20.toNatClampNeg) &&& 31) 31 (by decide) with c26 | ⟨kc26, hkc26, ec26⟩
        · replace hf := hf.1 c26
          refine lv_tableOut (tgt := 2359) hx hb dL_law_70 (sw_int 31 (by decide) (by decide) c26) (by decide) ?_
          refine W.widen (k := 124 + (513 - (n53 + 1)) * 3 + 3) (n := 2232956 + (513 - (n53 + 1)) * 18 + 18) (by omega) (by omega) ?_
          exact j2359 _ _ _ _ (lv_sub hl [0, 1, 2, 3, 4] rfl) hW hS hf
        · rcases (show kc26 = 0 ∨ kc26 = 1 ∨ kc26 = 2 ∨ kc26 = 3 ∨ kc26 = 4 ∨ kc26 = 5 ∨ kc26 = 6 ∨ kc26 = 7 ∨ kc26 = 8 ∨ kc26 = 9 ∨ kc26 = 10 ∨ kc26 = 11 ∨ kc26 = 12 ∨ kc26 = 13 ∨ kc26 = 14 ∨ kc26 = 15 ∨ kc26 = 16 ∨ kc26 = 17 ∨ kc26 = 18 ∨ kc26 = 19 ∨ kc26 = 20 ∨ kc26 = 21 ∨ kc26 = 22 ∨ kc26 = 23 ∨ kc26 = 24 ∨ kc26 = 25 ∨ kc26 = 26 ∨ kc26 = 27 ∨ kc26 = 28 ∨ kc26 = 29 ∨ kc26 = 30 by omega) with rfl | rfl | rfl | rfl | rfl | rfl | rfl | rfl | rfl | rfl | rfl | rfl | rfl | rfl | rfl | rfl | rfl | rfl | rfl | rfl | rfl | rfl | rfl | rfl | rfl | rfl | rfl | rfl | rfl | rfl | rfl
          · replace hf := hf.2.1 ec26
            refine lv_tableIn (off := 138) (tgt := 208) hx hb dL_law_70 (by rw [ec26]; decide) (by rw [ec26]; decide) (by rw [ec26]; rfl) (by decide) ?_
            refine lv_aload_n hx hb dL_law_208 rfl (lv_at hl 1 rfl) ?_
            refine lv_aload_n hx hb dL_law_209 rfl (lv_at hl 0 rfl) ?_
            refine lv_iload hx hb dL_law_210 (lv_at hl 4 rfl) ?_
            refine lv_iconst (v := 1) hx hb dL_law_212 (by decide +kernel) ?_
            refine lv_iadd hx hb dL_law_213 ?_
            obtain ⟨h27, hf⟩ := hf
            refine va_sld hx hb hX hbl hbA hS h27 dL_law_214 ?_
            refine lv_aload_n hx hb dL_law_215 rfl (lv_at hl 0 rfl) ?_
            refine lv_iload hx hb dL_law_216 (lv_at hl 4 rfl) ?_
            refine lv_iconst (v := 2) hx hb dL_law_218 (by decide +kernel) ?_
            refine lv_iadd hx hb dL_law_219 ?_
            obtain ⟨h28, hf⟩ := hf
            refine va_sld hx hb hX hbl hbA hS h28 dL_law_220 ?_
            refine lv_aload_n hx hb dL_law_221 rfl (lv_at hl 0 rfl) ?_
            refine lv_iload hx hb dL_law_222 (lv_at hl 4 rfl) ?_
            refine lv_iconst (v := 3) hx hb dL_law_224 (by decide +kernel) ?_
            refine lv_iadd hx hb dL_law_225 ?_
            obtain ⟨h29, hf⟩ := hf
            refine va_sld hx hb hX hbl hbA hS h29 dL_law_226 ?_
            refine lv_aload_n hx hb dL_law_227 rfl (lv_at hl 0 rfl) ?_
            refine lv_iload hx hb dL_law_228 (lv_at hl 4 rfl) ?_
            refine lv_iconst (v := 4) hx hb dL_law_230 (by decide +kernel) ?_
            refine lv_iadd hx hb dL_law_231 ?_
            obtain ⟨h30, hf⟩ := hf
            refine va_sld hx hb hX hbl hbA hS h30 dL_law_232 ?_
            refine lv_aload_n hx hb dL_law_233 rfl (lv_at hl 0 rfl) ?_
            refine lv_iload hx hb dL_law_234 (lv_at hl 4 rfl) ?_
            refine lv_iconst (v := 5) hx hb dL_law_236 (by decide +kernel) ?_
            refine lv_iadd hx hb dL_law_237 ?_
            obtain ⟨h31, hf⟩ := hf
            refine va_sld hx hb hX hbl hbA hS h31 dL_law_238 ?_
            refine lv_aload_n hx hb dL_law_239 rfl (lv_at hl 3 rfl) ?_
            refine gm_ci (vx_runSW (As := [.ref q1, .int (xs (x20 + 1).toNatClampNeg), .int (xs (x20 + 2).toNatClampNeg), .int (xs (x20 + 3).toNatClampNeg), .int (xs (x20 + 4).toNatClampNeg), .int (xs (x20 + 5).toNatClampNeg), .ref q17]) (rest := []) ⟨hx, hb, hml, hown, hts⟩ (m_L_feed l hlt D cy tq _ Y18 _ _ _ _ _ _ _ _ _) (vx_cwSW 7 hts (good_SW kw_394 kw_395 kw_0 kw_396) rfl rfl rfl (by decide +kernel) ⟨Nat.le_of_ble_eq_true rfl, Nat.le_of_ble_eq_true rfl⟩) (gm_preS hK hW hC hS hA hf) rfl rfl hl.1 rfl (lv_room (Nat.le_of_ble_eq_true rfl)) dL_law_240 ⟨by show _ ≤ 61024; omega, by show _ ≤ 8913000; omega⟩) hW hS hA (fun r33 M32 H locs hW hS hf => ?_)
            refine lv_istore (lv' := [(5, .int r33), (0, .ref b), (1, .ref q1), (2, .ref q9), (3, .ref q17), (4, .int x20)]) hx hb dL_law_243 hl (by decide) rfl (fun ls hl => ?_)
            refine lv_aload_n hx hb dL_law_245 rfl (lv_at hl 3 rfl) ?_
            refine lv_aload_n hx hb dL_law_246 rfl (lv_at hl 1 rfl) ?_
            refine lv_iload hx hb dL_law_247 (lv_at hl 5 rfl) ?_
            refine lv_iconst (v := 1) hx hb dL_law_249 (by decide +kernel) ?_
            refine lv_iadd hx hb dL_law_250 ?_
            obtain ⟨h34, hf⟩ := hf
            refine va_sld hx hb hX hbl hbA hS h34 dL_law_251 ?_
            refine lv_aload_n hx hb dL_law_252 rfl (lv_at hl 1 rfl) ?_
            refine lv_iload hx hb dL_law_253 (lv_at hl 5 rfl) ?_
            refine lv_iconst (v := 2) hx hb dL_law_255 (by decide +kernel) ?_
            refine lv_iadd hx hb dL_law_256 ?_
            obtain ⟨h35, hf⟩ := hf
            refine va_sld hx hb hX hbl hbA hS h35 dL_law_257 ?_
            refine lv_aload_n hx hb dL_law_258 rfl (lv_at hl 1 rfl) ?_
            refine lv_iload hx hb dL_law_259 (lv_at hl 5 rfl) ?_
            refine lv_iconst (v := 3) hx hb dL_law_261 (by decide +kernel) ?_
            refine lv_iadd hx hb dL_law_262 ?_
            obtain ⟨h36, hf⟩ := hf
            refine va_sld hx hb hX hbl hbA hS h36 dL_law_263 ?_
            refine lv_aload_n hx hb dL_law_264 rfl (lv_at hl 1 rfl) ?_
            refine lv_iload hx hb dL_law_265 (lv_at hl 5 rfl) ?_
            refine lv_iconst (v := 4) hx hb dL_law_267 (by decide +kernel) ?_
            refine lv_iadd hx hb dL_law_268 ?_
            obtain ⟨h37, hf⟩ := hf
            refine va_sld hx hb hX hbl hbA hS h37 dL_law_269 ?_
            refine lv_aload_n hx hb dL_law_270 rfl (lv_at hl 1 rfl) ?_
            refine lv_iload hx hb dL_law_271 (lv_at hl 5 rfl) ?_
            refine lv_iconst (v := 5) hx hb dL_law_273 (by decide +kernel) ?_
            refine lv_iadd hx hb dL_law_274 ?_
            obtain ⟨h38, hf⟩ := hf
            refine va_sld hx hb hX hbl hbA hS h38 dL_law_275 ?_
            obtain ⟨k41, hf⟩ := hf
            refine gm_ci (va_runV (As := [.int (xs (x20 + 1).toNatClampNeg), .int (xs (x20 + 2).toNatClampNeg), .int (xs (x20 + 3).toNatClampNeg), .int (xs (x20 + 4).toNatClampNeg), .int (xs (x20 + 5).toNatClampNeg)]) (rest := []) ⟨hx, hb, hml, hown, hts⟩ (m_X12_feed l D cy tq _ Y18 _ _ _ _ _ _ _ _) (cwV 5 hts (good_V kw_1458 kw_1459 kw_1460 kw_12 kw_1461) rfl rfl rfl (by decide +kernel) ⟨Nat.le_of_ble_eq_true rfl, Nat.le_of_ble_eq_true rfl⟩) (gm_preV hK hW hC hS hA k41 (by decide) (q := (RX12, TX12, 68)) rfl rfl hf) rfl rfl hl.1 rfl (lv_room (Nat.le_of_ble_eq_true rfl)) dL_law_276 ⟨by show _ ≤ 61024; omega, by show _ ≤ 8913000; omega⟩) hW hS hA (fun r40 M39 H locs hW hS hf => ?_)
            refine lv_istore (lv' := [(6, .int r40), (5, .int r33), (0, .ref b), (1, .ref q1), (2, .ref q9), (3, .ref q17), (4, .int x20)]) hx hb dL_law_279 hl (by decide) rfl (fun ls hl => ?_)
            refine lv_aload_n hx hb dL_law_281 rfl (lv_at hl 4 rfl) ?_
            refine gm_ci (va_runV (As := []) (rest := []) ⟨hx, hb, hml, hown, hts⟩ (m_X12_thrown l D cy tq _ Y18 _ _ _) (cwV 0 hts (good_V kw_1454 kw_1455 kw_1456 kw_12 kw_1457) rfl rfl rfl (by decide +kernel) ⟨Nat.le_of_ble_eq_true rfl, Nat.le_of_ble_eq_true rfl⟩) (gm_preV hK hW hC hS hA k41 (by decide) (q := (RX12, TX12, 68)) rfl rfl hf) rfl rfl hl.1 rfl (lv_room (Nat.le_of_ble_eq_true rfl)) dL_law_282 ⟨by show _ ≤ 61024; omega, by show _ ≤ 8913000; omega⟩) hW hS hA (fun r43 M42 H locs hW hS hf => ?_)
            refine lv_iload hx hb dL_law_285 (lv_at hl 1 rfl) ?_
            refine lv_icmp_eq (tgt := 292) hx hb dL_law_287 (by decide) (fun c44 => ?_) (fun c44 => ?_)
            · replace hf := hf.1 c44
              refine lv_iload hx hb dL_law_292 (lv_at hl 1 rfl) ?_
              have j309 : ∀ (H : Heap) (locs : List Loc) (ls : Array Slot), lv_has ls 8 [(0, .ref b), (1, .ref q1), (2, .ref q9), (3, .ref q17), (4, .int x20)] → Wd D cy A Y18 M42 H → va_S A s.heap H locs → f_L_law_309 Y18 x20 (LOOP2 (L_L_law_53 Y18 L xs q1 q9 q17) n53) M42  → W p l e rm_L_law s m #[Value.ref b] below meth c H locs (124 + (513 - (n53 + 1)) * 3 + 1) (2232956 + (513 - (n53 + 1)) * 18 + 6) (lw_Z below #[Value.ref b] s) (F0 m 309 ls []) := by
                intro  H locs ls hl hW hS hf
                unfold f_L_law_309 at hf
                refine lv_goto (tgt := 2359) hx hb dL_law_309 (by decide) ?_
                refine W.widen (k := 124 + (513 - (n53 + 1)) * 3 + 3) (n := 2232956 + (513 - (n53 + 1)) * 18 + 18) (by omega) (by omega) ?_
                exact j2359 _ _ _ _ (lv_sub hl [0, 1, 2, 3, 4] rfl) hW hS hf
              refine lv_if_ne (tgt := 309) hx hb dL_law_294 (by decide) (fun c45 => ?_) (fun c45 => ?_)
              · replace hf := hf.1 c45
                refine W.widen (k := 124 + (513 - (n53 + 1)) * 3 + 1) (n := 2232956 + (513 - (n53 + 1)) * 18 + 6) (by omega) (by omega) ?_
                exact j309  _ _ _ (lv_sub hl [2, 3, 4, 5, 6] rfl) hW hS hf
              · replace hf := hf.2 c45
                refine lv_aload_n hx hb dL_law_297 rfl (lv_at hl 5 rfl) ?_
                refine lv_iconst (v := 0) hx hb dL_law_298 (by decide +kernel) ?_
                obtain ⟨k46, hf⟩ := hf
                obtain ⟨h47, hf⟩ := hf
                refine gm_lald hx hb hK hW k46 h47 dL_law_299 ?_
                refine lv_iload hx hb dL_law_300 (lv_at hl 0 rfl) ?_
                refine lv_i2l hx hb dL_law_302 rfl ?_
                refine W.lcmp hx hb dL_law_303 ?_
                refine lv_if_eq (tgt := 309) hx hb dL_law_304 (by decide) (fun c48 => ?_) (fun c48 => ?_)
                · replace hf := hf.1 (lg_eq.mp c48)
                  refine W.widen (k := 124 + (513 - (n53 + 1)) * 3 + 1) (n := 2232956 + (513 - (n53 + 1)) * 18 + 6) (by omega) (by omega) ?_
                  exact j309  _ _ _ (lv_sub hl [2, 3, 4, 5, 6] rfl) hW hS hf
                · replace hf := hf.2 (fun z => c48 (lg_eq.mpr z))
                  refine lv_iconst (v := 0) hx hb dL_law_307 (by decide +kernel) ?_
                  exact hf.elim
            · replace hf := hf.2 c44
              refine lv_iconst (v := 0) hx hb dL_law_290 (by decide +kernel) ?_
              exact hf.elim
          · replace hf := hf.2.2.1 ec26
            refine lv_tableIn (off := 242) (tgt := 312) hx hb dL_law_70 (by rw [ec26]; decide) (by rw [ec26]; decide) (by rw [ec26]; rfl) (by decide) ?_
            refine lv_aload_n hx hb dL_law_312 rfl (lv_at hl 1 rfl) ?_
            refine lv_aload_n hx hb dL_law_313 rfl (lv_at hl 0 rfl) ?_
            refine lv_iload hx hb dL_law_314 (lv_at hl 4 rfl) ?_
            refine lv_iconst (v := 1) hx hb dL_law_316 (by decide +kernel) ?_
            refine lv_iadd hx hb dL_law_317 ?_
            obtain ⟨h49, hf⟩ := hf
            refine va_sld hx hb hX hbl hbA hS h49 dL_law_318 ?_
            refine lv_aload_n hx hb dL_law_319 rfl (lv_at hl 3 rfl) ?_
            refine gm_ci (vx_runSW (As := [.ref q1, .int (xs (x20 + 1).toNatClampNeg), .ref q17]) (rest := []) ⟨hx, hb, hml, hown, hts⟩ (m_L_trim l hlt D cy tq _ Y18 _ _ _ _ _) (vx_cwSW 3 hts (good_SW kw_452 kw_453 kw_0 kw_454) rfl rfl rfl (by decide +kernel) ⟨Nat.le_of_ble_eq_true rfl, Nat.le_of_ble_eq_true rfl⟩) (gm_preS hK hW hC hS hA hf) rfl rfl hl.1 rfl (lv_room (Nat.le_of_ble_eq_true rfl)) dL_law_320 ⟨by show _ ≤ 61024; omega, by show _ ≤ 8913000; omega⟩) hW hS hA (fun r51 M50 H locs hW hS hf => ?_)
            refine lv_istore (lv' := [(5, .int r51), (0, .ref b), (1, .ref q1), (2, .ref q9), (3, .ref q17), (4, .int x20)]) hx hb dL_law_323 hl (by decide) rfl (fun ls hl => ?_)
            refine lv_aload_n hx hb dL_law_325 rfl (lv_at hl 3 rfl) ?_
            refine lv_aload_n hx hb dL_law_326 rfl (lv_at hl 1 rfl) ?_
            refine lv_iload hx hb dL_law_327 (lv_at hl 5 rfl) ?_
            refine lv_iconst (v := 1) hx hb dL_law_329 (by decide +kernel) ?_
            refine lv_iadd hx hb dL_law_330 ?_
            obtain ⟨h52, hf⟩ := hf
            refine va_sld hx hb hX hbl hbA hS h52 dL_law_331 ?_
            obtain ⟨k55, hf⟩ := hf
            refine gm_ci (va_runV (As := [.int (xs (x20 + 1).toNatClampNeg)]) (rest := []) ⟨hx, hb, hml, hown, hts⟩ (m_X12_trim l D cy tq _ Y18 _ _ _ _) (cwV 1 hts (good_V kw_1465 kw_1466 kw_1467 kw_12 kw_1468) rfl rfl rfl (by decide +kernel) ⟨Nat.le_of_ble_eq_true rfl, Nat.le_of_ble_eq_true rfl⟩) (gm_preV hK hW hC hS hA k55 (by decide) (q := (RX12, TX12, 68)) rfl rfl hf) rfl rfl hl.1 rfl (lv_room (Nat.le_of_ble_eq_true rfl)) dL_law_332 ⟨by show _ ≤ 61024; omega, by show _ ≤ 8913000; omega⟩) hW hS hA (fun r54 M53 H locs hW hS hf => ?_)
            refine lv_istore (lv' := [(6, .int r54), (5, .int r51), (0, .ref b), (1, .ref q1), (2, .ref q9), (3, .ref q17), (4, .int x20)]) hx hb dL_law_335 hl (by decide) rfl (fun ls hl => ?_)
            refine lv_aload_n hx hb dL_law_337 rfl (lv_at hl 4 rfl) ?_
            refine gm_ci (va_runV (As := []) (rest := []) ⟨hx, hb, hml, hown, hts⟩ (m_X12_thrown l D cy tq _ Y18 _ _ _) (cwV 0 hts (good_V kw_1454 kw_1455 kw_1456 kw_12 kw_1457) rfl rfl rfl (by decide +kernel) ⟨Nat.le_of_ble_eq_true rfl, Nat.le_of_ble_eq_true rfl⟩) (gm_preV hK hW hC hS hA k55 (by decide) (q := (RX12, TX12, 68)) rfl rfl hf) rfl rfl hl.1 rfl (lv_room (Nat.le_of_ble_eq_true rfl)) dL_law_338 ⟨by show _ ≤ 61024; omega, by show _ ≤ 8913000; omega⟩) hW hS hA (fun r57 M56 H locs hW hS hf => ?_)
            refine lv_iload hx hb dL_law_341 (lv_at hl 1 rfl) ?_
            refine lv_icmp_eq (tgt := 348) hx hb dL_law_343 (by decide) (fun c58 => ?_) (fun c58 => ?_)
            · replace hf := hf.1 c58
              refine lv_iload hx hb dL_law_348 (lv_at hl 1 rfl) ?_
              have j365 : ∀ (H : Heap) (locs : List Loc) (ls : Array Slot), lv_has ls 8 [(0, .ref b), (1, .ref q1), (2, .ref q9), (3, .ref q17), (4, .int x20)] → Wd D cy A Y18 M56 H → va_S A s.heap H locs → f_L_law_365 Y18 x20 (LOOP2 (L_L_law_53 Y18 L xs q1 q9 q17) n53) M56  → W p l e rm_L_law s m #[Value.ref b] below meth c H locs (124 + (513 - (n53 + 1)) * 3 + 1) (2232956 + (513 - (n53 + 1)) * 18 + 6) (lw_Z below #[Value.ref b] s) (F0 m 365 ls []) := by
                intro  H locs ls hl hW hS hf
                unfold f_L_law_365 at hf
                refine lv_goto (tgt := 2359) hx hb dL_law_365 (by decide) ?_
                refine W.widen (k := 124 + (513 - (n53 + 1)) * 3 + 3) (n := 2232956 + (513 - (n53 + 1)) * 18 + 18) (by omega) (by omega) ?_
                exact j2359 _ _ _ _ (lv_sub hl [0, 1, 2, 3, 4] rfl) hW hS hf
              refine lv_if_ne (tgt := 365) hx hb dL_law_350 (by decide) (fun c59 => ?_) (fun c59 => ?_)
              · replace hf := hf.1 c59
                refine W.widen (k := 124 + (513 - (n53 + 1)) * 3 + 1) (n := 2232956 + (513 - (n53 + 1)) * 18 + 6) (by omega) (by omega) ?_
                exact j365  _ _ _ (lv_sub hl [2, 3, 4, 5, 6] rfl) hW hS hf
              · replace hf := hf.2 c59
                refine lv_aload_n hx hb dL_law_353 rfl (lv_at hl 5 rfl) ?_
                refine lv_iconst (v := 0) hx hb dL_law_354 (by decide +kernel) ?_
                obtain ⟨k60, hf⟩ := hf
                obtain ⟨h61, hf⟩ := hf
                refine gm_lald hx hb hK hW k60 h61 dL_law_355 ?_
                refine lv_iload hx hb dL_law_356 (lv_at hl 0 rfl) ?_
                refine lv_i2l hx hb dL_law_358 rfl ?_
                refine W.lcmp hx hb dL_law_359 ?_
                refine lv_if_eq (tgt := 365) hx hb dL_law_360 (by decide) (fun c62 => ?_) (fun c62 => ?_)
                · replace hf := hf.1 (lg_eq.mp c62)
                  refine W.widen (k := 124 + (513 - (n53 + 1)) * 3 + 1) (n := 2232956 + (513 - (n53 + 1)) * 18 + 6) (by omega) (by omega) ?_
                  exact j365  _ _ _ (lv_sub hl [2, 3, 4, 5, 6] rfl) hW hS hf
                · replace hf := hf.2 (fun z => c62 (lg_eq.mpr z))
                  refine lv_iconst (v := 0) hx hb dL_law_363 (by decide +kernel) ?_
                  exact hf.elim
            · replace hf := hf.2 c58
              refine lv_iconst (v := 0) hx hb dL_law_346 (by decide +kernel) ?_
              exact hf.elim
          · replace hf := hf.2.2.2.1 ec26
            refine lv_tableIn (off := 298) (tgt := 368) hx hb dL_law_70 (by rw [ec26]; decide) (by rw [ec26]; decide) (by rw [ec26]; rfl) (by decide) ?_
            refine lv_aload_n hx hb dL_law_368 rfl (lv_at hl 1 rfl) ?_
            refine lv_aload_n hx hb dL_law_369 rfl (lv_at hl 0 rfl) ?_
            refine lv_iload hx hb dL_law_370 (lv_at hl 4 rfl) ?_
            refine lv_iconst (v := 1) hx hb dL_law_372 (by decide +kernel) ?_
            refine lv_iadd hx hb dL_law_373 ?_
            obtain ⟨h63, hf⟩ := hf
            refine va_sld hx hb hX hbl hbA hS h63 dL_law_374 ?_
            refine lv_aload_n hx hb dL_law_375 rfl (lv_at hl 0 rfl) ?_
            refine lv_iload hx hb dL_law_376 (lv_at hl 4 rfl) ?_
            refine lv_iconst (v := 2) hx hb dL_law_378 (by decide +kernel) ?_
            refine lv_iadd hx hb dL_law_379 ?_
            obtain ⟨h64, hf⟩ := hf
            refine va_sld hx hb hX hbl hbA hS h64 dL_law_380 ?_
            refine lv_aload_n hx hb dL_law_381 rfl (lv_at hl 3 rfl) ?_
            refine gm_ci (vx_runSW (As := [.ref q1, .int (xs (x20 + 1).toNatClampNeg), .int (xs (x20 + 2).toNatClampNeg), .ref q17]) (rest := []) ⟨hx, hb, hml, hown, hts⟩ (m_L_spoil l hlt D cy tq _ Y18 _ _ _ _ _ _) (vx_cwSW 4 hts (good_SW kw_479 kw_480 kw_0 kw_481) rfl rfl rfl (by decide +kernel) ⟨Nat.le_of_ble_eq_true rfl, Nat.le_of_ble_eq_true rfl⟩) (gm_preS hK hW hC hS hA hf) rfl rfl hl.1 rfl (lv_room (Nat.le_of_ble_eq_true rfl)) dL_law_382 ⟨by show _ ≤ 61024; omega, by show _ ≤ 8913000; omega⟩) hW hS hA (fun r66 M65 H locs hW hS hf => ?_)
            refine lv_istore (lv' := [(5, .int r66), (0, .ref b), (1, .ref q1), (2, .ref q9), (3, .ref q17), (4, .int x20)]) hx hb dL_law_385 hl (by decide) rfl (fun ls hl => ?_)
            refine lv_aload_n hx hb dL_law_387 rfl (lv_at hl 3 rfl) ?_
            refine lv_aload_n hx hb dL_law_388 rfl (lv_at hl 1 rfl) ?_
            refine lv_iload hx hb dL_law_389 (lv_at hl 5 rfl) ?_
            refine lv_iconst (v := 1) hx hb dL_law_391 (by decide +kernel) ?_
            refine lv_iadd hx hb dL_law_392 ?_
            obtain ⟨h67, hf⟩ := hf
            refine va_sld hx hb hX hbl hbA hS h67 dL_law_393 ?_
            refine lv_aload_n hx hb dL_law_394 rfl (lv_at hl 1 rfl) ?_
            refine lv_iload hx hb dL_law_395 (lv_at hl 5 rfl) ?_
            refine lv_iconst (v := 2) hx hb dL_law_397 (by decide +kernel) ?_
            refine lv_iadd hx hb dL_law_398 ?_
            obtain ⟨h68, hf⟩ := hf
            refine va_sld hx hb hX hbl hbA hS h68 dL_law_399 ?_
            obtain ⟨k71, hf⟩ := hf
            refine gm_ci (va_runV (As := [.int (xs (x20 + 1).toNatClampNeg), .int (xs (x20 + 2).toNatClampNeg)]) (rest := []) ⟨hx, hb, hml, hown, hts⟩ (m_X12_spoil l D cy tq _ Y18 _ _ _ _ _) (cwV 2 hts (good_V kw_1469 kw_1470 kw_1471 kw_12 kw_1472) rfl rfl rfl (by decide +kernel) ⟨Nat.le_of_ble_eq_true rfl, Nat.le_of_ble_eq_true rfl⟩) (gm_preV hK hW hC hS hA k71 (by decide) (q := (RX12, TX12, 68)) rfl rfl hf) rfl rfl hl.1 rfl (lv_room (Nat.le_of_ble_eq_true rfl)) dL_law_400 ⟨by show _ ≤ 61024; omega, by show _ ≤ 8913000; omega⟩) hW hS hA (fun r70 M69 H locs hW hS hf => ?_)
            refine lv_istore (lv' := [(6, .int r70), (5, .int r66), (0, .ref b), (1, .ref q1), (2, .ref q9), (3, .ref q17), (4, .int x20)]) hx hb dL_law_403 hl (by decide) rfl (fun ls hl => ?_)
            refine lv_aload_n hx hb dL_law_405 rfl (lv_at hl 4 rfl) ?_
            refine gm_ci (va_runV (As := []) (rest := []) ⟨hx, hb, hml, hown, hts⟩ (m_X12_thrown l D cy tq _ Y18 _ _ _) (cwV 0 hts (good_V kw_1454 kw_1455 kw_1456 kw_12 kw_1457) rfl rfl rfl (by decide +kernel) ⟨Nat.le_of_ble_eq_true rfl, Nat.le_of_ble_eq_true rfl⟩) (gm_preV hK hW hC hS hA k71 (by decide) (q := (RX12, TX12, 68)) rfl rfl hf) rfl rfl hl.1 rfl (lv_room (Nat.le_of_ble_eq_true rfl)) dL_law_406 ⟨by show _ ≤ 61024; omega, by show _ ≤ 8913000; omega⟩) hW hS hA (fun r73 M72 H locs hW hS hf => ?_)
            refine lv_iload hx hb dL_law_409 (lv_at hl 1 rfl) ?_
            refine lv_icmp_eq (tgt := 416) hx hb dL_law_411 (by decide) (fun c74 => ?_) (fun c74 => ?_)
            · replace hf := hf.1 c74
              refine lv_iload hx hb dL_law_416 (lv_at hl 1 rfl) ?_
              have j433 : ∀ (H : Heap) (locs : List Loc) (ls : Array Slot), lv_has ls 8 [(0, .ref b), (1, .ref q1), (2, .ref q9), (3, .ref q17), (4, .int x20)] → Wd D cy A Y18 M72 H → va_S A s.heap H locs → f_L_law_433 Y18 x20 (LOOP2 (L_L_law_53 Y18 L xs q1 q9 q17) n53) M72  → W p l e rm_L_law s m #[Value.ref b] below meth c H locs (124 + (513 - (n53 + 1)) * 3 + 1) (2232956 + (513 - (n53 + 1)) * 18 + 6) (lw_Z below #[Value.ref b] s) (F0 m 433 ls []) := by
                intro  H locs ls hl hW hS hf
                unfold f_L_law_433 at hf
                refine lv_goto (tgt := 2359) hx hb dL_law_433 (by decide) ?_
                refine W.widen (k := 124 + (513 - (n53 + 1)) * 3 + 3) (n := 2232956 + (513 - (n53 + 1)) * 18 + 18) (by omega) (by omega) ?_
                exact j2359 _ _ _ _ (lv_sub hl [0, 1, 2, 3, 4] rfl) hW hS hf
              refine lv_if_ne (tgt := 433) hx hb dL_law_418 (by decide) (fun c75 => ?_) (fun c75 => ?_)
              · replace hf := hf.1 c75
                refine W.widen (k := 124 + (513 - (n53 + 1)) * 3 + 1) (n := 2232956 + (513 - (n53 + 1)) * 18 + 6) (by omega) (by omega) ?_
                exact j433  _ _ _ (lv_sub hl [2, 3, 4, 5, 6] rfl) hW hS hf
              · replace hf := hf.2 c75
                refine lv_aload_n hx hb dL_law_421 rfl (lv_at hl 5 rfl) ?_
                refine lv_iconst (v := 0) hx hb dL_law_422 (by decide +kernel) ?_
                obtain ⟨k76, hf⟩ := hf
                obtain ⟨h77, hf⟩ := hf
                refine gm_lald hx hb hK hW k76 h77 dL_law_423 ?_
                refine lv_iload hx hb dL_law_424 (lv_at hl 0 rfl) ?_
                refine lv_i2l hx hb dL_law_426 rfl ?_
                refine W.lcmp hx hb dL_law_427 ?_
                refine lv_if_eq (tgt := 433) hx hb dL_law_428 (by decide) (fun c78 => ?_) (fun c78 => ?_)
                · replace hf := hf.1 (lg_eq.mp c78)
                  refine W.widen (k := 124 + (513 - (n53 + 1)) * 3 + 1) (n := 2232956 + (513 - (n53 + 1)) * 18 + 6) (by omega) (by omega) ?_
                  exact j433  _ _ _ (lv_sub hl [2, 3, 4, 5, 6] rfl) hW hS hf
                · replace hf := hf.2 (fun z => c78 (lg_eq.mpr z))
                  refine lv_iconst (v := 0) hx hb dL_law_431 (by decide +kernel) ?_
                  exact hf.elim
            · replace hf := hf.2 c74
              refine lv_iconst (v := 0) hx hb dL_law_414 (by decide +kernel) ?_
              exact hf.elim
          · replace hf := hf.2.2.2.2.1 ec26
            refine lv_tableIn (off := 366) (tgt := 436) hx hb dL_law_70 (by rw [ec26]; decide) (by rw [ec26]; decide) (by rw [ec26]; rfl) (by decide) ?_
            refine lv_aload_n hx hb dL_law_436 rfl (lv_at hl 1 rfl) ?_
            refine lv_aload_n hx hb dL_law_437 rfl (lv_at hl 0 rfl) ?_
            refine lv_iload hx hb dL_law_438 (lv_at hl 4 rfl) ?_
            refine lv_iconst (v := 1) hx hb dL_law_440 (by decide +kernel) ?_
            refine lv_iadd hx hb dL_law_441 ?_
            obtain ⟨h79, hf⟩ := hf
            refine va_sld hx hb hX hbl hbA hS h79 dL_law_442 ?_
            refine lv_aload_n hx hb dL_law_443 rfl (lv_at hl 0 rfl) ?_
            refine lv_iload hx hb dL_law_444 (lv_at hl 4 rfl) ?_
            refine lv_iconst (v := 2) hx hb dL_law_446 (by decide +kernel) ?_
            refine lv_iadd hx hb dL_law_447 ?_
            obtain ⟨h80, hf⟩ := hf
            refine va_sld hx hb hX hbl hbA hS h80 dL_law_448 ?_
            refine lv_i2l hx hb dL_law_449 rfl ?_
            refine lv_bipush (v := 32) hx hb dL_law_450 (by decide +kernel) ?_
            refine lv_lshl hx hb dL_law_452 rfl ?_
            refine lv_aload_n hx hb dL_law_453 rfl (lv_at hl 0 rfl) ?_
            refine lv_iload hx hb dL_law_454 (lv_at hl 4 rfl) ?_
            refine lv_iconst (v := 3) hx hb dL_law_456 (by decide +kernel) ?_
            refine lv_iadd hx hb dL_law_457 ?_
            obtain ⟨h81, hf⟩ := hf
            refine va_sld hx hb hX hbl hbA hS h81 dL_law_458 ?_
            refine lv_i2l hx hb dL_law_459 rfl ?_
            refine lv_ldc2 (v := 4294967295) hx hb hown (hts _ kw_1784) dL_law_460 ?_
            refine lv_land hx hb dL_law_463 ?_
            refine lv_lor hx hb dL_law_464 ?_
            refine lv_aload_n hx hb dL_law_465 rfl (lv_at hl 0 rfl) ?_
            refine lv_iload hx hb dL_law_466 (lv_at hl 4 rfl) ?_
            refine lv_iconst (v := 4) hx hb dL_law_468 (by decide +kernel) ?_
            refine lv_iadd hx hb dL_law_469 ?_
            obtain ⟨h82, hf⟩ := hf
            refine va_sld hx hb hX hbl hbA hS h82 dL_law_470 ?_
            refine lv_aload_n hx hb dL_law_471 rfl (lv_at hl 0 rfl) ?_
            refine lv_iload hx hb dL_law_472 (lv_at hl 4 rfl) ?_
            refine lv_iconst (v := 5) hx hb dL_law_474 (by decide +kernel) ?_
            refine lv_iadd hx hb dL_law_475 ?_
            obtain ⟨h83, hf⟩ := hf
            refine va_sld hx hb hX hbl hbA hS h83 dL_law_476 ?_
            refine lv_i2l hx hb dL_law_477 rfl ?_
            refine lv_bipush (v := 32) hx hb dL_law_478 (by decide +kernel) ?_
            refine lv_lshl hx hb dL_law_480 rfl ?_
            refine lv_aload_n hx hb dL_law_481 rfl (lv_at hl 0 rfl) ?_
            refine lv_iload hx hb dL_law_482 (lv_at hl 4 rfl) ?_
            refine lv_bipush (v := 6) hx hb dL_law_484 (by decide +kernel) ?_
            refine lv_iadd hx hb dL_law_486 ?_
            obtain ⟨h84, hf⟩ := hf
            refine va_sld hx hb hX hbl hbA hS h84 dL_law_487 ?_
            refine lv_i2l hx hb dL_law_488 rfl ?_
            refine lv_ldc2 (v := 4294967295) hx hb hown (hts _ kw_1784) dL_law_489 ?_
            refine lv_land hx hb dL_law_492 ?_
            refine lv_lor hx hb dL_law_493 ?_
            refine lv_aload_n hx hb dL_law_494 rfl (lv_at hl 0 rfl) ?_
            refine lv_iload hx hb dL_law_495 (lv_at hl 4 rfl) ?_
            refine lv_bipush (v := 7) hx hb dL_law_497 (by decide +kernel) ?_
            refine lv_iadd hx hb dL_law_499 ?_
            obtain ⟨h85, hf⟩ := hf
            refine va_sld hx hb hX hbl hbA hS h85 dL_law_500 ?_
            refine lv_aload_n hx hb dL_law_501 rfl (lv_at hl 0 rfl) ?_
            refine lv_iload hx hb dL_law_502 (lv_at hl 4 rfl) ?_
            refine lv_bipush (v := 8) hx hb dL_law_504 (by decide +kernel) ?_
            refine lv_iadd hx hb dL_law_506 ?_
            obtain ⟨h86, hf⟩ := hf
            refine va_sld hx hb hX hbl hbA hS h86 dL_law_507 ?_
            refine lv_aload_n hx hb dL_law_508 rfl (lv_at hl 3 rfl) ?_
            refine gm_ci (vx_runSW (As := [.ref q1, .int (xs (x20 + 1).toNatClampNeg), .long ((((xs (x20 + 2).toNatClampNeg).toInt64) <<< ((32 : Int32).toInt64 &&& 63)) ||| (((xs (x20 + 3).toNatClampNeg).toInt64) &&& 4294967295)), .int (xs (x20 + 4).toNatClampNeg), .long ((((xs (x20 + 5).toNatClampNeg).toInt64) <<< ((32 : Int32).toInt64 &&& 63)) ||| (((xs (x20 + 6).toNatClampNeg).toInt64) &&& 4294967295)), .int (xs (x20 + 7).toNatClampNeg), .int (xs (x20 + 8).toNatClampNeg), .ref q17]) (rest := []) ⟨hx, hb, hml, hown, hts⟩ (m_L_record l hlt D cy tq _ Y18 _ _ _ _ _ _ _ _ _ _) (vx_cwSW 8 hts (good_SW kw_487 kw_488 kw_0 kw_489) rfl rfl rfl (by decide +kernel) ⟨Nat.le_of_ble_eq_true rfl, Nat.le_of_ble_eq_true rfl⟩) (gm_preS hK hW hC hS hA hf) rfl rfl hl.1 rfl (lv_room (Nat.le_of_ble_eq_true rfl)) dL_law_509 ⟨by show _ ≤ 61024; omega, by show _ ≤ 8913000; omega⟩) hW hS hA (fun r88 M87 H locs hW hS hf => ?_)
            refine lv_istore (lv' := [(5, .int r88), (0, .ref b), (1, .ref q1), (2, .ref q9), (3, .ref q17), (4, .int x20)]) hx hb dL_law_512 hl (by decide) rfl (fun ls hl => ?_)
            refine lv_aload_n hx hb dL_law_514 rfl (lv_at hl 3 rfl) ?_
            refine lv_aload_n hx hb dL_law_515 rfl (lv_at hl 1 rfl) ?_
            refine lv_iload hx hb dL_law_516 (lv_at hl 5 rfl) ?_
            refine lv_iconst (v := 1) hx hb dL_law_518 (by decide +kernel) ?_
            refine lv_iadd hx hb dL_law_519 ?_
            obtain ⟨h89, hf⟩ := hf
            refine va_sld hx hb hX hbl hbA hS h89 dL_law_520 ?_
            refine lv_aload_n hx hb dL_law_521 rfl (lv_at hl 1 rfl) ?_
            refine lv_iload hx hb dL_law_522 (lv_at hl 5 rfl) ?_
            refine lv_iconst (v := 2) hx hb dL_law_524 (by decide +kernel) ?_
            refine lv_iadd hx hb dL_law_525 ?_
            obtain ⟨h90, hf⟩ := hf
            refine va_sld hx hb hX hbl hbA hS h90 dL_law_526 ?_
            refine lv_i2l hx hb dL_law_527 rfl ?_
            refine lv_bipush (v := 32) hx hb dL_law_528 (by decide +kernel) ?_
            refine lv_lshl hx hb dL_law_530 rfl ?_
            refine lv_aload_n hx hb dL_law_531 rfl (lv_at hl 1 rfl) ?_
            refine lv_iload hx hb dL_law_532 (lv_at hl 5 rfl) ?_
            refine lv_iconst (v := 3) hx hb dL_law_534 (by decide +kernel) ?_
            refine lv_iadd hx hb dL_law_535 ?_
            obtain ⟨h91, hf⟩ := hf
            refine va_sld hx hb hX hbl hbA hS h91 dL_law_536 ?_
            refine lv_i2l hx hb dL_law_537 rfl ?_
            refine lv_ldc2 (v := 4294967295) hx hb hown (hts _ kw_1784) dL_law_538 ?_
            refine lv_land hx hb dL_law_541 ?_
            refine lv_lor hx hb dL_law_542 ?_
            refine lv_aload_n hx hb dL_law_543 rfl (lv_at hl 1 rfl) ?_
            refine lv_iload hx hb dL_law_544 (lv_at hl 5 rfl) ?_
            refine lv_iconst (v := 4) hx hb dL_law_546 (by decide +kernel) ?_
            refine lv_iadd hx hb dL_law_547 ?_
            obtain ⟨h92, hf⟩ := hf
            refine va_sld hx hb hX hbl hbA hS h92 dL_law_548 ?_
            refine lv_aload_n hx hb dL_law_549 rfl (lv_at hl 1 rfl) ?_
            refine lv_iload hx hb dL_law_550 (lv_at hl 5 rfl) ?_
            refine lv_iconst (v := 5) hx hb dL_law_552 (by decide +kernel) ?_
            refine lv_iadd hx hb dL_law_553 ?_
            obtain ⟨h93, hf⟩ := hf
            refine va_sld hx hb hX hbl hbA hS h93 dL_law_554 ?_
            refine lv_i2l hx hb dL_law_555 rfl ?_
            refine lv_bipush (v := 32) hx hb dL_law_556 (by decide +kernel) ?_
            refine lv_lshl hx hb dL_law_558 rfl ?_
            refine lv_aload_n hx hb dL_law_559 rfl (lv_at hl 1 rfl) ?_
            refine lv_iload hx hb dL_law_560 (lv_at hl 5 rfl) ?_
            refine lv_bipush (v := 6) hx hb dL_law_562 (by decide +kernel) ?_
            refine lv_iadd hx hb dL_law_564 ?_
            obtain ⟨h94, hf⟩ := hf
            refine va_sld hx hb hX hbl hbA hS h94 dL_law_565 ?_
            refine lv_i2l hx hb dL_law_566 rfl ?_
            refine lv_ldc2 (v := 4294967295) hx hb hown (hts _ kw_1784) dL_law_567 ?_
            refine lv_land hx hb dL_law_570 ?_
            refine lv_lor hx hb dL_law_571 ?_
            refine lv_aload_n hx hb dL_law_572 rfl (lv_at hl 1 rfl) ?_
            refine lv_iload hx hb dL_law_573 (lv_at hl 5 rfl) ?_
            refine lv_bipush (v := 7) hx hb dL_law_575 (by decide +kernel) ?_
            refine lv_iadd hx hb dL_law_577 ?_
            obtain ⟨h95, hf⟩ := hf
            refine va_sld hx hb hX hbl hbA hS h95 dL_law_578 ?_
            refine lv_aload_n hx hb dL_law_579 rfl (lv_at hl 1 rfl) ?_
            refine lv_iload hx hb dL_law_580 (lv_at hl 5 rfl) ?_
            refine lv_bipush (v := 8) hx hb dL_law_582 (by decide +kernel) ?_
            refine lv_iadd hx hb dL_law_584 ?_
            obtain ⟨h96, hf⟩ := hf
            refine va_sld hx hb hX hbl hbA hS h96 dL_law_585 ?_
            obtain ⟨k99, hf⟩ := hf
            refine gm_ci (va_runV (As := [.int (xs (x20 + 1).toNatClampNeg), .long ((((xs (x20 + 2).toNatClampNeg).toInt64) <<< ((32 : Int32).toInt64 &&& 63)) ||| (((xs (x20 + 3).toNatClampNeg).toInt64) &&& 4294967295)), .int (xs (x20 + 4).toNatClampNeg), .long ((((xs (x20 + 5).toNatClampNeg).toInt64) <<< ((32 : Int32).toInt64 &&& 63)) ||| (((xs (x20 + 6).toNatClampNeg).toInt64) &&& 4294967295)), .int (xs (x20 + 7).toNatClampNeg), .int (xs (x20 + 8).toNatClampNeg)]) (rest := []) ⟨hx, hb, hml, hown, hts⟩ (m_X12_record l D cy tq _ Y18 _ _ _ _ _ _ _ _ _) (cwV 6 hts (good_V kw_1473 kw_1474 kw_1475 kw_12 kw_1476) rfl rfl rfl (by decide +kernel) ⟨Nat.le_of_ble_eq_true rfl, Nat.le_of_ble_eq_true rfl⟩) (gm_preV hK hW hC hS hA k99 (by decide) (q := (RX12, TX12, 68)) rfl rfl hf) rfl rfl hl.1 rfl (lv_room (Nat.le_of_ble_eq_true rfl)) dL_law_586 ⟨by show _ ≤ 61024; omega, by show _ ≤ 8913000; omega⟩) hW hS hA (fun r98 M97 H locs hW hS hf => ?_)
            refine lv_istore (lv' := [(6, .int r98), (5, .int r88), (0, .ref b), (1, .ref q1), (2, .ref q9), (3, .ref q17), (4, .int x20)]) hx hb dL_law_589 hl (by decide) rfl (fun ls hl => ?_)
            refine lv_aload_n hx hb dL_law_591 rfl (lv_at hl 4 rfl) ?_
            refine gm_ci (va_runV (As := []) (rest := []) ⟨hx, hb, hml, hown, hts⟩ (m_X12_thrown l D cy tq _ Y18 _ _ _) (cwV 0 hts (good_V kw_1454 kw_1455 kw_1456 kw_12 kw_1457) rfl rfl rfl (by decide +kernel) ⟨Nat.le_of_ble_eq_true rfl, Nat.le_of_ble_eq_true rfl⟩) (gm_preV hK hW hC hS hA k99 (by decide) (q := (RX12, TX12, 68)) rfl rfl hf) rfl rfl hl.1 rfl (lv_room (Nat.le_of_ble_eq_true rfl)) dL_law_592 ⟨by show _ ≤ 61024; omega, by show _ ≤ 8913000; omega⟩) hW hS hA (fun r101 M100 H locs hW hS hf => ?_)
            refine lv_iload hx hb dL_law_595 (lv_at hl 1 rfl) ?_
            refine lv_icmp_eq (tgt := 602) hx hb dL_law_597 (by decide) (fun c102 => ?_) (fun c102 => ?_)
            · replace hf := hf.1 c102
              refine lv_iload hx hb dL_law_602 (lv_at hl 1 rfl) ?_
              have j619 : ∀ (H : Heap) (locs : List Loc) (ls : Array Slot), lv_has ls 8 [(0, .ref b), (1, .ref q1), (2, .ref q9), (3, .ref q17), (4, .int x20)] → Wd D cy A Y18 M100 H → va_S A s.heap H locs → f_L_law_619 Y18 x20 (LOOP2 (L_L_law_53 Y18 L xs q1 q9 q17) n53) M100  → W p l e rm_L_law s m #[Value.ref b] below meth c H locs (124 + (513 - (n53 + 1)) * 3 + 3) (2232956 + (513 - (n53 + 1)) * 18 + 18) (lw_Z below #[Value.ref b] s) (F0 m 619 ls []) := by
                intro  H locs ls hl hW hS hf
                unfold f_L_law_619 at hf
                refine lv_goto (tgt := 2359) hx hb dL_law_619 (by decide) ?_
                refine W.widen (k := 124 + (513 - (n53 + 1)) * 3 + 3) (n := 2232956 + (513 - (n53 + 1)) * 18 + 18) (by omega) (by omega) ?_
                exact j2359 _ _ _ _ (lv_sub hl [0, 1, 2, 3, 4] rfl) hW hS hf
              refine lv_if_ne (tgt := 619) hx hb dL_law_604 (by decide) (fun c103 => ?_) (fun c103 => ?_)
              · replace hf := hf.1 c103
                refine W.widen (k := 124 + (513 - (n53 + 1)) * 3 + 3) (n := 2232956 + (513 - (n53 + 1)) * 18 + 18) (by omega) (by omega) ?_
                exact j619  _ _ _ (lv_sub hl [2, 3, 4, 5, 6] rfl) hW hS hf
              · replace hf := hf.2 c103
                refine lv_aload_n hx hb dL_law_607 rfl (lv_at hl 5 rfl) ?_
                refine lv_iconst (v := 0) hx hb dL_law_608 (by decide +kernel) ?_
                obtain ⟨k104, hf⟩ := hf
                obtain ⟨h105, hf⟩ := hf
                refine gm_lald hx hb hK hW k104 h105 dL_law_609 ?_
                refine lv_iload hx hb dL_law_610 (lv_at hl 0 rfl) ?_
                refine lv_i2l hx hb dL_law_612 rfl ?_
                refine W.lcmp hx hb dL_law_613 ?_
                refine lv_if_eq (tgt := 619) hx hb dL_law_614 (by decide) (fun c106 => ?_) (fun c106 => ?_)
                · replace hf := hf.1 (lg_eq.mp c106)
                  refine W.widen (k := 124 + (513 - (n53 + 1)) * 3 + 3) (n := 2232956 + (513 - (n53 + 1)) * 18 + 18) (by omega) (by omega) ?_
                  exact j619  _ _ _ (lv_sub hl [2, 3, 4, 5, 6] rfl) hW hS hf
                · replace hf := hf.2 (fun z => c106 (lg_eq.mpr z))
                  refine lv_iconst (v := 0) hx hb dL_law_617 (by decide +kernel) ?_
                  exact hf.elim
            · replace hf := hf.2 c102
              refine lv_iconst (v := 0) hx hb dL_law_600 (by decide +kernel) ?_
              exact hf.elim
          · replace hf := hf.2.2.2.2.2.1 ec26
            refine lv_tableIn (off := 552) (tgt := 622) hx hb dL_law_70 (by rw [ec26]; decide) (by rw [ec26]; decide) (by rw [ec26]; rfl) (by decide) ?_
            refine lv_aload_n hx hb dL_law_622 rfl (lv_at hl 1 rfl) ?_
            refine lv_aload_n hx hb dL_law_623 rfl (lv_at hl 0 rfl) ?_
            refine lv_iload hx hb dL_law_624 (lv_at hl 4 rfl) ?_
            refine lv_iconst (v := 1) hx hb dL_law_626 (by decide +kernel) ?_
            refine lv_iadd hx hb dL_law_627 ?_
            obtain ⟨h107, hf⟩ := hf
            refine va_sld hx hb hX hbl hbA hS h107 dL_law_628 ?_
            refine lv_i2l hx hb dL_law_629 rfl ?_
            refine lv_bipush (v := 32) hx hb dL_law_630 (by decide +kernel) ?_
            refine lv_lshl hx hb dL_law_632 rfl ?_
            refine lv_aload_n hx hb dL_law_633 rfl (lv_at hl 0 rfl) ?_
            refine lv_iload hx hb dL_law_634 (lv_at hl 4 rfl) ?_
            refine lv_iconst (v := 2) hx hb dL_law_636 (by decide +kernel) ?_
            refine lv_iadd hx hb dL_law_637 ?_
            obtain ⟨h108, hf⟩ := hf
            refine va_sld hx hb hX hbl hbA hS h108 dL_law_638 ?_
            refine lv_i2l hx hb dL_law_639 rfl ?_
            refine lv_ldc2 (v := 4294967295) hx hb hown (hts _ kw_1784) dL_law_640 ?_
            refine lv_land hx hb dL_law_643 ?_
            refine lv_lor hx hb dL_law_644 ?_
            refine lv_aload_n hx hb dL_law_645 rfl (lv_at hl 0 rfl) ?_
            refine lv_iload hx hb dL_law_646 (lv_at hl 4 rfl) ?_
            refine lv_iconst (v := 3) hx hb dL_law_648 (by decide +kernel) ?_
            refine lv_iadd hx hb dL_law_649 ?_
            obtain ⟨h109, hf⟩ := hf
            refine va_sld hx hb hX hbl hbA hS h109 dL_law_650 ?_
            refine lv_aload_n hx hb dL_law_651 rfl (lv_at hl 0 rfl) ?_
            refine lv_iload hx hb dL_law_652 (lv_at hl 4 rfl) ?_
            refine lv_iconst (v := 4) hx hb dL_law_654 (by decide +kernel) ?_
            refine lv_iadd hx hb dL_law_655 ?_
            obtain ⟨h110, hf⟩ := hf
            refine va_sld hx hb hX hbl hbA hS h110 dL_law_656 ?_
            refine lv_aload_n hx hb dL_law_657 rfl (lv_at hl 0 rfl) ?_
            refine lv_iload hx hb dL_law_658 (lv_at hl 4 rfl) ?_
            refine lv_iconst (v := 5) hx hb dL_law_660 (by decide +kernel) ?_
            refine lv_iadd hx hb dL_law_661 ?_
            obtain ⟨h111, hf⟩ := hf
            refine va_sld hx hb hX hbl hbA hS h111 dL_law_662 ?_
            refine lv_i2l hx hb dL_law_663 rfl ?_
            refine lv_bipush (v := 32) hx hb dL_law_664 (by decide +kernel) ?_
            refine lv_lshl hx hb dL_law_666 rfl ?_
            refine lv_aload_n hx hb dL_law_667 rfl (lv_at hl 0 rfl) ?_
            refine lv_iload hx hb dL_law_668 (lv_at hl 4 rfl) ?_
            refine lv_bipush (v := 6) hx hb dL_law_670 (by decide +kernel) ?_
            refine lv_iadd hx hb dL_law_672 ?_
            obtain ⟨h112, hf⟩ := hf
            refine va_sld hx hb hX hbl hbA hS h112 dL_law_673 ?_
            refine lv_i2l hx hb dL_law_674 rfl ?_
            refine lv_ldc2 (v := 4294967295) hx hb hown (hts _ kw_1784) dL_law_675 ?_
            refine lv_land hx hb dL_law_678 ?_
            refine lv_lor hx hb dL_law_679 ?_
            refine lv_aload_n hx hb dL_law_680 rfl (lv_at hl 3 rfl) ?_
            refine gm_ci (vx_runSW (As := [.ref q1, .long ((((xs (x20 + 1).toNatClampNeg).toInt64) <<< ((32 : Int32).toInt64 &&& 63)) ||| (((xs (x20 + 2).toNatClampNeg).toInt64) &&& 4294967295)), .int (xs (x20 + 3).toNatClampNeg), .int (xs (x20 + 4).toNatClampNeg), .long ((((xs (x20 + 5).toNatClampNeg).toInt64) <<< ((32 : Int32).toInt64 &&& 63)) ||| (((xs (x20 + 6).toNatClampNeg).toInt64) &&& 4294967295)), .ref q17]) (rest := []) ⟨hx, hb, hml, hown, hts⟩ (m_L_seal l hlt D cy tq _ Y18 _ _ _ _ _ _ _ _) (vx_cwSW 6 hts (good_SW kw_524 kw_525 kw_0 kw_526) rfl rfl rfl (by decide +kernel) ⟨Nat.le_of_ble_eq_true rfl, Nat.le_of_ble_eq_true rfl⟩) (gm_preS hK hW hC hS hA hf) rfl rfl hl.1 rfl (lv_room (Nat.le_of_ble_eq_true rfl)) dL_law_681 ⟨by show _ ≤ 61024; omega, by show _ ≤ 8913000; omega⟩) hW hS hA (fun r114 M113 H locs hW hS hf => ?_)
            refine lv_istore (lv' := [(5, .int r114), (0, .ref b), (1, .ref q1), (2, .ref q9), (3, .ref q17), (4, .int x20)]) hx hb dL_law_684 hl (by decide) rfl (fun ls hl => ?_)
            refine lv_aload_n hx hb dL_law_686 rfl (lv_at hl 3 rfl) ?_
            refine lv_aload_n hx hb dL_law_687 rfl (lv_at hl 1 rfl) ?_
            refine lv_iload hx hb dL_law_688 (lv_at hl 5 rfl) ?_
            refine lv_iconst (v := 1) hx hb dL_law_690 (by decide +kernel) ?_
            refine lv_iadd hx hb dL_law_691 ?_
            obtain ⟨h115, hf⟩ := hf
            refine va_sld hx hb hX hbl hbA hS h115 dL_law_692 ?_
            refine lv_i2l hx hb dL_law_693 rfl ?_
            refine lv_bipush (v := 32) hx hb dL_law_694 (by decide +kernel) ?_
            refine lv_lshl hx hb dL_law_696 rfl ?_
            refine lv_aload_n hx hb dL_law_697 rfl (lv_at hl 1 rfl) ?_
            refine lv_iload hx hb dL_law_698 (lv_at hl 5 rfl) ?_
            refine lv_iconst (v := 2) hx hb dL_law_700 (by decide +kernel) ?_
            refine lv_iadd hx hb dL_law_701 ?_
            obtain ⟨h116, hf⟩ := hf
            refine va_sld hx hb hX hbl hbA hS h116 dL_law_702 ?_
            refine lv_i2l hx hb dL_law_703 rfl ?_
            refine lv_ldc2 (v := 4294967295) hx hb hown (hts _ kw_1784) dL_law_704 ?_
            refine lv_land hx hb dL_law_707 ?_
            refine lv_lor hx hb dL_law_708 ?_
            refine lv_aload_n hx hb dL_law_709 rfl (lv_at hl 1 rfl) ?_
            refine lv_iload hx hb dL_law_710 (lv_at hl 5 rfl) ?_
            refine lv_iconst (v := 3) hx hb dL_law_712 (by decide +kernel) ?_
            refine lv_iadd hx hb dL_law_713 ?_
            obtain ⟨h117, hf⟩ := hf
            refine va_sld hx hb hX hbl hbA hS h117 dL_law_714 ?_
            refine lv_aload_n hx hb dL_law_715 rfl (lv_at hl 1 rfl) ?_
            refine lv_iload hx hb dL_law_716 (lv_at hl 5 rfl) ?_
            refine lv_iconst (v := 4) hx hb dL_law_718 (by decide +kernel) ?_
            refine lv_iadd hx hb dL_law_719 ?_
            obtain ⟨h118, hf⟩ := hf
            refine va_sld hx hb hX hbl hbA hS h118 dL_law_720 ?_
            refine lv_aload_n hx hb dL_law_721 rfl (lv_at hl 1 rfl) ?_
            refine lv_iload hx hb dL_law_722 (lv_at hl 5 rfl) ?_
            refine lv_iconst (v := 5) hx hb dL_law_724 (by decide +kernel) ?_
            refine lv_iadd hx hb dL_law_725 ?_
            obtain ⟨h119, hf⟩ := hf
            refine va_sld hx hb hX hbl hbA hS h119 dL_law_726 ?_
            refine lv_i2l hx hb dL_law_727 rfl ?_
            refine lv_bipush (v := 32) hx hb dL_law_728 (by decide +kernel) ?_
            refine lv_lshl hx hb dL_law_730 rfl ?_
            refine lv_aload_n hx hb dL_law_731 rfl (lv_at hl 1 rfl) ?_
            refine lv_iload hx hb dL_law_732 (lv_at hl 5 rfl) ?_
            refine lv_bipush (v := 6) hx hb dL_law_734 (by decide +kernel) ?_
            refine lv_iadd hx hb dL_law_736 ?_
            obtain ⟨h120, hf⟩ := hf
            refine va_sld hx hb hX hbl hbA hS h120 dL_law_737 ?_
            refine lv_i2l hx hb dL_law_738 rfl ?_
            refine lv_ldc2 (v := 4294967295) hx hb hown (hts _ kw_1784) dL_law_739 ?_
            refine lv_land hx hb dL_law_742 ?_
            refine lv_lor hx hb dL_law_743 ?_
            obtain ⟨k123, hf⟩ := hf
            refine gm_ci (va_runV (As := [.long ((((xs (x20 + 1).toNatClampNeg).toInt64) <<< ((32 : Int32).toInt64 &&& 63)) ||| (((xs (x20 + 2).toNatClampNeg).toInt64) &&& 4294967295)), .int (xs (x20 + 3).toNatClampNeg), .int (xs (x20 + 4).toNatClampNeg), .long ((((xs (x20 + 5).toNatClampNeg).toInt64) <<< ((32 : Int32).toInt64 &&& 63)) ||| (((xs (x20 + 6).toNatClampNeg).toInt64) &&& 4294967295))]) (rest := []) ⟨hx, hb, hml, hown, hts⟩ (m_X12_seal l D cy tq _ Y18 _ _ _ _ _ _ _) (cwV 4 hts (good_V kw_1490 kw_1491 kw_1492 kw_12 kw_1493) rfl rfl rfl (by decide +kernel) ⟨Nat.le_of_ble_eq_true rfl, Nat.le_of_ble_eq_true rfl⟩) (gm_preV hK hW hC hS hA k123 (by decide) (q := (RX12, TX12, 68)) rfl rfl hf) rfl rfl hl.1 rfl (lv_room (Nat.le_of_ble_eq_true rfl)) dL_law_744 ⟨by show _ ≤ 61024; omega, by show _ ≤ 8913000; omega⟩) hW hS hA (fun r122 M121 H locs hW hS hf => ?_)
            refine lv_istore (lv' := [(6, .int r122), (5, .int r114), (0, .ref b), (1, .ref q1), (2, .ref q9), (3, .ref q17), (4, .int x20)]) hx hb dL_law_747 hl (by decide) rfl (fun ls hl => ?_)
            refine lv_aload_n hx hb dL_law_749 rfl (lv_at hl 4 rfl) ?_
            refine gm_ci (va_runV (As := []) (rest := []) ⟨hx, hb, hml, hown, hts⟩ (m_X12_thrown l D cy tq _ Y18 _ _ _) (cwV 0 hts (good_V kw_1454 kw_1455 kw_1456 kw_12 kw_1457) rfl rfl rfl (by decide +kernel) ⟨Nat.le_of_ble_eq_true rfl, Nat.le_of_ble_eq_true rfl⟩) (gm_preV hK hW hC hS hA k123 (by decide) (q := (RX12, TX12, 68)) rfl rfl hf) rfl rfl hl.1 rfl (lv_room (Nat.le_of_ble_eq_true rfl)) dL_law_750 ⟨by show _ ≤ 61024; omega, by show _ ≤ 8913000; omega⟩) hW hS hA (fun r125 M124 H locs hW hS hf => ?_)
            refine lv_iload hx hb dL_law_753 (lv_at hl 1 rfl) ?_
            refine lv_icmp_eq (tgt := 760) hx hb dL_law_755 (by decide) (fun c126 => ?_) (fun c126 => ?_)
            · replace hf := hf.1 c126
              refine lv_iload hx hb dL_law_760 (lv_at hl 1 rfl) ?_
              have j777 : ∀ (H : Heap) (locs : List Loc) (ls : Array Slot), lv_has ls 8 [(0, .ref b), (1, .ref q1), (2, .ref q9), (3, .ref q17), (4, .int x20)] → Wd D cy A Y18 M124 H → va_S A s.heap H locs → f_L_law_777 Y18 x20 (LOOP2 (L_L_law_53 Y18 L xs q1 q9 q17) n53) M124  → W p l e rm_L_law s m #[Value.ref b] below meth c H locs (124 + (513 - (n53 + 1)) * 3 + 2) (2232956 + (513 - (n53 + 1)) * 18 + 12) (lw_Z below #[Value.ref b] s) (F0 m 777 ls []) := by
                intro  H locs ls hl hW hS hf
                unfold f_L_law_777 at hf
                refine lv_goto (tgt := 2359) hx hb dL_law_777 (by decide) ?_
                refine W.widen (k := 124 + (513 - (n53 + 1)) * 3 + 3) (n := 2232956 + (513 - (n53 + 1)) * 18 + 18) (by omega) (by omega) ?_
                exact j2359 _ _ _ _ (lv_sub hl [0, 1, 2, 3, 4] rfl) hW hS hf
              refine lv_if_ne (tgt := 777) hx hb dL_law_762 (by decide) (fun c127 => ?_) (fun c127 => ?_)
              · replace hf := hf.1 c127
                refine W.widen (k := 124 + (513 - (n53 + 1)) * 3 + 2) (n := 2232956 + (513 - (n53 + 1)) * 18 + 12) (by omega) (by omega) ?_
                exact j777  _ _ _ (lv_sub hl [2, 3, 4, 5, 6] rfl) hW hS hf
              · replace hf := hf.2 c127
                refine lv_aload_n hx hb dL_law_765 rfl (lv_at hl 5 rfl) ?_
                refine lv_iconst (v := 0) hx hb dL_law_766 (by decide +kernel) ?_
                obtain ⟨k128, hf⟩ := hf
                obtain ⟨h129, hf⟩ := hf
                refine gm_lald hx hb hK hW k128 h129 dL_law_767 ?_
                refine lv_iload hx hb dL_law_768 (lv_at hl 0 rfl) ?_
                refine lv_i2l hx hb dL_law_770 rfl ?_
                refine W.lcmp hx hb dL_law_771 ?_
                refine lv_if_eq (tgt := 777) hx hb dL_law_772 (by decide) (fun c130 => ?_) (fun c130 => ?_)
                · replace hf := hf.1 (lg_eq.mp c130)
                  refine W.widen (k := 124 + (513 - (n53 + 1)) * 3 + 2) (n := 2232956 + (513 - (n53 + 1)) * 18 + 12) (by omega) (by omega) ?_
                  exact j777  _ _ _ (lv_sub hl [2, 3, 4, 5, 6] rfl) hW hS hf
                · replace hf := hf.2 (fun z => c130 (lg_eq.mpr z))
                  refine lv_iconst (v := 0) hx hb dL_law_775 (by decide +kernel) ?_
                  exact hf.elim
            · replace hf := hf.2 c126
              refine lv_iconst (v := 0) hx hb dL_law_758 (by decide +kernel) ?_
              exact hf.elim
          · replace hf := hf.2.2.2.2.2.2.1 ec26
            refine lv_tableIn (off := 710) (tgt := 780) hx hb dL_law_70 (by rw [ec26]; decide) (by rw [ec26]; decide) (by rw [ec26]; rfl) (by decide) ?_
            refine lv_aload_n hx hb dL_law_780 rfl (lv_at hl 1 rfl) ?_
            refine lv_aload_n hx hb dL_law_781 rfl (lv_at hl 0 rfl) ?_
            refine lv_iload hx hb dL_law_782 (lv_at hl 4 rfl) ?_
            refine lv_iconst (v := 1) hx hb dL_law_784 (by decide +kernel) ?_
            refine lv_iadd hx hb dL_law_785 ?_
            obtain ⟨h131, hf⟩ := hf
            refine va_sld hx hb hX hbl hbA hS h131 dL_law_786 ?_
            refine lv_aload_n hx hb dL_law_787 rfl (lv_at hl 3 rfl) ?_
            refine gm_ci (vx_runSW (As := [.ref q1, .int (xs (x20 + 1).toNatClampNeg), .ref q17]) (rest := []) ⟨hx, hb, hml, hown, hts⟩ (m_L_fault l hlt D cy tq _ Y18 _ _ _ _ _) (vx_cwSW 3 hts (good_SW kw_763 kw_764 kw_0 kw_765) rfl rfl rfl (by decide +kernel) ⟨Nat.le_of_ble_eq_true rfl, Nat.le_of_ble_eq_true rfl⟩) (gm_preS hK hW hC hS hA hf) rfl rfl hl.1 rfl (lv_room (Nat.le_of_ble_eq_true rfl)) dL_law_788 ⟨by show _ ≤ 61024; omega, by show _ ≤ 8913000; omega⟩) hW hS hA (fun r133 M132 H locs hW hS hf => ?_)
            refine lv_istore (lv' := [(5, .int r133), (0, .ref b), (1, .ref q1), (2, .ref q9), (3, .ref q17), (4, .int x20)]) hx hb dL_law_791 hl (by decide) rfl (fun ls hl => ?_)
            refine lv_aload_n hx hb dL_law_793 rfl (lv_at hl 3 rfl) ?_
            refine lv_aload_n hx hb dL_law_794 rfl (lv_at hl 1 rfl) ?_
            refine lv_iload hx hb dL_law_795 (lv_at hl 5 rfl) ?_
            refine lv_iconst (v := 1) hx hb dL_law_797 (by decide +kernel) ?_
            refine lv_iadd hx hb dL_law_798 ?_
            obtain ⟨h134, hf⟩ := hf
            refine va_sld hx hb hX hbl hbA hS h134 dL_law_799 ?_
            obtain ⟨k137, hf⟩ := hf
            refine gm_ci (va_runV (As := [.int (xs (x20 + 1).toNatClampNeg)]) (rest := []) ⟨hx, hb, hml, hown, hts⟩ (m_X12_fault l D cy tq _ Y18 _ _ _ _) (cwV 1 hts (good_V kw_1513 kw_1514 kw_1515 kw_12 kw_1516) rfl rfl rfl (by decide +kernel) ⟨Nat.le_of_ble_eq_true rfl, Nat.le_of_ble_eq_true rfl⟩) (gm_preV hK hW hC hS hA k137 (by decide) (q := (RX12, TX12, 68)) rfl rfl hf) rfl rfl hl.1 rfl (lv_room (Nat.le_of_ble_eq_true rfl)) dL_law_800 ⟨by show _ ≤ 61024; omega, by show _ ≤ 8913000; omega⟩) hW hS hA (fun r136 M135 H locs hW hS hf => ?_)
            refine lv_istore (lv' := [(6, .int r136), (5, .int r133), (0, .ref b), (1, .ref q1), (2, .ref q9), (3, .ref q17), (4, .int x20)]) hx hb dL_law_803 hl (by decide) rfl (fun ls hl => ?_)
            refine lv_aload_n hx hb dL_law_805 rfl (lv_at hl 4 rfl) ?_
            refine gm_ci (va_runV (As := []) (rest := []) ⟨hx, hb, hml, hown, hts⟩ (m_X12_thrown l D cy tq _ Y18 _ _ _) (cwV 0 hts (good_V kw_1454 kw_1455 kw_1456 kw_12 kw_1457) rfl rfl rfl (by decide +kernel) ⟨Nat.le_of_ble_eq_true rfl, Nat.le_of_ble_eq_true rfl⟩) (gm_preV hK hW hC hS hA k137 (by decide) (q := (RX12, TX12, 68)) rfl rfl hf) rfl rfl hl.1 rfl (lv_room (Nat.le_of_ble_eq_true rfl)) dL_law_806 ⟨by show _ ≤ 61024; omega, by show _ ≤ 8913000; omega⟩) hW hS hA (fun r139 M138 H locs hW hS hf => ?_)
            refine lv_iload hx hb dL_law_809 (lv_at hl 1 rfl) ?_
            refine lv_icmp_eq (tgt := 816) hx hb dL_law_811 (by decide) (fun c140 => ?_) (fun c140 => ?_)
            · replace hf := hf.1 c140
              refine lv_iload hx hb dL_law_816 (lv_at hl 1 rfl) ?_
              have j833 : ∀ (H : Heap) (locs : List Loc) (ls : Array Slot), lv_has ls 8 [(0, .ref b), (1, .ref q1), (2, .ref q9), (3, .ref q17), (4, .int x20)] → Wd D cy A Y18 M138 H → va_S A s.heap H locs → f_L_law_833 Y18 x20 (LOOP2 (L_L_law_53 Y18 L xs q1 q9 q17) n53) M138  → W p l e rm_L_law s m #[Value.ref b] below meth c H locs (124 + (513 - (n53 + 1)) * 3 + 1) (2232956 + (513 - (n53 + 1)) * 18 + 6) (lw_Z below #[Value.ref b] s) (F0 m 833 ls []) := by
                intro  H locs ls hl hW hS hf
                unfold f_L_law_833 at hf
                refine lv_goto (tgt := 2359) hx hb dL_law_833 (by decide) ?_
                refine W.widen (k := 124 + (513 - (n53 + 1)) * 3 + 3) (n := 2232956 + (513 - (n53 + 1)) * 18 + 18) (by omega) (by omega) ?_
                exact j2359 _ _ _ _ (lv_sub hl [0, 1, 2, 3, 4] rfl) hW hS hf
              refine lv_if_ne (tgt := 833) hx hb dL_law_818 (by decide) (fun c141 => ?_) (fun c141 => ?_)
              · replace hf := hf.1 c141
                refine W.widen (k := 124 + (513 - (n53 + 1)) * 3 + 1) (n := 2232956 + (513 - (n53 + 1)) * 18 + 6) (by omega) (by omega) ?_
                exact j833  _ _ _ (lv_sub hl [2, 3, 4, 5, 6] rfl) hW hS hf
              · replace hf := hf.2 c141
                refine lv_aload_n hx hb dL_law_821 rfl (lv_at hl 5 rfl) ?_
                refine lv_iconst (v := 0) hx hb dL_law_822 (by decide +kernel) ?_
                obtain ⟨k142, hf⟩ := hf
                obtain ⟨h143, hf⟩ := hf
                refine gm_lald hx hb hK hW k142 h143 dL_law_823 ?_
                refine lv_iload hx hb dL_law_824 (lv_at hl 0 rfl) ?_
                refine lv_i2l hx hb dL_law_826 rfl ?_
                refine W.lcmp hx hb dL_law_827 ?_
                refine lv_if_eq (tgt := 833) hx hb dL_law_828 (by decide) (fun c144 => ?_) (fun c144 => ?_)
                · replace hf := hf.1 (lg_eq.mp c144)
                  refine W.widen (k := 124 + (513 - (n53 + 1)) * 3 + 1) (n := 2232956 + (513 - (n53 + 1)) * 18 + 6) (by omega) (by omega) ?_
                  exact j833  _ _ _ (lv_sub hl [2, 3, 4, 5, 6] rfl) hW hS hf
                · replace hf := hf.2 (fun z => c144 (lg_eq.mpr z))
                  refine lv_iconst (v := 0) hx hb dL_law_831 (by decide +kernel) ?_
                  exact hf.elim
            · replace hf := hf.2 c140
              refine lv_iconst (v := 0) hx hb dL_law_814 (by decide +kernel) ?_
              exact hf.elim
          · replace hf := hf.2.2.2.2.2.2.2.1 ec26
            refine lv_tableIn (off := 766) (tgt := 836) hx hb dL_law_70 (by rw [ec26]; decide) (by rw [ec26]; decide) (by rw [ec26]; rfl) (by decide) ?_
            refine lv_aload_n hx hb dL_law_836 rfl (lv_at hl 1 rfl) ?_
            refine lv_aload_n hx hb dL_law_837 rfl (lv_at hl 3 rfl) ?_
            refine gm_ci (vx_runSW (As := [.ref q1, .ref q17]) (rest := []) ⟨hx, hb, hml, hown, hts⟩ (m_L_producer l hlt D cy tq _ Y18 _ _ _ _) (vx_cwSW 2 hts (good_SW kw_835 kw_836 kw_0 kw_837) rfl rfl rfl (by decide +kernel) ⟨Nat.le_of_ble_eq_true rfl, Nat.le_of_ble_eq_true rfl⟩) (gm_preS hK hW hC hS hA hf) rfl rfl hl.1 rfl (lv_room (Nat.le_of_ble_eq_true rfl)) dL_law_838 ⟨by show _ ≤ 61024; omega, by show _ ≤ 8913000; omega⟩) hW hS hA (fun r146 M145 H locs hW hS hf => ?_)
            refine lv_istore (lv' := [(5, .int r146), (0, .ref b), (1, .ref q1), (2, .ref q9), (3, .ref q17), (4, .int x20)]) hx hb dL_law_841 hl (by decide) rfl (fun ls hl => ?_)
            refine lv_aload_n hx hb dL_law_843 rfl (lv_at hl 3 rfl) ?_
            obtain ⟨k149, hf⟩ := hf
            refine gm_cl (va_runV (As := []) (rest := []) ⟨hx, hb, hml, hown, hts⟩ (m_X12_producer l D cy tq _ Y18 _ _ _) (cwV 0 hts (good_V kw_1551 kw_1552 kw_1553 kw_12 kw_1554) rfl rfl rfl (by decide +kernel) ⟨Nat.le_of_ble_eq_true rfl, Nat.le_of_ble_eq_true rfl⟩) (gm_preV hK hW hC hS hA k149 (by decide) (q := (RX12, TX12, 68)) rfl rfl hf) rfl rfl hl.1 rfl (lv_room (Nat.le_of_ble_eq_true rfl)) dL_law_844 ⟨by show _ ≤ 61024; omega, by show _ ≤ 8913000; omega⟩) hW hS hA (fun r148 M147 H locs hW hS hf => ?_)
            refine lv_lstore (lv' := [(6, .long r148), (5, .int r146), (0, .ref b), (1, .ref q1), (2, .ref q9), (3, .ref q17), (4, .int x20)]) hx hb dL_law_847 hl (by decide) rfl (fun ls hl => ?_)
            refine lv_aload_n hx hb dL_law_849 rfl (lv_at hl 4 rfl) ?_
            refine gm_ci (va_runV (As := []) (rest := []) ⟨hx, hb, hml, hown, hts⟩ (m_X12_thrown l D cy tq _ Y18 _ _ _) (cwV 0 hts (good_V kw_1454 kw_1455 kw_1456 kw_12 kw_1457) rfl rfl rfl (by decide +kernel) ⟨Nat.le_of_ble_eq_true rfl, Nat.le_of_ble_eq_true rfl⟩) (gm_preV hK hW hC hS hA k149 (by decide) (q := (RX12, TX12, 68)) rfl rfl hf) rfl rfl hl.1 rfl (lv_room (Nat.le_of_ble_eq_true rfl)) dL_law_850 ⟨by show _ ≤ 61024; omega, by show _ ≤ 8913000; omega⟩) hW hS hA (fun r151 M150 H locs hW hS hf => ?_)
            refine lv_iload hx hb dL_law_853 (lv_at hl 1 rfl) ?_
            refine lv_icmp_eq (tgt := 860) hx hb dL_law_855 (by decide) (fun c152 => ?_) (fun c152 => ?_)
            · replace hf := hf.1 c152
              refine lv_iload hx hb dL_law_860 (lv_at hl 1 rfl) ?_
              have j876 : ∀ (H : Heap) (locs : List Loc) (ls : Array Slot), lv_has ls 8 [(0, .ref b), (1, .ref q1), (2, .ref q9), (3, .ref q17), (4, .int x20)] → Wd D cy A Y18 M150 H → va_S A s.heap H locs → f_L_law_876 Y18 x20 (LOOP2 (L_L_law_53 Y18 L xs q1 q9 q17) n53) M150  → W p l e rm_L_law s m #[Value.ref b] below meth c H locs (124 + (513 - (n53 + 1)) * 3 + 1) (2232956 + (513 - (n53 + 1)) * 18 + 6) (lw_Z below #[Value.ref b] s) (F0 m 876 ls []) := by
                intro  H locs ls hl hW hS hf
                unfold f_L_law_876 at hf
                refine lv_goto (tgt := 2359) hx hb dL_law_876 (by decide) ?_
                refine W.widen (k := 124 + (513 - (n53 + 1)) * 3 + 3) (n := 2232956 + (513 - (n53 + 1)) * 18 + 18) (by omega) (by omega) ?_
                exact j2359 _ _ _ _ (lv_sub hl [0, 1, 2, 3, 4] rfl) hW hS hf
              refine lv_if_ne (tgt := 876) hx hb dL_law_862 (by decide) (fun c153 => ?_) (fun c153 => ?_)
              · replace hf := hf.1 c153
                refine W.widen (k := 124 + (513 - (n53 + 1)) * 3 + 1) (n := 2232956 + (513 - (n53 + 1)) * 18 + 6) (by omega) (by omega) ?_
                exact j876  _ _ _ (lv_sub hl [2, 3, 4, 5, 6] rfl) hW hS hf
              · replace hf := hf.2 c153
                refine lv_aload_n hx hb dL_law_865 rfl (lv_at hl 5 rfl) ?_
                refine lv_iconst (v := 0) hx hb dL_law_866 (by decide +kernel) ?_
                obtain ⟨k154, hf⟩ := hf
                obtain ⟨h155, hf⟩ := hf
                refine gm_lald hx hb hK hW k154 h155 dL_law_867 ?_
                refine lv_lload hx hb dL_law_868 (lv_at hl 0 rfl) ?_
                refine W.lcmp hx hb dL_law_870 ?_
                refine lv_if_eq (tgt := 876) hx hb dL_law_871 (by decide) (fun c156 => ?_) (fun c156 => ?_)
                · replace hf := hf.1 (lg_eq.mp c156)
                  refine W.widen (k := 124 + (513 - (n53 + 1)) * 3 + 1) (n := 2232956 + (513 - (n53 + 1)) * 18 + 6) (by omega) (by omega) ?_
                  exact j876  _ _ _ (lv_sub hl [2, 3, 4, 5, 6] rfl) hW hS hf
                · replace hf := hf.2 (fun z => c156 (lg_eq.mpr z))
                  refine lv_iconst (v := 0) hx hb dL_law_874 (by decide +kernel) ?_
                  exact hf.elim
            · replace hf := hf.2 c152
              refine lv_iconst (v := 0) hx hb dL_law_858 (by decide +kernel) ?_
              exact hf.elim
          · replace hf := hf.2.2.2.2.2.2.2.2.1 ec26
            refine lv_tableIn (off := 809) (tgt := 879) hx hb dL_law_70 (by rw [ec26]; decide) (by rw [ec26]; decide) (by rw [ec26]; rfl) (by decide) ?_
            refine lv_aload_n hx hb dL_law_879 rfl (lv_at hl 1 rfl) ?_
            refine lv_aload_n hx hb dL_law_880 rfl (lv_at hl 0 rfl) ?_
            refine lv_iload hx hb dL_law_881 (lv_at hl 4 rfl) ?_
            refine lv_iconst (v := 1) hx hb dL_law_883 (by decide +kernel) ?_
            refine lv_iadd hx hb dL_law_884 ?_
            obtain ⟨h157, hf⟩ := hf
            refine va_sld hx hb hX hbl hbA hS h157 dL_law_885 ?_
            refine lv_aload_n hx hb dL_law_886 rfl (lv_at hl 3 rfl) ?_
            refine gm_ci (vx_runSW (As := [.ref q1, .int (xs (x20 + 1).toNatClampNeg), .ref q17]) (rest := []) ⟨hx, hb, hml, hown, hts⟩ (m_L_produce l hlt D cy tq _ Y18 _ _ _ _ _) (vx_cwSW 3 hts (good_SW kw_852 kw_853 kw_0 kw_854) rfl rfl rfl (by decide +kernel) ⟨Nat.le_of_ble_eq_true rfl, Nat.le_of_ble_eq_true rfl⟩) (gm_preS hK hW hC hS hA hf) rfl rfl hl.1 rfl (lv_room (Nat.le_of_ble_eq_true rfl)) dL_law_887 ⟨by show _ ≤ 61024; omega, by show _ ≤ 8913000; omega⟩) hW hS hA (fun r159 M158 H locs hW hS hf => ?_)
            refine lv_istore (lv' := [(5, .int r159), (0, .ref b), (1, .ref q1), (2, .ref q9), (3, .ref q17), (4, .int x20)]) hx hb dL_law_890 hl (by decide) rfl (fun ls hl => ?_)
            refine lv_aload_n hx hb dL_law_892 rfl (lv_at hl 3 rfl) ?_
            refine lv_aload_n hx hb dL_law_893 rfl (lv_at hl 1 rfl) ?_
            refine lv_iload hx hb dL_law_894 (lv_at hl 5 rfl) ?_
            refine lv_iconst (v := 1) hx hb dL_law_896 (by decide +kernel) ?_
            refine lv_iadd hx hb dL_law_897 ?_
            obtain ⟨h160, hf⟩ := hf
            refine va_sld hx hb hX hbl hbA hS h160 dL_law_898 ?_
            obtain ⟨k163, hf⟩ := hf
            refine gm_cl (va_runV (As := [.int (xs (x20 + 1).toNatClampNeg)]) (rest := []) ⟨hx, hb, hml, hown, hts⟩ (m_X12_produce l D cy tq _ Y18 _ _ _ _) (cwV 1 hts (good_V kw_1560 kw_1561 kw_1562 kw_12 kw_1563) rfl rfl rfl (by decide +kernel) ⟨Nat.le_of_ble_eq_true rfl, Nat.le_of_ble_eq_true rfl⟩) (gm_preV hK hW hC hS hA k163 (by decide) (q := (RX12, TX12, 68)) rfl rfl hf) rfl rfl hl.1 rfl (lv_room (Nat.le_of_ble_eq_true rfl)) dL_law_899 ⟨by show _ ≤ 61024; omega, by show _ ≤ 8913000; omega⟩) hW hS hA (fun r162 M161 H locs hW hS hf => ?_)
            refine lv_lstore (lv' := [(6, .long r162), (5, .int r159), (0, .ref b), (1, .ref q1), (2, .ref q9), (3, .ref q17), (4, .int x20)]) hx hb dL_law_902 hl (by decide) rfl (fun ls hl => ?_)
            refine lv_aload_n hx hb dL_law_904 rfl (lv_at hl 4 rfl) ?_
            refine gm_ci (va_runV (As := []) (rest := []) ⟨hx, hb, hml, hown, hts⟩ (m_X12_thrown l D cy tq _ Y18 _ _ _) (cwV 0 hts (good_V kw_1454 kw_1455 kw_1456 kw_12 kw_1457) rfl rfl rfl (by decide +kernel) ⟨Nat.le_of_ble_eq_true rfl, Nat.le_of_ble_eq_true rfl⟩) (gm_preV hK hW hC hS hA k163 (by decide) (q := (RX12, TX12, 68)) rfl rfl hf) rfl rfl hl.1 rfl (lv_room (Nat.le_of_ble_eq_true rfl)) dL_law_905 ⟨by show _ ≤ 61024; omega, by show _ ≤ 8913000; omega⟩) hW hS hA (fun r165 M164 H locs hW hS hf => ?_)
            refine lv_iload hx hb dL_law_908 (lv_at hl 1 rfl) ?_
            refine lv_icmp_eq (tgt := 915) hx hb dL_law_910 (by decide) (fun c166 => ?_) (fun c166 => ?_)
            · replace hf := hf.1 c166
              refine lv_iload hx hb dL_law_915 (lv_at hl 1 rfl) ?_
              have j931 : ∀ (H : Heap) (locs : List Loc) (ls : Array Slot), lv_has ls 8 [(0, .ref b), (1, .ref q1), (2, .ref q9), (3, .ref q17), (4, .int x20)] → Wd D cy A Y18 M164 H → va_S A s.heap H locs → f_L_law_931 Y18 x20 (LOOP2 (L_L_law_53 Y18 L xs q1 q9 q17) n53) M164  → W p l e rm_L_law s m #[Value.ref b] below meth c H locs (124 + (513 - (n53 + 1)) * 3 + 2) (2232956 + (513 - (n53 + 1)) * 18 + 12) (lw_Z below #[Value.ref b] s) (F0 m 931 ls []) := by
                intro  H locs ls hl hW hS hf
                unfold f_L_law_931 at hf
                refine lv_goto (tgt := 2359) hx hb dL_law_931 (by decide) ?_
                refine W.widen (k := 124 + (513 - (n53 + 1)) * 3 + 3) (n := 2232956 + (513 - (n53 + 1)) * 18 + 18) (by omega) (by omega) ?_
                exact j2359 _ _ _ _ (lv_sub hl [0, 1, 2, 3, 4] rfl) hW hS hf
              refine lv_if_ne (tgt := 931) hx hb dL_law_917 (by decide) (fun c167 => ?_) (fun c167 => ?_)
              · replace hf := hf.1 c167
                refine W.widen (k := 124 + (513 - (n53 + 1)) * 3 + 2) (n := 2232956 + (513 - (n53 + 1)) * 18 + 12) (by omega) (by omega) ?_
                exact j931  _ _ _ (lv_sub hl [2, 3, 4, 5, 6] rfl) hW hS hf
              · replace hf := hf.2 c167
                refine lv_aload_n hx hb dL_law_920 rfl (lv_at hl 5 rfl) ?_
                refine lv_iconst (v := 0) hx hb dL_law_921 (by decide +kernel) ?_
                obtain ⟨k168, hf⟩ := hf
                obtain ⟨h169, hf⟩ := hf
                refine gm_lald hx hb hK hW k168 h169 dL_law_922 ?_
                refine lv_lload hx hb dL_law_923 (lv_at hl 0 rfl) ?_
                refine W.lcmp hx hb dL_law_925 ?_
                refine lv_if_eq (tgt := 931) hx hb dL_law_926 (by decide) (fun c170 => ?_) (fun c170 => ?_)
                · replace hf := hf.1 (lg_eq.mp c170)
                  refine W.widen (k := 124 + (513 - (n53 + 1)) * 3 + 2) (n := 2232956 + (513 - (n53 + 1)) * 18 + 12) (by omega) (by omega) ?_
                  exact j931  _ _ _ (lv_sub hl [2, 3, 4, 5, 6] rfl) hW hS hf
                · replace hf := hf.2 (fun z => c170 (lg_eq.mpr z))
                  refine lv_iconst (v := 0) hx hb dL_law_929 (by decide +kernel) ?_
                  exact hf.elim
            · replace hf := hf.2 c166
              refine lv_iconst (v := 0) hx hb dL_law_913 (by decide +kernel) ?_
              exact hf.elim
          · replace hf := hf.2.2.2.2.2.2.2.2.2.1 ec26
            refine lv_tableIn (off := 864) (tgt := 934) hx hb dL_law_70 (by rw [ec26]; decide) (by rw [ec26]; decide) (by rw [ec26]; rfl) (by decide) ?_
            refine lv_aload_n hx hb dL_law_934 rfl (lv_at hl 1 rfl) ?_
            refine lv_aload_n hx hb dL_law_935 rfl (lv_at hl 0 rfl) ?_
            refine lv_iload hx hb dL_law_936 (lv_at hl 4 rfl) ?_
            refine lv_iconst (v := 1) hx hb dL_law_938 (by decide +kernel) ?_
            refine lv_iadd hx hb dL_law_939 ?_
            obtain ⟨h171, hf⟩ := hf
            refine va_sld hx hb hX hbl hbA hS h171 dL_law_940 ?_
            refine lv_aload_n hx hb dL_law_941 rfl (lv_at hl 0 rfl) ?_
            refine lv_iload hx hb dL_law_942 (lv_at hl 4 rfl) ?_
            refine lv_iconst (v := 2) hx hb dL_law_944 (by decide +kernel) ?_
            refine lv_iadd hx hb dL_law_945 ?_
            obtain ⟨h172, hf⟩ := hf
            refine va_sld hx hb hX hbl hbA hS h172 dL_law_946 ?_
            refine lv_i2l hx hb dL_law_947 rfl ?_
            refine lv_bipush (v := 32) hx hb dL_law_948 (by decide +kernel) ?_
            refine lv_lshl hx hb dL_law_950 rfl ?_
            refine lv_aload_n hx hb dL_law_951 rfl (lv_at hl 0 rfl) ?_
            refine lv_iload hx hb dL_law_952 (lv_at hl 4 rfl) ?_
            refine lv_iconst (v := 3) hx hb dL_law_954 (by decide +kernel) ?_
            refine lv_iadd hx hb dL_law_955 ?_
            obtain ⟨h173, hf⟩ := hf
            refine va_sld hx hb hX hbl hbA hS h173 dL_law_956 ?_
            refine lv_i2l hx hb dL_law_957 rfl ?_
            refine lv_ldc2 (v := 4294967295) hx hb hown (hts _ kw_1784) dL_law_958 ?_
            refine lv_land hx hb dL_law_961 ?_
            refine lv_lor hx hb dL_law_962 ?_
            refine lv_aload_n hx hb dL_law_963 rfl (lv_at hl 0 rfl) ?_
            refine lv_iload hx hb dL_law_964 (lv_at hl 4 rfl) ?_
            refine lv_iconst (v := 4) hx hb dL_law_966 (by decide +kernel) ?_
            refine lv_iadd hx hb dL_law_967 ?_
            obtain ⟨h174, hf⟩ := hf
            refine va_sld hx hb hX hbl hbA hS h174 dL_law_968 ?_
            refine lv_aload_n hx hb dL_law_969 rfl (lv_at hl 3 rfl) ?_
            refine gm_ci (vx_runSW (As := [.ref q1, .int (xs (x20 + 1).toNatClampNeg), .long ((((xs (x20 + 2).toNatClampNeg).toInt64) <<< ((32 : Int32).toInt64 &&& 63)) ||| (((xs (x20 + 3).toNatClampNeg).toInt64) &&& 4294967295)), .int (xs (x20 + 4).toNatClampNeg), .ref q17]) (rest := []) ⟨hx, hb, hml, hown, hts⟩ (m_L_known l hlt D cy tq _ Y18 _ _ _ _ _ _ _) (vx_cwSW 5 hts (good_SW kw_925 kw_926 kw_0 kw_927) rfl rfl rfl (by decide +kernel) ⟨Nat.le_of_ble_eq_true rfl, Nat.le_of_ble_eq_true rfl⟩) (gm_preS hK hW hC hS hA hf) rfl rfl hl.1 rfl (lv_room (Nat.le_of_ble_eq_true rfl)) dL_law_970 ⟨by show _ ≤ 61024; omega, by show _ ≤ 8913000; omega⟩) hW hS hA (fun r176 M175 H locs hW hS hf => ?_)
            refine lv_istore (lv' := [(5, .int r176), (0, .ref b), (1, .ref q1), (2, .ref q9), (3, .ref q17), (4, .int x20)]) hx hb dL_law_973 hl (by decide) rfl (fun ls hl => ?_)
            refine lv_aload_n hx hb dL_law_975 rfl (lv_at hl 3 rfl) ?_
            refine lv_aload_n hx hb dL_law_976 rfl (lv_at hl 1 rfl) ?_
            refine lv_iload hx hb dL_law_977 (lv_at hl 5 rfl) ?_
            refine lv_iconst (v := 1) hx hb dL_law_979 (by decide +kernel) ?_
            refine lv_iadd hx hb dL_law_980 ?_
            obtain ⟨h177, hf⟩ := hf
            refine va_sld hx hb hX hbl hbA hS h177 dL_law_981 ?_
            refine lv_aload_n hx hb dL_law_982 rfl (lv_at hl 1 rfl) ?_
            refine lv_iload hx hb dL_law_983 (lv_at hl 5 rfl) ?_
            refine lv_iconst (v := 2) hx hb dL_law_985 (by decide +kernel) ?_
            refine lv_iadd hx hb dL_law_986 ?_
            obtain ⟨h178, hf⟩ := hf
            refine va_sld hx hb hX hbl hbA hS h178 dL_law_987 ?_
            refine lv_i2l hx hb dL_law_988 rfl ?_
            refine lv_bipush (v := 32) hx hb dL_law_989 (by decide +kernel) ?_
            refine lv_lshl hx hb dL_law_991 rfl ?_
            refine lv_aload_n hx hb dL_law_992 rfl (lv_at hl 1 rfl) ?_
            refine lv_iload hx hb dL_law_993 (lv_at hl 5 rfl) ?_
            refine lv_iconst (v := 3) hx hb dL_law_995 (by decide +kernel) ?_
            refine lv_iadd hx hb dL_law_996 ?_
            obtain ⟨h179, hf⟩ := hf
            refine va_sld hx hb hX hbl hbA hS h179 dL_law_997 ?_
            refine lv_i2l hx hb dL_law_998 rfl ?_
            refine lv_ldc2 (v := 4294967295) hx hb hown (hts _ kw_1784) dL_law_999 ?_
            refine lv_land hx hb dL_law_1002 ?_
            refine lv_lor hx hb dL_law_1003 ?_
            refine lv_aload_n hx hb dL_law_1004 rfl (lv_at hl 1 rfl) ?_
            refine lv_iload hx hb dL_law_1005 (lv_at hl 5 rfl) ?_
            refine lv_iconst (v := 4) hx hb dL_law_1007 (by decide +kernel) ?_
            refine lv_iadd hx hb dL_law_1008 ?_
            obtain ⟨h180, hf⟩ := hf
            refine va_sld hx hb hX hbl hbA hS h180 dL_law_1009 ?_
            obtain ⟨k183, hf⟩ := hf
            refine gm_cl (va_runV (As := [.int (xs (x20 + 1).toNatClampNeg), .long ((((xs (x20 + 2).toNatClampNeg).toInt64) <<< ((32 : Int32).toInt64 &&& 63)) ||| (((xs (x20 + 3).toNatClampNeg).toInt64) &&& 4294967295)), .int (xs (x20 + 4).toNatClampNeg)]) (rest := []) ⟨hx, hb, hml, hown, hts⟩ (m_X12_known l D cy tq _ Y18 _ _ _ _ _ _) (cwV 3 hts (good_V kw_1618 kw_1619 kw_1620 kw_12 kw_1621) rfl rfl rfl (by decide +kernel) ⟨Nat.le_of_ble_eq_true rfl, Nat.le_of_ble_eq_true rfl⟩) (gm_preV hK hW hC hS hA k183 (by decide) (q := (RX12, TX12, 68)) rfl rfl hf) rfl rfl hl.1 rfl (lv_room (Nat.le_of_ble_eq_true rfl)) dL_law_1010 ⟨by show _ ≤ 61024; omega, by show _ ≤ 8913000; omega⟩) hW hS hA (fun r182 M181 H locs hW hS hf => ?_)
            refine lv_lstore (lv' := [(6, .long r182), (5, .int r176), (0, .ref b), (1, .ref q1), (2, .ref q9), (3, .ref q17), (4, .int x20)]) hx hb dL_law_1013 hl (by decide) rfl (fun ls hl => ?_)
            refine lv_aload_n hx hb dL_law_1015 rfl (lv_at hl 4 rfl) ?_
            refine gm_ci (va_runV (As := []) (rest := []) ⟨hx, hb, hml, hown, hts⟩ (m_X12_thrown l D cy tq _ Y18 _ _ _) (cwV 0 hts (good_V kw_1454 kw_1455 kw_1456 kw_12 kw_1457) rfl rfl rfl (by decide +kernel) ⟨Nat.le_of_ble_eq_true rfl, Nat.le_of_ble_eq_true rfl⟩) (gm_preV hK hW hC hS hA k183 (by decide) (q := (RX12, TX12, 68)) rfl rfl hf) rfl rfl hl.1 rfl (lv_room (Nat.le_of_ble_eq_true rfl)) dL_law_1016 ⟨by show _ ≤ 61024; omega, by show _ ≤ 8913000; omega⟩) hW hS hA (fun r185 M184 H locs hW hS hf => ?_)
            refine lv_iload hx hb dL_law_1019 (lv_at hl 1 rfl) ?_
            refine lv_icmp_eq (tgt := 1026) hx hb dL_law_1021 (by decide) (fun c186 => ?_) (fun c186 => ?_)
            · replace hf := hf.1 c186
              refine lv_iload hx hb dL_law_1026 (lv_at hl 1 rfl) ?_
              have j1042 : ∀ (H : Heap) (locs : List Loc) (ls : Array Slot), lv_has ls 8 [(0, .ref b), (1, .ref q1), (2, .ref q9), (3, .ref q17), (4, .int x20)] → Wd D cy A Y18 M184 H → va_S A s.heap H locs → f_L_law_1042 Y18 x20 (LOOP2 (L_L_law_53 Y18 L xs q1 q9 q17) n53) M184  → W p l e rm_L_law s m #[Value.ref b] below meth c H locs (124 + (513 - (n53 + 1)) * 3 + 2) (2232956 + (513 - (n53 + 1)) * 18 + 12) (lw_Z below #[Value.ref b] s) (F0 m 1042 ls []) := by
                intro  H locs ls hl hW hS hf
                unfold f_L_law_1042 at hf
                refine lv_goto (tgt := 2359) hx hb dL_law_1042 (by decide) ?_
                refine W.widen (k := 124 + (513 - (n53 + 1)) * 3 + 3) (n := 2232956 + (513 - (n53 + 1)) * 18 + 18) (by omega) (by omega) ?_
                exact j2359 _ _ _ _ (lv_sub hl [0, 1, 2, 3, 4] rfl) hW hS hf
              refine lv_if_ne (tgt := 1042) hx hb dL_law_1028 (by decide) (fun c187 => ?_) (fun c187 => ?_)
              · replace hf := hf.1 c187
                refine W.widen (k := 124 + (513 - (n53 + 1)) * 3 + 2) (n := 2232956 + (513 - (n53 + 1)) * 18 + 12) (by omega) (by omega) ?_
                exact j1042  _ _ _ (lv_sub hl [2, 3, 4, 5, 6] rfl) hW hS hf
              · replace hf := hf.2 c187
                refine lv_aload_n hx hb dL_law_1031 rfl (lv_at hl 5 rfl) ?_
                refine lv_iconst (v := 0) hx hb dL_law_1032 (by decide +kernel) ?_
                obtain ⟨k188, hf⟩ := hf
                obtain ⟨h189, hf⟩ := hf
                refine gm_lald hx hb hK hW k188 h189 dL_law_1033 ?_
                refine lv_lload hx hb dL_law_1034 (lv_at hl 0 rfl) ?_
                refine W.lcmp hx hb dL_law_1036 ?_
                refine lv_if_eq (tgt := 1042) hx hb dL_law_1037 (by decide) (fun c190 => ?_) (fun c190 => ?_)
                · replace hf := hf.1 (lg_eq.mp c190)
                  refine W.widen (k := 124 + (513 - (n53 + 1)) * 3 + 2) (n := 2232956 + (513 - (n53 + 1)) * 18 + 12) (by omega) (by omega) ?_
                  exact j1042  _ _ _ (lv_sub hl [2, 3, 4, 5, 6] rfl) hW hS hf
                · replace hf := hf.2 (fun z => c190 (lg_eq.mpr z))
                  refine lv_iconst (v := 0) hx hb dL_law_1040 (by decide +kernel) ?_
                  exact hf.elim
            · replace hf := hf.2 c186
              refine lv_iconst (v := 0) hx hb dL_law_1024 (by decide +kernel) ?_
              exact hf.elim
          · replace hf := hf.2.2.2.2.2.2.2.2.2.2.1 ec26
            refine lv_tableIn (off := 975) (tgt := 1045) hx hb dL_law_70 (by rw [ec26]; decide) (by rw [ec26]; decide) (by rw [ec26]; rfl) (by decide) ?_
            refine lv_aload_n hx hb dL_law_1045 rfl (lv_at hl 1 rfl) ?_
            refine lv_aload_n hx hb dL_law_1046 rfl (lv_at hl 0 rfl) ?_
            refine lv_iload hx hb dL_law_1047 (lv_at hl 4 rfl) ?_
            refine lv_iconst (v := 1) hx hb dL_law_1049 (by decide +kernel) ?_
            refine lv_iadd hx hb dL_law_1050 ?_
            obtain ⟨h191, hf⟩ := hf
            refine va_sld hx hb hX hbl hbA hS h191 dL_law_1051 ?_
            refine lv_aload_n hx hb dL_law_1052 rfl (lv_at hl 0 rfl) ?_
            refine lv_iload hx hb dL_law_1053 (lv_at hl 4 rfl) ?_
            refine lv_iconst (v := 2) hx hb dL_law_1055 (by decide +kernel) ?_
            refine lv_iadd hx hb dL_law_1056 ?_
            obtain ⟨h192, hf⟩ := hf
            refine va_sld hx hb hX hbl hbA hS h192 dL_law_1057 ?_
            refine lv_aload_n hx hb dL_law_1058 rfl (lv_at hl 3 rfl) ?_
            refine gm_ci (vx_runSW (As := [.ref q1, .int (xs (x20 + 1).toNatClampNeg), .int (xs (x20 + 2).toNatClampNeg), .ref q17]) (rest := []) ⟨hx, hb, hml, hown, hts⟩ (m_L_log l hlt D cy tq _ Y18 _ _ _ _ _ _) (vx_cwSW 4 hts (good_SW kw_944 kw_945 kw_0 kw_946) rfl rfl rfl (by decide +kernel) ⟨Nat.le_of_ble_eq_true rfl, Nat.le_of_ble_eq_true rfl⟩) (gm_preS hK hW hC hS hA hf) rfl rfl hl.1 rfl (lv_room (Nat.le_of_ble_eq_true rfl)) dL_law_1059 ⟨by show _ ≤ 61024; omega, by show _ ≤ 8913000; omega⟩) hW hS hA (fun r194 M193 H locs hW hS hf => ?_)
            refine lv_istore (lv' := [(5, .int r194), (0, .ref b), (1, .ref q1), (2, .ref q9), (3, .ref q17), (4, .int x20)]) hx hb dL_law_1062 hl (by decide) rfl (fun ls hl => ?_)
            refine lv_aload_n hx hb dL_law_1064 rfl (lv_at hl 3 rfl) ?_
            refine lv_aload_n hx hb dL_law_1065 rfl (lv_at hl 1 rfl) ?_
            refine lv_iload hx hb dL_law_1066 (lv_at hl 5 rfl) ?_
            refine lv_iconst (v := 1) hx hb dL_law_1068 (by decide +kernel) ?_
            refine lv_iadd hx hb dL_law_1069 ?_
            obtain ⟨h195, hf⟩ := hf
            refine va_sld hx hb hX hbl hbA hS h195 dL_law_1070 ?_
            refine lv_aload_n hx hb dL_law_1071 rfl (lv_at hl 1 rfl) ?_
            refine lv_iload hx hb dL_law_1072 (lv_at hl 5 rfl) ?_
            refine lv_iconst (v := 2) hx hb dL_law_1074 (by decide +kernel) ?_
            refine lv_iadd hx hb dL_law_1075 ?_
            obtain ⟨h196, hf⟩ := hf
            refine va_sld hx hb hX hbl hbA hS h196 dL_law_1076 ?_
            obtain ⟨k199, hf⟩ := hf
            refine gm_cl (va_runV (As := [.int (xs (x20 + 1).toNatClampNeg), .int (xs (x20 + 2).toNatClampNeg)]) (rest := []) ⟨hx, hb, hml, hown, hts⟩ (m_X12_log l D cy tq _ Y18 _ _ _ _ _) (cwV 2 hts (good_V kw_1622 kw_1623 kw_1624 kw_12 kw_1625) rfl rfl rfl (by decide +kernel) ⟨Nat.le_of_ble_eq_true rfl, Nat.le_of_ble_eq_true rfl⟩) (gm_preV hK hW hC hS hA k199 (by decide) (q := (RX12, TX12, 68)) rfl rfl hf) rfl rfl hl.1 rfl (lv_room (Nat.le_of_ble_eq_true rfl)) dL_law_1077 ⟨by show _ ≤ 61024; omega, by show _ ≤ 8913000; omega⟩) hW hS hA (fun r198 M197 H locs hW hS hf => ?_)
            refine lv_lstore (lv' := [(6, .long r198), (5, .int r194), (0, .ref b), (1, .ref q1), (2, .ref q9), (3, .ref q17), (4, .int x20)]) hx hb dL_law_1080 hl (by decide) rfl (fun ls hl => ?_)
            refine lv_aload_n hx hb dL_law_1082 rfl (lv_at hl 4 rfl) ?_
            refine gm_ci (va_runV (As := []) (rest := []) ⟨hx, hb, hml, hown, hts⟩ (m_X12_thrown l D cy tq _ Y18 _ _ _) (cwV 0 hts (good_V kw_1454 kw_1455 kw_1456 kw_12 kw_1457) rfl rfl rfl (by decide +kernel) ⟨Nat.le_of_ble_eq_true rfl, Nat.le_of_ble_eq_true rfl⟩) (gm_preV hK hW hC hS hA k199 (by decide) (q := (RX12, TX12, 68)) rfl rfl hf) rfl rfl hl.1 rfl (lv_room (Nat.le_of_ble_eq_true rfl)) dL_law_1083 ⟨by show _ ≤ 61024; omega, by show _ ≤ 8913000; omega⟩) hW hS hA (fun r201 M200 H locs hW hS hf => ?_)
            refine lv_iload hx hb dL_law_1086 (lv_at hl 1 rfl) ?_
            refine lv_icmp_eq (tgt := 1093) hx hb dL_law_1088 (by decide) (fun c202 => ?_) (fun c202 => ?_)
            · replace hf := hf.1 c202
              refine lv_iload hx hb dL_law_1093 (lv_at hl 1 rfl) ?_
              have j1109 : ∀ (H : Heap) (locs : List Loc) (ls : Array Slot), lv_has ls 8 [(0, .ref b), (1, .ref q1), (2, .ref q9), (3, .ref q17), (4, .int x20)] → Wd D cy A Y18 M200 H → va_S A s.heap H locs → f_L_law_1109 Y18 x20 (LOOP2 (L_L_law_53 Y18 L xs q1 q9 q17) n53) M200  → W p l e rm_L_law s m #[Value.ref b] below meth c H locs (124 + (513 - (n53 + 1)) * 3 + 2) (2232956 + (513 - (n53 + 1)) * 18 + 12) (lw_Z below #[Value.ref b] s) (F0 m 1109 ls []) := by
                intro  H locs ls hl hW hS hf
                unfold f_L_law_1109 at hf
                refine lv_goto (tgt := 2359) hx hb dL_law_1109 (by decide) ?_
                refine W.widen (k := 124 + (513 - (n53 + 1)) * 3 + 3) (n := 2232956 + (513 - (n53 + 1)) * 18 + 18) (by omega) (by omega) ?_
                exact j2359 _ _ _ _ (lv_sub hl [0, 1, 2, 3, 4] rfl) hW hS hf
              refine lv_if_ne (tgt := 1109) hx hb dL_law_1095 (by decide) (fun c203 => ?_) (fun c203 => ?_)
              · replace hf := hf.1 c203
                refine W.widen (k := 124 + (513 - (n53 + 1)) * 3 + 2) (n := 2232956 + (513 - (n53 + 1)) * 18 + 12) (by omega) (by omega) ?_
                exact j1109  _ _ _ (lv_sub hl [2, 3, 4, 5, 6] rfl) hW hS hf
              · replace hf := hf.2 c203
                refine lv_aload_n hx hb dL_law_1098 rfl (lv_at hl 5 rfl) ?_
                refine lv_iconst (v := 0) hx hb dL_law_1099 (by decide +kernel) ?_
                obtain ⟨k204, hf⟩ := hf
                obtain ⟨h205, hf⟩ := hf
                refine gm_lald hx hb hK hW k204 h205 dL_law_1100 ?_
                refine lv_lload hx hb dL_law_1101 (lv_at hl 0 rfl) ?_
                refine W.lcmp hx hb dL_law_1103 ?_
                refine lv_if_eq (tgt := 1109) hx hb dL_law_1104 (by decide) (fun c206 => ?_) (fun c206 => ?_)
                · replace hf := hf.1 (lg_eq.mp c206)
                  refine W.widen (k := 124 + (513 - (n53 + 1)) * 3 + 2) (n := 2232956 + (513 - (n53 + 1)) * 18 + 12) (by omega) (by omega) ?_
                  exact j1109  _ _ _ (lv_sub hl [2, 3, 4, 5, 6] rfl) hW hS hf
                · replace hf := hf.2 (fun z => c206 (lg_eq.mpr z))
                  refine lv_iconst (v := 0) hx hb dL_law_1107 (by decide +kernel) ?_
                  exact hf.elim
            · replace hf := hf.2 c202
              refine lv_iconst (v := 0) hx hb dL_law_1091 (by decide +kernel) ?_
              exact hf.elim
          · replace hf := hf.2.2.2.2.2.2.2.2.2.2.2.1 ec26
            refine lv_tableIn (off := 1042) (tgt := 1112) hx hb dL_law_70 (by rw [ec26]; decide) (by rw [ec26]; decide) (by rw [ec26]; rfl) (by decide) ?_
            refine lv_aload_n hx hb dL_law_1112 rfl (lv_at hl 1 rfl) ?_
            refine lv_aload_n hx hb dL_law_1113 rfl (lv_at hl 0 rfl) ?_
            refine lv_iload hx hb dL_law_1114 (lv_at hl 4 rfl) ?_
            refine lv_iconst (v := 1) hx hb dL_law_1116 (by decide +kernel) ?_
            refine lv_iadd hx hb dL_law_1117 ?_
            obtain ⟨h207, hf⟩ := hf
            refine va_sld hx hb hX hbl hbA hS h207 dL_law_1118 ?_
            refine lv_aload_n hx hb dL_law_1119 rfl (lv_at hl 0 rfl) ?_
            refine lv_iload hx hb dL_law_1120 (lv_at hl 4 rfl) ?_
            refine lv_iconst (v := 2) hx hb dL_law_1122 (by decide +kernel) ?_
            refine lv_iadd hx hb dL_law_1123 ?_
            obtain ⟨h208, hf⟩ := hf
            refine va_sld hx hb hX hbl hbA hS h208 dL_law_1124 ?_
            refine lv_i2l hx hb dL_law_1125 rfl ?_
            refine lv_bipush (v := 32) hx hb dL_law_1126 (by decide +kernel) ?_
            refine lv_lshl hx hb dL_law_1128 rfl ?_
            refine lv_aload_n hx hb dL_law_1129 rfl (lv_at hl 0 rfl) ?_
            refine lv_iload hx hb dL_law_1130 (lv_at hl 4 rfl) ?_
            refine lv_iconst (v := 3) hx hb dL_law_1132 (by decide +kernel) ?_
            refine lv_iadd hx hb dL_law_1133 ?_
            obtain ⟨h209, hf⟩ := hf
            refine va_sld hx hb hX hbl hbA hS h209 dL_law_1134 ?_
            refine lv_i2l hx hb dL_law_1135 rfl ?_
            refine lv_ldc2 (v := 4294967295) hx hb hown (hts _ kw_1784) dL_law_1136 ?_
            refine lv_land hx hb dL_law_1139 ?_
            refine lv_lor hx hb dL_law_1140 ?_
            refine lv_aload_n hx hb dL_law_1141 rfl (lv_at hl 0 rfl) ?_
            refine lv_iload hx hb dL_law_1142 (lv_at hl 4 rfl) ?_
            refine lv_iconst (v := 4) hx hb dL_law_1144 (by decide +kernel) ?_
            refine lv_iadd hx hb dL_law_1145 ?_
            obtain ⟨h210, hf⟩ := hf
            refine va_sld hx hb hX hbl hbA hS h210 dL_law_1146 ?_
            refine lv_aload_n hx hb dL_law_1147 rfl (lv_at hl 3 rfl) ?_
            refine gm_ci (vx_runSW (As := [.ref q1, .int (xs (x20 + 1).toNatClampNeg), .long ((((xs (x20 + 2).toNatClampNeg).toInt64) <<< ((32 : Int32).toInt64 &&& 63)) ||| (((xs (x20 + 3).toNatClampNeg).toInt64) &&& 4294967295)), .int (xs (x20 + 4).toNatClampNeg), .ref q17]) (rest := []) ⟨hx, hb, hml, hown, hts⟩ (m_L_fetch l hlt D cy tq _ Y18 _ _ _ _ _ _ _) (vx_cwSW 5 hts (good_SW kw_960 kw_961 kw_0 kw_962) rfl rfl rfl (by decide +kernel) ⟨Nat.le_of_ble_eq_true rfl, Nat.le_of_ble_eq_true rfl⟩) (gm_preS hK hW hC hS hA hf) rfl rfl hl.1 rfl (lv_room (Nat.le_of_ble_eq_true rfl)) dL_law_1148 ⟨by show _ ≤ 61024; omega, by show _ ≤ 8913000; omega⟩) hW hS hA (fun r212 M211 H locs hW hS hf => ?_)
            refine lv_istore (lv' := [(5, .int r212), (0, .ref b), (1, .ref q1), (2, .ref q9), (3, .ref q17), (4, .int x20)]) hx hb dL_law_1151 hl (by decide) rfl (fun ls hl => ?_)
            refine lv_aload_n hx hb dL_law_1153 rfl (lv_at hl 3 rfl) ?_
            refine lv_aload_n hx hb dL_law_1154 rfl (lv_at hl 1 rfl) ?_
            refine lv_iload hx hb dL_law_1155 (lv_at hl 5 rfl) ?_
            refine lv_iconst (v := 1) hx hb dL_law_1157 (by decide +kernel) ?_
            refine lv_iadd hx hb dL_law_1158 ?_
            obtain ⟨h213, hf⟩ := hf
            refine va_sld hx hb hX hbl hbA hS h213 dL_law_1159 ?_
            refine lv_aload_n hx hb dL_law_1160 rfl (lv_at hl 1 rfl) ?_
            refine lv_iload hx hb dL_law_1161 (lv_at hl 5 rfl) ?_
            refine lv_iconst (v := 2) hx hb dL_law_1163 (by decide +kernel) ?_
            refine lv_iadd hx hb dL_law_1164 ?_
            obtain ⟨h214, hf⟩ := hf
            refine va_sld hx hb hX hbl hbA hS h214 dL_law_1165 ?_
            refine lv_i2l hx hb dL_law_1166 rfl ?_
            refine lv_bipush (v := 32) hx hb dL_law_1167 (by decide +kernel) ?_
            refine lv_lshl hx hb dL_law_1169 rfl ?_
            refine lv_aload_n hx hb dL_law_1170 rfl (lv_at hl 1 rfl) ?_
            refine lv_iload hx hb dL_law_1171 (lv_at hl 5 rfl) ?_
            refine lv_iconst (v := 3) hx hb dL_law_1173 (by decide +kernel) ?_
            refine lv_iadd hx hb dL_law_1174 ?_
            obtain ⟨h215, hf⟩ := hf
            refine va_sld hx hb hX hbl hbA hS h215 dL_law_1175 ?_
            refine lv_i2l hx hb dL_law_1176 rfl ?_
            refine lv_ldc2 (v := 4294967295) hx hb hown (hts _ kw_1784) dL_law_1177 ?_
            refine lv_land hx hb dL_law_1180 ?_
            refine lv_lor hx hb dL_law_1181 ?_
            refine lv_aload_n hx hb dL_law_1182 rfl (lv_at hl 1 rfl) ?_
            refine lv_iload hx hb dL_law_1183 (lv_at hl 5 rfl) ?_
            refine lv_iconst (v := 4) hx hb dL_law_1185 (by decide +kernel) ?_
            refine lv_iadd hx hb dL_law_1186 ?_
            obtain ⟨h216, hf⟩ := hf
            refine va_sld hx hb hX hbl hbA hS h216 dL_law_1187 ?_
            obtain ⟨k219, hf⟩ := hf
            refine gm_ci (va_runV (As := [.int (xs (x20 + 1).toNatClampNeg), .long ((((xs (x20 + 2).toNatClampNeg).toInt64) <<< ((32 : Int32).toInt64 &&& 63)) ||| (((xs (x20 + 3).toNatClampNeg).toInt64) &&& 4294967295)), .int (xs (x20 + 4).toNatClampNeg)]) (rest := []) ⟨hx, hb, hml, hown, hts⟩ (m_X12_fetch l D cy tq _ Y18 _ _ _ _ _ _) (cwV 3 hts (good_V kw_1626 kw_1627 kw_1628 kw_12 kw_1629) rfl rfl rfl (by decide +kernel) ⟨Nat.le_of_ble_eq_true rfl, Nat.le_of_ble_eq_true rfl⟩) (gm_preV hK hW hC hS hA k219 (by decide) (q := (RX12, TX12, 68)) rfl rfl hf) rfl rfl hl.1 rfl (lv_room (Nat.le_of_ble_eq_true rfl)) dL_law_1188 ⟨by show _ ≤ 61024; omega, by show _ ≤ 8913000; omega⟩) hW hS hA (fun r218 M217 H locs hW hS hf => ?_)
            refine lv_istore (lv' := [(6, .int r218), (5, .int r212), (0, .ref b), (1, .ref q1), (2, .ref q9), (3, .ref q17), (4, .int x20)]) hx hb dL_law_1191 hl (by decide) rfl (fun ls hl => ?_)
            refine lv_aload_n hx hb dL_law_1193 rfl (lv_at hl 4 rfl) ?_
            refine gm_ci (va_runV (As := []) (rest := []) ⟨hx, hb, hml, hown, hts⟩ (m_X12_thrown l D cy tq _ Y18 _ _ _) (cwV 0 hts (good_V kw_1454 kw_1455 kw_1456 kw_12 kw_1457) rfl rfl rfl (by decide +kernel) ⟨Nat.le_of_ble_eq_true rfl, Nat.le_of_ble_eq_true rfl⟩) (gm_preV hK hW hC hS hA k219 (by decide) (q := (RX12, TX12, 68)) rfl rfl hf) rfl rfl hl.1 rfl (lv_room (Nat.le_of_ble_eq_true rfl)) dL_law_1194 ⟨by show _ ≤ 61024; omega, by show _ ≤ 8913000; omega⟩) hW hS hA (fun r221 M220 H locs hW hS hf => ?_)
            refine lv_iload hx hb dL_law_1197 (lv_at hl 1 rfl) ?_
            refine lv_icmp_eq (tgt := 1204) hx hb dL_law_1199 (by decide) (fun c222 => ?_) (fun c222 => ?_)
            · replace hf := hf.1 c222
              refine lv_iload hx hb dL_law_1204 (lv_at hl 1 rfl) ?_
              have j1221 : ∀ (H : Heap) (locs : List Loc) (ls : Array Slot), lv_has ls 8 [(0, .ref b), (1, .ref q1), (2, .ref q9), (3, .ref q17), (4, .int x20)] → Wd D cy A Y18 M220 H → va_S A s.heap H locs → f_L_law_1221 Y18 x20 (LOOP2 (L_L_law_53 Y18 L xs q1 q9 q17) n53) M220  → W p l e rm_L_law s m #[Value.ref b] below meth c H locs (124 + (513 - (n53 + 1)) * 3 + 2) (2232956 + (513 - (n53 + 1)) * 18 + 12) (lw_Z below #[Value.ref b] s) (F0 m 1221 ls []) := by
                intro  H locs ls hl hW hS hf
                unfold f_L_law_1221 at hf
                refine lv_goto (tgt := 2359) hx hb dL_law_1221 (by decide) ?_
                refine W.widen (k := 124 + (513 - (n53 + 1)) * 3 + 3) (n := 2232956 + (513 - (n53 + 1)) * 18 + 18) (by omega) (by omega) ?_
                exact j2359 _ _ _ _ (lv_sub hl [0, 1, 2, 3, 4] rfl) hW hS hf
              refine lv_if_ne (tgt := 1221) hx hb dL_law_1206 (by decide) (fun c223 => ?_) (fun c223 => ?_)
              · replace hf := hf.1 c223
                refine W.widen (k := 124 + (513 - (n53 + 1)) * 3 + 2) (n := 2232956 + (513 - (n53 + 1)) * 18 + 12) (by omega) (by omega) ?_
                exact j1221  _ _ _ (lv_sub hl [2, 3, 4, 5, 6] rfl) hW hS hf
              · replace hf := hf.2 c223
                refine lv_aload_n hx hb dL_law_1209 rfl (lv_at hl 5 rfl) ?_
                refine lv_iconst (v := 0) hx hb dL_law_1210 (by decide +kernel) ?_
                obtain ⟨k224, hf⟩ := hf
                obtain ⟨h225, hf⟩ := hf
                refine gm_lald hx hb hK hW k224 h225 dL_law_1211 ?_
                refine lv_iload hx hb dL_law_1212 (lv_at hl 0 rfl) ?_
                refine lv_i2l hx hb dL_law_1214 rfl ?_
                refine W.lcmp hx hb dL_law_1215 ?_
                refine lv_if_eq (tgt := 1221) hx hb dL_law_1216 (by decide) (fun c226 => ?_) (fun c226 => ?_)
                · replace hf := hf.1 (lg_eq.mp c226)
                  refine W.widen (k := 124 + (513 - (n53 + 1)) * 3 + 2) (n := 2232956 + (513 - (n53 + 1)) * 18 + 12) (by omega) (by omega) ?_
                  exact j1221  _ _ _ (lv_sub hl [2, 3, 4, 5, 6] rfl) hW hS hf
                · replace hf := hf.2 (fun z => c226 (lg_eq.mpr z))
                  refine lv_iconst (v := 0) hx hb dL_law_1219 (by decide +kernel) ?_
                  exact hf.elim
            · replace hf := hf.2 c222
              refine lv_iconst (v := 0) hx hb dL_law_1202 (by decide +kernel) ?_
              exact hf.elim
          · replace hf := hf.2.2.2.2.2.2.2.2.2.2.2.2.1 ec26
            refine lv_tableIn (off := 1154) (tgt := 1224) hx hb dL_law_70 (by rw [ec26]; decide) (by rw [ec26]; decide) (by rw [ec26]; rfl) (by decide) ?_
            refine lv_aload_n hx hb dL_law_1224 rfl (lv_at hl 1 rfl) ?_
            refine lv_aload_n hx hb dL_law_1225 rfl (lv_at hl 0 rfl) ?_
            refine lv_iload hx hb dL_law_1226 (lv_at hl 4 rfl) ?_
            refine lv_iconst (v := 1) hx hb dL_law_1228 (by decide +kernel) ?_
            refine lv_iadd hx hb dL_law_1229 ?_
            obtain ⟨h227, hf⟩ := hf
            refine va_sld hx hb hX hbl hbA hS h227 dL_law_1230 ?_
            refine lv_aload_n hx hb dL_law_1231 rfl (lv_at hl 3 rfl) ?_
            refine gm_ci (vx_runSW (As := [.ref q1, .int (xs (x20 + 1).toNatClampNeg), .ref q17]) (rest := []) ⟨hx, hb, hml, hown, hts⟩ (m_L_byteAt l hlt D cy tq _ Y18 _ _ _ _ _) (vx_cwSW 3 hts (good_SW kw_998 kw_999 kw_0 kw_1000) rfl rfl rfl (by decide +kernel) ⟨Nat.le_of_ble_eq_true rfl, Nat.le_of_ble_eq_true rfl⟩) (gm_preS hK hW hC hS hA hf) rfl rfl hl.1 rfl (lv_room (Nat.le_of_ble_eq_true rfl)) dL_law_1232 ⟨by show _ ≤ 61024; omega, by show _ ≤ 8913000; omega⟩) hW hS hA (fun r229 M228 H locs hW hS hf => ?_)
            refine lv_istore (lv' := [(5, .int r229), (0, .ref b), (1, .ref q1), (2, .ref q9), (3, .ref q17), (4, .int x20)]) hx hb dL_law_1235 hl (by decide) rfl (fun ls hl => ?_)
            refine lv_aload_n hx hb dL_law_1237 rfl (lv_at hl 3 rfl) ?_
            refine lv_aload_n hx hb dL_law_1238 rfl (lv_at hl 1 rfl) ?_
            refine lv_iload hx hb dL_law_1239 (lv_at hl 5 rfl) ?_
            refine lv_iconst (v := 1) hx hb dL_law_1241 (by decide +kernel) ?_
            refine lv_iadd hx hb dL_law_1242 ?_
            obtain ⟨h230, hf⟩ := hf
            refine va_sld hx hb hX hbl hbA hS h230 dL_law_1243 ?_
            obtain ⟨k233, hf⟩ := hf
            refine gm_ci (va_runV (As := [.int (xs (x20 + 1).toNatClampNeg)]) (rest := []) ⟨hx, hb, hml, hown, hts⟩ (m_X12_byteAt l D cy tq _ Y18 _ _ _ _) (cwV 1 hts (good_V kw_1639 kw_1640 kw_1641 kw_12 kw_1642) rfl rfl rfl (by decide +kernel) ⟨Nat.le_of_ble_eq_true rfl, Nat.le_of_ble_eq_true rfl⟩) (gm_preV hK hW hC hS hA k233 (by decide) (q := (RX12, TX12, 68)) rfl rfl hf) rfl rfl hl.1 rfl (lv_room (Nat.le_of_ble_eq_true rfl)) dL_law_1244 ⟨by show _ ≤ 61024; omega, by show _ ≤ 8913000; omega⟩) hW hS hA (fun r232 M231 H locs hW hS hf => ?_)
            refine lv_istore (lv' := [(6, .int r232), (5, .int r229), (0, .ref b), (1, .ref q1), (2, .ref q9), (3, .ref q17), (4, .int x20)]) hx hb dL_law_1247 hl (by decide) rfl (fun ls hl => ?_)
            refine lv_aload_n hx hb dL_law_1249 rfl (lv_at hl 4 rfl) ?_
            refine gm_ci (va_runV (As := []) (rest := []) ⟨hx, hb, hml, hown, hts⟩ (m_X12_thrown l D cy tq _ Y18 _ _ _) (cwV 0 hts (good_V kw_1454 kw_1455 kw_1456 kw_12 kw_1457) rfl rfl rfl (by decide +kernel) ⟨Nat.le_of_ble_eq_true rfl, Nat.le_of_ble_eq_true rfl⟩) (gm_preV hK hW hC hS hA k233 (by decide) (q := (RX12, TX12, 68)) rfl rfl hf) rfl rfl hl.1 rfl (lv_room (Nat.le_of_ble_eq_true rfl)) dL_law_1250 ⟨by show _ ≤ 61024; omega, by show _ ≤ 8913000; omega⟩) hW hS hA (fun r235 M234 H locs hW hS hf => ?_)
            refine lv_iload hx hb dL_law_1253 (lv_at hl 1 rfl) ?_
            refine lv_icmp_eq (tgt := 1260) hx hb dL_law_1255 (by decide) (fun c236 => ?_) (fun c236 => ?_)
            · replace hf := hf.1 c236
              refine lv_iload hx hb dL_law_1260 (lv_at hl 1 rfl) ?_
              have j1277 : ∀ (H : Heap) (locs : List Loc) (ls : Array Slot), lv_has ls 8 [(0, .ref b), (1, .ref q1), (2, .ref q9), (3, .ref q17), (4, .int x20)] → Wd D cy A Y18 M234 H → va_S A s.heap H locs → f_L_law_1277 Y18 x20 (LOOP2 (L_L_law_53 Y18 L xs q1 q9 q17) n53) M234  → W p l e rm_L_law s m #[Value.ref b] below meth c H locs (124 + (513 - (n53 + 1)) * 3 + 1) (2232956 + (513 - (n53 + 1)) * 18 + 6) (lw_Z below #[Value.ref b] s) (F0 m 1277 ls []) := by
                intro  H locs ls hl hW hS hf
                unfold f_L_law_1277 at hf
                refine lv_goto (tgt := 2359) hx hb dL_law_1277 (by decide) ?_
                refine W.widen (k := 124 + (513 - (n53 + 1)) * 3 + 3) (n := 2232956 + (513 - (n53 + 1)) * 18 + 18) (by omega) (by omega) ?_
                exact j2359 _ _ _ _ (lv_sub hl [0, 1, 2, 3, 4] rfl) hW hS hf
              refine lv_if_ne (tgt := 1277) hx hb dL_law_1262 (by decide) (fun c237 => ?_) (fun c237 => ?_)
              · replace hf := hf.1 c237
                refine W.widen (k := 124 + (513 - (n53 + 1)) * 3 + 1) (n := 2232956 + (513 - (n53 + 1)) * 18 + 6) (by omega) (by omega) ?_
                exact j1277  _ _ _ (lv_sub hl [2, 3, 4, 5, 6] rfl) hW hS hf
              · replace hf := hf.2 c237
                refine lv_aload_n hx hb dL_law_1265 rfl (lv_at hl 5 rfl) ?_
                refine lv_iconst (v := 0) hx hb dL_law_1266 (by decide +kernel) ?_
                obtain ⟨k238, hf⟩ := hf
                obtain ⟨h239, hf⟩ := hf
                refine gm_lald hx hb hK hW k238 h239 dL_law_1267 ?_
                refine lv_iload hx hb dL_law_1268 (lv_at hl 0 rfl) ?_
                refine lv_i2l hx hb dL_law_1270 rfl ?_
                refine W.lcmp hx hb dL_law_1271 ?_
                refine lv_if_eq (tgt := 1277) hx hb dL_law_1272 (by decide) (fun c240 => ?_) (fun c240 => ?_)
                · replace hf := hf.1 (lg_eq.mp c240)
                  refine W.widen (k := 124 + (513 - (n53 + 1)) * 3 + 1) (n := 2232956 + (513 - (n53 + 1)) * 18 + 6) (by omega) (by omega) ?_
                  exact j1277  _ _ _ (lv_sub hl [2, 3, 4, 5, 6] rfl) hW hS hf
                · replace hf := hf.2 (fun z => c240 (lg_eq.mpr z))
                  refine lv_iconst (v := 0) hx hb dL_law_1275 (by decide +kernel) ?_
                  exact hf.elim
            · replace hf := hf.2 c236
              refine lv_iconst (v := 0) hx hb dL_law_1258 (by decide +kernel) ?_
              exact hf.elim
          · replace hf := hf.2.2.2.2.2.2.2.2.2.2.2.2.2.1 ec26
            refine lv_tableIn (off := 1210) (tgt := 1280) hx hb dL_law_70 (by rw [ec26]; decide) (by rw [ec26]; decide) (by rw [ec26]; rfl) (by decide) ?_
            refine lv_aload_n hx hb dL_law_1280 rfl (lv_at hl 1 rfl) ?_
            refine lv_aload_n hx hb dL_law_1281 rfl (lv_at hl 0 rfl) ?_
            refine lv_iload hx hb dL_law_1282 (lv_at hl 4 rfl) ?_
            refine lv_iconst (v := 1) hx hb dL_law_1284 (by decide +kernel) ?_
            refine lv_iadd hx hb dL_law_1285 ?_
            obtain ⟨h241, hf⟩ := hf
            refine va_sld hx hb hX hbl hbA hS h241 dL_law_1286 ?_
            refine lv_aload_n hx hb dL_law_1287 rfl (lv_at hl 0 rfl) ?_
            refine lv_iload hx hb dL_law_1288 (lv_at hl 4 rfl) ?_
            refine lv_iconst (v := 2) hx hb dL_law_1290 (by decide +kernel) ?_
            refine lv_iadd hx hb dL_law_1291 ?_
            obtain ⟨h242, hf⟩ := hf
            refine va_sld hx hb hX hbl hbA hS h242 dL_law_1292 ?_
            refine lv_aload_n hx hb dL_law_1293 rfl (lv_at hl 3 rfl) ?_
            refine gm_ci (vx_runSW (As := [.ref q1, .int (xs (x20 + 1).toNatClampNeg), .int (xs (x20 + 2).toNatClampNeg), .ref q17]) (rest := []) ⟨hx, hb, hml, hown, hts⟩ (m_L_taken l hlt D cy tq _ Y18 _ _ _ _ _ _) (vx_cwSW 4 hts (good_SW kw_1005 kw_1006 kw_0 kw_1007) rfl rfl rfl (by decide +kernel) ⟨Nat.le_of_ble_eq_true rfl, Nat.le_of_ble_eq_true rfl⟩) (gm_preS hK hW hC hS hA hf) rfl rfl hl.1 rfl (lv_room (Nat.le_of_ble_eq_true rfl)) dL_law_1294 ⟨by show _ ≤ 61024; omega, by show _ ≤ 8913000; omega⟩) hW hS hA (fun r244 M243 H locs hW hS hf => ?_)
            refine lv_istore (lv' := [(5, .int r244), (0, .ref b), (1, .ref q1), (2, .ref q9), (3, .ref q17), (4, .int x20)]) hx hb dL_law_1297 hl (by decide) rfl (fun ls hl => ?_)
            refine lv_aload_n hx hb dL_law_1299 rfl (lv_at hl 3 rfl) ?_
            refine lv_aload_n hx hb dL_law_1300 rfl (lv_at hl 1 rfl) ?_
            refine lv_iload hx hb dL_law_1301 (lv_at hl 5 rfl) ?_
            refine lv_iconst (v := 1) hx hb dL_law_1303 (by decide +kernel) ?_
            refine lv_iadd hx hb dL_law_1304 ?_
            obtain ⟨h245, hf⟩ := hf
            refine va_sld hx hb hX hbl hbA hS h245 dL_law_1305 ?_
            refine lv_aload_n hx hb dL_law_1306 rfl (lv_at hl 1 rfl) ?_
            refine lv_iload hx hb dL_law_1307 (lv_at hl 5 rfl) ?_
            refine lv_iconst (v := 2) hx hb dL_law_1309 (by decide +kernel) ?_
            refine lv_iadd hx hb dL_law_1310 ?_
            obtain ⟨h246, hf⟩ := hf
            refine va_sld hx hb hX hbl hbA hS h246 dL_law_1311 ?_
            obtain ⟨k249, hf⟩ := hf
            refine gm_cl (va_runV (As := [.int (xs (x20 + 1).toNatClampNeg), .int (xs (x20 + 2).toNatClampNeg)]) (rest := []) ⟨hx, hb, hml, hown, hts⟩ (m_X12_taken l D cy tq _ Y18 _ _ _ _ _) (cwV 2 hts (good_V kw_1643 kw_1644 kw_1645 kw_12 kw_1646) rfl rfl rfl (by decide +kernel) ⟨Nat.le_of_ble_eq_true rfl, Nat.le_of_ble_eq_true rfl⟩) (gm_preV hK hW hC hS hA k249 (by decide) (q := (RX12, TX12, 68)) rfl rfl hf) rfl rfl hl.1 rfl (lv_room (Nat.le_of_ble_eq_true rfl)) dL_law_1312 ⟨by show _ ≤ 61024; omega, by show _ ≤ 8913000; omega⟩) hW hS hA (fun r248 M247 H locs hW hS hf => ?_)
            refine lv_lstore (lv' := [(6, .long r248), (5, .int r244), (0, .ref b), (1, .ref q1), (2, .ref q9), (3, .ref q17), (4, .int x20)]) hx hb dL_law_1315 hl (by decide) rfl (fun ls hl => ?_)
            refine lv_aload_n hx hb dL_law_1317 rfl (lv_at hl 4 rfl) ?_
            refine gm_ci (va_runV (As := []) (rest := []) ⟨hx, hb, hml, hown, hts⟩ (m_X12_thrown l D cy tq _ Y18 _ _ _) (cwV 0 hts (good_V kw_1454 kw_1455 kw_1456 kw_12 kw_1457) rfl rfl rfl (by decide +kernel) ⟨Nat.le_of_ble_eq_true rfl, Nat.le_of_ble_eq_true rfl⟩) (gm_preV hK hW hC hS hA k249 (by decide) (q := (RX12, TX12, 68)) rfl rfl hf) rfl rfl hl.1 rfl (lv_room (Nat.le_of_ble_eq_true rfl)) dL_law_1318 ⟨by show _ ≤ 61024; omega, by show _ ≤ 8913000; omega⟩) hW hS hA (fun r251 M250 H locs hW hS hf => ?_)
            refine lv_iload hx hb dL_law_1321 (lv_at hl 1 rfl) ?_
            refine lv_icmp_eq (tgt := 1328) hx hb dL_law_1323 (by decide) (fun c252 => ?_) (fun c252 => ?_)
            · replace hf := hf.1 c252
              refine lv_iload hx hb dL_law_1328 (lv_at hl 1 rfl) ?_
              have j1344 : ∀ (H : Heap) (locs : List Loc) (ls : Array Slot), lv_has ls 8 [(0, .ref b), (1, .ref q1), (2, .ref q9), (3, .ref q17), (4, .int x20)] → Wd D cy A Y18 M250 H → va_S A s.heap H locs → f_L_law_1344 Y18 x20 (LOOP2 (L_L_law_53 Y18 L xs q1 q9 q17) n53) M250  → W p l e rm_L_law s m #[Value.ref b] below meth c H locs (124 + (513 - (n53 + 1)) * 3 + 1) (2232956 + (513 - (n53 + 1)) * 18 + 6) (lw_Z below #[Value.ref b] s) (F0 m 1344 ls []) := by
                intro  H locs ls hl hW hS hf
                unfold f_L_law_1344 at hf
                refine lv_goto (tgt := 2359) hx hb dL_law_1344 (by decide) ?_
                refine W.widen (k := 124 + (513 - (n53 + 1)) * 3 + 3) (n := 2232956 + (513 - (n53 + 1)) * 18 + 18) (by omega) (by omega) ?_
                exact j2359 _ _ _ _ (lv_sub hl [0, 1, 2, 3, 4] rfl) hW hS hf
              refine lv_if_ne (tgt := 1344) hx hb dL_law_1330 (by decide) (fun c253 => ?_) (fun c253 => ?_)
              · replace hf := hf.1 c253
                refine W.widen (k := 124 + (513 - (n53 + 1)) * 3 + 1) (n := 2232956 + (513 - (n53 + 1)) * 18 + 6) (by omega) (by omega) ?_
                exact j1344  _ _ _ (lv_sub hl [2, 3, 4, 5, 6] rfl) hW hS hf
              · replace hf := hf.2 c253
                refine lv_aload_n hx hb dL_law_1333 rfl (lv_at hl 5 rfl) ?_
                refine lv_iconst (v := 0) hx hb dL_law_1334 (by decide +kernel) ?_
                obtain ⟨k254, hf⟩ := hf
                obtain ⟨h255, hf⟩ := hf
                refine gm_lald hx hb hK hW k254 h255 dL_law_1335 ?_
                refine lv_lload hx hb dL_law_1336 (lv_at hl 0 rfl) ?_
                refine W.lcmp hx hb dL_law_1338 ?_
                refine lv_if_eq (tgt := 1344) hx hb dL_law_1339 (by decide) (fun c256 => ?_) (fun c256 => ?_)
                · replace hf := hf.1 (lg_eq.mp c256)
                  refine W.widen (k := 124 + (513 - (n53 + 1)) * 3 + 1) (n := 2232956 + (513 - (n53 + 1)) * 18 + 6) (by omega) (by omega) ?_
                  exact j1344  _ _ _ (lv_sub hl [2, 3, 4, 5, 6] rfl) hW hS hf
                · replace hf := hf.2 (fun z => c256 (lg_eq.mpr z))
                  refine lv_iconst (v := 0) hx hb dL_law_1342 (by decide +kernel) ?_
                  exact hf.elim
            · replace hf := hf.2 c252
              refine lv_iconst (v := 0) hx hb dL_law_1326 (by decide +kernel) ?_
              exact hf.elim
          · replace hf := hf.2.2.2.2.2.2.2.2.2.2.2.2.2.2.1 ec26
            refine lv_tableIn (off := 1277) (tgt := 1347) hx hb dL_law_70 (by rw [ec26]; decide) (by rw [ec26]; decide) (by rw [ec26]; rfl) (by decide) ?_
            refine lv_aload_n hx hb dL_law_1347 rfl (lv_at hl 1 rfl) ?_
            refine lv_aload_n hx hb dL_law_1348 rfl (lv_at hl 0 rfl) ?_
            refine lv_iload hx hb dL_law_1349 (lv_at hl 4 rfl) ?_
            refine lv_iconst (v := 1) hx hb dL_law_1351 (by decide +kernel) ?_
            refine lv_iadd hx hb dL_law_1352 ?_
            obtain ⟨h257, hf⟩ := hf
            refine va_sld hx hb hX hbl hbA hS h257 dL_law_1353 ?_
            refine lv_aload_n hx hb dL_law_1354 rfl (lv_at hl 0 rfl) ?_
            refine lv_iload hx hb dL_law_1355 (lv_at hl 4 rfl) ?_
            refine lv_iconst (v := 2) hx hb dL_law_1357 (by decide +kernel) ?_
            refine lv_iadd hx hb dL_law_1358 ?_
            obtain ⟨h258, hf⟩ := hf
            refine va_sld hx hb hX hbl hbA hS h258 dL_law_1359 ?_
            refine lv_i2l hx hb dL_law_1360 rfl ?_
            refine lv_bipush (v := 32) hx hb dL_law_1361 (by decide +kernel) ?_
            refine lv_lshl hx hb dL_law_1363 rfl ?_
            refine lv_aload_n hx hb dL_law_1364 rfl (lv_at hl 0 rfl) ?_
            refine lv_iload hx hb dL_law_1365 (lv_at hl 4 rfl) ?_
            refine lv_iconst (v := 3) hx hb dL_law_1367 (by decide +kernel) ?_
            refine lv_iadd hx hb dL_law_1368 ?_
            obtain ⟨h259, hf⟩ := hf
            refine va_sld hx hb hX hbl hbA hS h259 dL_law_1369 ?_
            refine lv_i2l hx hb dL_law_1370 rfl ?_
            refine lv_ldc2 (v := 4294967295) hx hb hown (hts _ kw_1784) dL_law_1371 ?_
            refine lv_land hx hb dL_law_1374 ?_
            refine lv_lor hx hb dL_law_1375 ?_
            refine lv_aload_n hx hb dL_law_1376 rfl (lv_at hl 3 rfl) ?_
            refine gm_ci (vx_runSW (As := [.ref q1, .int (xs (x20 + 1).toNatClampNeg), .long ((((xs (x20 + 2).toNatClampNeg).toInt64) <<< ((32 : Int32).toInt64 &&& 63)) ||| (((xs (x20 + 3).toNatClampNeg).toInt64) &&& 4294967295)), .ref q17]) (rest := []) ⟨hx, hb, hml, hown, hts⟩ (m_L_find l hlt D cy tq _ Y18 _ _ _ _ _ _) (vx_cwSW 4 hts (good_SW kw_1029 kw_1030 kw_0 kw_1031) rfl rfl rfl (by decide +kernel) ⟨Nat.le_of_ble_eq_true rfl, Nat.le_of_ble_eq_true rfl⟩) (gm_preS hK hW hC hS hA hf) rfl rfl hl.1 rfl (lv_room (Nat.le_of_ble_eq_true rfl)) dL_law_1377 ⟨by show _ ≤ 61024; omega, by show _ ≤ 8913000; omega⟩) hW hS hA (fun r261 M260 H locs hW hS hf => ?_)
            refine lv_istore (lv' := [(5, .int r261), (0, .ref b), (1, .ref q1), (2, .ref q9), (3, .ref q17), (4, .int x20)]) hx hb dL_law_1380 hl (by decide) rfl (fun ls hl => ?_)
            refine lv_aload_n hx hb dL_law_1382 rfl (lv_at hl 3 rfl) ?_
            refine lv_aload_n hx hb dL_law_1383 rfl (lv_at hl 1 rfl) ?_
            refine lv_iload hx hb dL_law_1384 (lv_at hl 5 rfl) ?_
            refine lv_iconst (v := 1) hx hb dL_law_1386 (by decide +kernel) ?_
            refine lv_iadd hx hb dL_law_1387 ?_
            obtain ⟨h262, hf⟩ := hf
            refine va_sld hx hb hX hbl hbA hS h262 dL_law_1388 ?_
            refine lv_aload_n hx hb dL_law_1389 rfl (lv_at hl 1 rfl) ?_
            refine lv_iload hx hb dL_law_1390 (lv_at hl 5 rfl) ?_
            refine lv_iconst (v := 2) hx hb dL_law_1392 (by decide +kernel) ?_
            refine lv_iadd hx hb dL_law_1393 ?_
            obtain ⟨h263, hf⟩ := hf
            refine va_sld hx hb hX hbl hbA hS h263 dL_law_1394 ?_
            refine lv_i2l hx hb dL_law_1395 rfl ?_
            refine lv_bipush (v := 32) hx hb dL_law_1396 (by decide +kernel) ?_
            refine lv_lshl hx hb dL_law_1398 rfl ?_
            refine lv_aload_n hx hb dL_law_1399 rfl (lv_at hl 1 rfl) ?_
            refine lv_iload hx hb dL_law_1400 (lv_at hl 5 rfl) ?_
            refine lv_iconst (v := 3) hx hb dL_law_1402 (by decide +kernel) ?_
            refine lv_iadd hx hb dL_law_1403 ?_
            obtain ⟨h264, hf⟩ := hf
            refine va_sld hx hb hX hbl hbA hS h264 dL_law_1404 ?_
            refine lv_i2l hx hb dL_law_1405 rfl ?_
            refine lv_ldc2 (v := 4294967295) hx hb hown (hts _ kw_1784) dL_law_1406 ?_
            refine lv_land hx hb dL_law_1409 ?_
            refine lv_lor hx hb dL_law_1410 ?_
            obtain ⟨k267, hf⟩ := hf
            refine gm_cl (va_runV (As := [.int (xs (x20 + 1).toNatClampNeg), .long ((((xs (x20 + 2).toNatClampNeg).toInt64) <<< ((32 : Int32).toInt64 &&& 63)) ||| (((xs (x20 + 3).toNatClampNeg).toInt64) &&& 4294967295))]) (rest := []) ⟨hx, hb, hml, hown, hts⟩ (m_X12_find l D cy tq _ Y18 _ _ _ _ _) (cwV 2 hts (good_V kw_1650 kw_1651 kw_1652 kw_12 kw_1653) rfl rfl rfl (by decide +kernel) ⟨Nat.le_of_ble_eq_true rfl, Nat.le_of_ble_eq_true rfl⟩) (gm_preV hK hW hC hS hA k267 (by decide) (q := (RX12, TX12, 68)) rfl rfl hf) rfl rfl hl.1 rfl (lv_room (Nat.le_of_ble_eq_true rfl)) dL_law_1411 ⟨by show _ ≤ 61024; omega, by show _ ≤ 8913000; omega⟩) hW hS hA (fun r266 M265 H locs hW hS hf => ?_)
            refine lv_lstore (lv' := [(6, .long r266), (5, .int r261), (0, .ref b), (1, .ref q1), (2, .ref q9), (3, .ref q17), (4, .int x20)]) hx hb dL_law_1414 hl (by decide) rfl (fun ls hl => ?_)
            refine lv_aload_n hx hb dL_law_1416 rfl (lv_at hl 4 rfl) ?_
            refine gm_ci (va_runV (As := []) (rest := []) ⟨hx, hb, hml, hown, hts⟩ (m_X12_thrown l D cy tq _ Y18 _ _ _) (cwV 0 hts (good_V kw_1454 kw_1455 kw_1456 kw_12 kw_1457) rfl rfl rfl (by decide +kernel) ⟨Nat.le_of_ble_eq_true rfl, Nat.le_of_ble_eq_true rfl⟩) (gm_preV hK hW hC hS hA k267 (by decide) (q := (RX12, TX12, 68)) rfl rfl hf) rfl rfl hl.1 rfl (lv_room (Nat.le_of_ble_eq_true rfl)) dL_law_1417 ⟨by show _ ≤ 61024; omega, by show _ ≤ 8913000; omega⟩) hW hS hA (fun r269 M268 H locs hW hS hf => ?_)
            refine lv_iload hx hb dL_law_1420 (lv_at hl 1 rfl) ?_
            refine lv_icmp_eq (tgt := 1427) hx hb dL_law_1422 (by decide) (fun c270 => ?_) (fun c270 => ?_)
            · replace hf := hf.1 c270
              refine lv_iload hx hb dL_law_1427 (lv_at hl 1 rfl) ?_
              have j1443 : ∀ (H : Heap) (locs : List Loc) (ls : Array Slot), lv_has ls 8 [(0, .ref b), (1, .ref q1), (2, .ref q9), (3, .ref q17), (4, .int x20)] → Wd D cy A Y18 M268 H → va_S A s.heap H locs → f_L_law_1443 Y18 x20 (LOOP2 (L_L_law_53 Y18 L xs q1 q9 q17) n53) M268  → W p l e rm_L_law s m #[Value.ref b] below meth c H locs (124 + (513 - (n53 + 1)) * 3 + 2) (2232956 + (513 - (n53 + 1)) * 18 + 12) (lw_Z below #[Value.ref b] s) (F0 m 1443 ls []) := by
                intro  H locs ls hl hW hS hf
                unfold f_L_law_1443 at hf
                refine lv_goto (tgt := 2359) hx hb dL_law_1443 (by decide) ?_
                refine W.widen (k := 124 + (513 - (n53 + 1)) * 3 + 3) (n := 2232956 + (513 - (n53 + 1)) * 18 + 18) (by omega) (by omega) ?_
                exact j2359 _ _ _ _ (lv_sub hl [0, 1, 2, 3, 4] rfl) hW hS hf
              refine lv_if_ne (tgt := 1443) hx hb dL_law_1429 (by decide) (fun c271 => ?_) (fun c271 => ?_)
              · replace hf := hf.1 c271
                refine W.widen (k := 124 + (513 - (n53 + 1)) * 3 + 2) (n := 2232956 + (513 - (n53 + 1)) * 18 + 12) (by omega) (by omega) ?_
                exact j1443  _ _ _ (lv_sub hl [2, 3, 4, 5, 6] rfl) hW hS hf
              · replace hf := hf.2 c271
                refine lv_aload_n hx hb dL_law_1432 rfl (lv_at hl 5 rfl) ?_
                refine lv_iconst (v := 0) hx hb dL_law_1433 (by decide +kernel) ?_
                obtain ⟨k272, hf⟩ := hf
                obtain ⟨h273, hf⟩ := hf
                refine gm_lald hx hb hK hW k272 h273 dL_law_1434 ?_
                refine lv_lload hx hb dL_law_1435 (lv_at hl 0 rfl) ?_
                refine W.lcmp hx hb dL_law_1437 ?_
                refine lv_if_eq (tgt := 1443) hx hb dL_law_1438 (by decide) (fun c274 => ?_) (fun c274 => ?_)
                · replace hf := hf.1 (lg_eq.mp c274)
                  refine W.widen (k := 124 + (513 - (n53 + 1)) * 3 + 2) (n := 2232956 + (513 - (n53 + 1)) * 18 + 12) (by omega) (by omega) ?_
                  exact j1443  _ _ _ (lv_sub hl [2, 3, 4, 5, 6] rfl) hW hS hf
                · replace hf := hf.2 (fun z => c274 (lg_eq.mpr z))
                  refine lv_iconst (v := 0) hx hb dL_law_1441 (by decide +kernel) ?_
                  exact hf.elim
            · replace hf := hf.2 c270
              refine lv_iconst (v := 0) hx hb dL_law_1425 (by decide +kernel) ?_
              exact hf.elim
          · replace hf := hf.2.2.2.2.2.2.2.2.2.2.2.2.2.2.2.1 ec26
            refine lv_tableIn (off := 1376) (tgt := 1446) hx hb dL_law_70 (by rw [ec26]; decide) (by rw [ec26]; decide) (by rw [ec26]; rfl) (by decide) ?_
            refine lv_aload_n hx hb dL_law_1446 rfl (lv_at hl 1 rfl) ?_
            refine lv_aload_n hx hb dL_law_1447 rfl (lv_at hl 0 rfl) ?_
            refine lv_iload hx hb dL_law_1448 (lv_at hl 4 rfl) ?_
            refine lv_iconst (v := 1) hx hb dL_law_1450 (by decide +kernel) ?_
            refine lv_iadd hx hb dL_law_1451 ?_
            obtain ⟨h275, hf⟩ := hf
            refine va_sld hx hb hX hbl hbA hS h275 dL_law_1452 ?_
            refine lv_aload_n hx hb dL_law_1453 rfl (lv_at hl 0 rfl) ?_
            refine lv_iload hx hb dL_law_1454 (lv_at hl 4 rfl) ?_
            refine lv_iconst (v := 2) hx hb dL_law_1456 (by decide +kernel) ?_
            refine lv_iadd hx hb dL_law_1457 ?_
            obtain ⟨h276, hf⟩ := hf
            refine va_sld hx hb hX hbl hbA hS h276 dL_law_1458 ?_
            refine lv_aload_n hx hb dL_law_1459 rfl (lv_at hl 3 rfl) ?_
            refine gm_ci (vx_runSW (As := [.ref q1, .int (xs (x20 + 1).toNatClampNeg), .int (xs (x20 + 2).toNatClampNeg), .ref q17]) (rest := []) ⟨hx, hb, hml, hown, hts⟩ (m_L_retain l hlt D cy tq _ Y18 _ _ _ _ _ _) (vx_cwSW 4 hts (good_SW kw_1045 kw_1046 kw_0 kw_1047) rfl rfl rfl (by decide +kernel) ⟨Nat.le_of_ble_eq_true rfl, Nat.le_of_ble_eq_true rfl⟩) (gm_preS hK hW hC hS hA hf) rfl rfl hl.1 rfl (lv_room (Nat.le_of_ble_eq_true rfl)) dL_law_1460 ⟨by show _ ≤ 61024; omega, by show _ ≤ 8913000; omega⟩) hW hS hA (fun r278 M277 H locs hW hS hf => ?_)
            refine lv_istore (lv' := [(5, .int r278), (0, .ref b), (1, .ref q1), (2, .ref q9), (3, .ref q17), (4, .int x20)]) hx hb dL_law_1463 hl (by decide) rfl (fun ls hl => ?_)
            refine lv_aload_n hx hb dL_law_1465 rfl (lv_at hl 3 rfl) ?_
            refine lv_aload_n hx hb dL_law_1466 rfl (lv_at hl 1 rfl) ?_
            refine lv_iload hx hb dL_law_1467 (lv_at hl 5 rfl) ?_
            refine lv_iconst (v := 1) hx hb dL_law_1469 (by decide +kernel) ?_
            refine lv_iadd hx hb dL_law_1470 ?_
            obtain ⟨h279, hf⟩ := hf
            refine va_sld hx hb hX hbl hbA hS h279 dL_law_1471 ?_
            refine lv_aload_n hx hb dL_law_1472 rfl (lv_at hl 1 rfl) ?_
            refine lv_iload hx hb dL_law_1473 (lv_at hl 5 rfl) ?_
            refine lv_iconst (v := 2) hx hb dL_law_1475 (by decide +kernel) ?_
            refine lv_iadd hx hb dL_law_1476 ?_
            obtain ⟨h280, hf⟩ := hf
            refine va_sld hx hb hX hbl hbA hS h280 dL_law_1477 ?_
            obtain ⟨k283, hf⟩ := hf
            refine gm_ci (va_runV (As := [.int (xs (x20 + 1).toNatClampNeg), .int (xs (x20 + 2).toNatClampNeg)]) (rest := []) ⟨hx, hb, hml, hown, hts⟩ (m_X12_retain l D cy tq _ Y18 _ _ _ _ _) (cwV 2 hts (good_V kw_1654 kw_1655 kw_1656 kw_12 kw_1657) rfl rfl rfl (by decide +kernel) ⟨Nat.le_of_ble_eq_true rfl, Nat.le_of_ble_eq_true rfl⟩) (gm_preV hK hW hC hS hA k283 (by decide) (q := (RX12, TX12, 68)) rfl rfl hf) rfl rfl hl.1 rfl (lv_room (Nat.le_of_ble_eq_true rfl)) dL_law_1478 ⟨by show _ ≤ 61024; omega, by show _ ≤ 8913000; omega⟩) hW hS hA (fun r282 M281 H locs hW hS hf => ?_)
            refine lv_istore (lv' := [(6, .int r282), (5, .int r278), (0, .ref b), (1, .ref q1), (2, .ref q9), (3, .ref q17), (4, .int x20)]) hx hb dL_law_1481 hl (by decide) rfl (fun ls hl => ?_)
            refine lv_aload_n hx hb dL_law_1483 rfl (lv_at hl 4 rfl) ?_
            refine gm_ci (va_runV (As := []) (rest := []) ⟨hx, hb, hml, hown, hts⟩ (m_X12_thrown l D cy tq _ Y18 _ _ _) (cwV 0 hts (good_V kw_1454 kw_1455 kw_1456 kw_12 kw_1457) rfl rfl rfl (by decide +kernel) ⟨Nat.le_of_ble_eq_true rfl, Nat.le_of_ble_eq_true rfl⟩) (gm_preV hK hW hC hS hA k283 (by decide) (q := (RX12, TX12, 68)) rfl rfl hf) rfl rfl hl.1 rfl (lv_room (Nat.le_of_ble_eq_true rfl)) dL_law_1484 ⟨by show _ ≤ 61024; omega, by show _ ≤ 8913000; omega⟩) hW hS hA (fun r285 M284 H locs hW hS hf => ?_)
            refine lv_iload hx hb dL_law_1487 (lv_at hl 1 rfl) ?_
            refine lv_icmp_eq (tgt := 1494) hx hb dL_law_1489 (by decide) (fun c286 => ?_) (fun c286 => ?_)
            · replace hf := hf.1 c286
              refine lv_iload hx hb dL_law_1494 (lv_at hl 1 rfl) ?_
              have j1511 : ∀ (H : Heap) (locs : List Loc) (ls : Array Slot), lv_has ls 8 [(0, .ref b), (1, .ref q1), (2, .ref q9), (3, .ref q17), (4, .int x20)] → Wd D cy A Y18 M284 H → va_S A s.heap H locs → f_L_law_1511 Y18 x20 (LOOP2 (L_L_law_53 Y18 L xs q1 q9 q17) n53) M284  → W p l e rm_L_law s m #[Value.ref b] below meth c H locs (124 + (513 - (n53 + 1)) * 3 + 2) (2232956 + (513 - (n53 + 1)) * 18 + 12) (lw_Z below #[Value.ref b] s) (F0 m 1511 ls []) := by
                intro  H locs ls hl hW hS hf
                unfold f_L_law_1511 at hf
                refine lv_goto (tgt := 2359) hx hb dL_law_1511 (by decide) ?_
                refine W.widen (k := 124 + (513 - (n53 + 1)) * 3 + 3) (n := 2232956 + (513 - (n53 + 1)) * 18 + 18) (by omega) (by omega) ?_
                exact j2359 _ _ _ _ (lv_sub hl [0, 1, 2, 3, 4] rfl) hW hS hf
              refine lv_if_ne (tgt := 1511) hx hb dL_law_1496 (by decide) (fun c287 => ?_) (fun c287 => ?_)
              · replace hf := hf.1 c287
                refine W.widen (k := 124 + (513 - (n53 + 1)) * 3 + 2) (n := 2232956 + (513 - (n53 + 1)) * 18 + 12) (by omega) (by omega) ?_
                exact j1511  _ _ _ (lv_sub hl [2, 3, 4, 5, 6] rfl) hW hS hf
              · replace hf := hf.2 c287
                refine lv_aload_n hx hb dL_law_1499 rfl (lv_at hl 5 rfl) ?_
                refine lv_iconst (v := 0) hx hb dL_law_1500 (by decide +kernel) ?_
                obtain ⟨k288, hf⟩ := hf
                obtain ⟨h289, hf⟩ := hf
                refine gm_lald hx hb hK hW k288 h289 dL_law_1501 ?_
                refine lv_iload hx hb dL_law_1502 (lv_at hl 0 rfl) ?_
                refine lv_i2l hx hb dL_law_1504 rfl ?_
                refine W.lcmp hx hb dL_law_1505 ?_
                refine lv_if_eq (tgt := 1511) hx hb dL_law_1506 (by decide) (fun c290 => ?_) (fun c290 => ?_)
                · replace hf := hf.1 (lg_eq.mp c290)
                  refine W.widen (k := 124 + (513 - (n53 + 1)) * 3 + 2) (n := 2232956 + (513 - (n53 + 1)) * 18 + 12) (by omega) (by omega) ?_
                  exact j1511  _ _ _ (lv_sub hl [2, 3, 4, 5, 6] rfl) hW hS hf
                · replace hf := hf.2 (fun z => c290 (lg_eq.mpr z))
                  refine lv_iconst (v := 0) hx hb dL_law_1509 (by decide +kernel) ?_
                  exact hf.elim
            · replace hf := hf.2 c286
              refine lv_iconst (v := 0) hx hb dL_law_1492 (by decide +kernel) ?_
              exact hf.elim
          · replace hf := hf.2.2.2.2.2.2.2.2.2.2.2.2.2.2.2.2.1 ec26
            refine lv_tableIn (off := 1444) (tgt := 1514) hx hb dL_law_70 (by rw [ec26]; decide) (by rw [ec26]; decide) (by rw [ec26]; rfl) (by decide) ?_
            refine lv_aload_n hx hb dL_law_1514 rfl (lv_at hl 1 rfl) ?_
            refine lv_aload_n hx hb dL_law_1515 rfl (lv_at hl 0 rfl) ?_
            refine lv_iload hx hb dL_law_1516 (lv_at hl 4 rfl) ?_
            refine lv_iconst (v := 1) hx hb dL_law_1518 (by decide +kernel) ?_
            refine lv_iadd hx hb dL_law_1519 ?_
            obtain ⟨h291, hf⟩ := hf
            refine va_sld hx hb hX hbl hbA hS h291 dL_law_1520 ?_
            refine lv_aload_n hx hb dL_law_1521 rfl (lv_at hl 3 rfl) ?_
            refine gm_ci (vx_runSW (As := [.ref q1, .int (xs (x20 + 1).toNatClampNeg), .ref q17]) (rest := []) ⟨hx, hb, hml, hown, hts⟩ (m_L_compact l hlt D cy tq _ Y18 _ _ _ _ _) (vx_cwSW 3 hts (good_SW kw_1062 kw_1063 kw_0 kw_1064) rfl rfl rfl (by decide +kernel) ⟨Nat.le_of_ble_eq_true rfl, Nat.le_of_ble_eq_true rfl⟩) (gm_preS hK hW hC hS hA hf) rfl rfl hl.1 rfl (lv_room (Nat.le_of_ble_eq_true rfl)) dL_law_1522 ⟨by show _ ≤ 61024; omega, by show _ ≤ 8913000; omega⟩) hW hS hA (fun r293 M292 H locs hW hS hf => ?_)
            refine lv_istore (lv' := [(5, .int r293), (0, .ref b), (1, .ref q1), (2, .ref q9), (3, .ref q17), (4, .int x20)]) hx hb dL_law_1525 hl (by decide) rfl (fun ls hl => ?_)
            refine lv_aload_n hx hb dL_law_1527 rfl (lv_at hl 3 rfl) ?_
            refine lv_aload_n hx hb dL_law_1528 rfl (lv_at hl 1 rfl) ?_
            refine lv_iload hx hb dL_law_1529 (lv_at hl 5 rfl) ?_
            refine lv_iconst (v := 1) hx hb dL_law_1531 (by decide +kernel) ?_
            refine lv_iadd hx hb dL_law_1532 ?_
            obtain ⟨h294, hf⟩ := hf
            refine va_sld hx hb hX hbl hbA hS h294 dL_law_1533 ?_
            obtain ⟨k297, hf⟩ := hf
            refine gm_ci (va_runV (As := [.int (xs (x20 + 1).toNatClampNeg)]) (rest := []) ⟨hx, hb, hml, hown, hts⟩ (m_X12_compact l D cy tq _ Y18 _ _ _ _) (cwV 1 hts (good_V kw_1661 kw_1662 kw_1663 kw_12 kw_1664) rfl rfl rfl (by decide +kernel) ⟨Nat.le_of_ble_eq_true rfl, Nat.le_of_ble_eq_true rfl⟩) (gm_preV hK hW hC hS hA k297 (by decide) (q := (RX12, TX12, 68)) rfl rfl hf) rfl rfl hl.1 rfl (lv_room (Nat.le_of_ble_eq_true rfl)) dL_law_1534 ⟨by show _ ≤ 61024; omega, by show _ ≤ 8913000; omega⟩) hW hS hA (fun r296 M295 H locs hW hS hf => ?_)
            refine lv_istore (lv' := [(6, .int r296), (5, .int r293), (0, .ref b), (1, .ref q1), (2, .ref q9), (3, .ref q17), (4, .int x20)]) hx hb dL_law_1537 hl (by decide) rfl (fun ls hl => ?_)
            refine lv_aload_n hx hb dL_law_1539 rfl (lv_at hl 4 rfl) ?_
            refine gm_ci (va_runV (As := []) (rest := []) ⟨hx, hb, hml, hown, hts⟩ (m_X12_thrown l D cy tq _ Y18 _ _ _) (cwV 0 hts (good_V kw_1454 kw_1455 kw_1456 kw_12 kw_1457) rfl rfl rfl (by decide +kernel) ⟨Nat.le_of_ble_eq_true rfl, Nat.le_of_ble_eq_true rfl⟩) (gm_preV hK hW hC hS hA k297 (by decide) (q := (RX12, TX12, 68)) rfl rfl hf) rfl rfl hl.1 rfl (lv_room (Nat.le_of_ble_eq_true rfl)) dL_law_1540 ⟨by show _ ≤ 61024; omega, by show _ ≤ 8913000; omega⟩) hW hS hA (fun r299 M298 H locs hW hS hf => ?_)
            refine lv_iload hx hb dL_law_1543 (lv_at hl 1 rfl) ?_
            refine lv_icmp_eq (tgt := 1550) hx hb dL_law_1545 (by decide) (fun c300 => ?_) (fun c300 => ?_)
            · replace hf := hf.1 c300
              refine lv_iload hx hb dL_law_1550 (lv_at hl 1 rfl) ?_
              have j1567 : ∀ (H : Heap) (locs : List Loc) (ls : Array Slot), lv_has ls 8 [(0, .ref b), (1, .ref q1), (2, .ref q9), (3, .ref q17), (4, .int x20)] → Wd D cy A Y18 M298 H → va_S A s.heap H locs → f_L_law_1567 Y18 x20 (LOOP2 (L_L_law_53 Y18 L xs q1 q9 q17) n53) M298  → W p l e rm_L_law s m #[Value.ref b] below meth c H locs (124 + (513 - (n53 + 1)) * 3 + 2) (2232956 + (513 - (n53 + 1)) * 18 + 12) (lw_Z below #[Value.ref b] s) (F0 m 1567 ls []) := by
                intro  H locs ls hl hW hS hf
                unfold f_L_law_1567 at hf
                refine lv_goto (tgt := 2359) hx hb dL_law_1567 (by decide) ?_
                refine W.widen (k := 124 + (513 - (n53 + 1)) * 3 + 3) (n := 2232956 + (513 - (n53 + 1)) * 18 + 18) (by omega) (by omega) ?_
                exact j2359 _ _ _ _ (lv_sub hl [0, 1, 2, 3, 4] rfl) hW hS hf
              refine lv_if_ne (tgt := 1567) hx hb dL_law_1552 (by decide) (fun c301 => ?_) (fun c301 => ?_)
              · replace hf := hf.1 c301
                refine W.widen (k := 124 + (513 - (n53 + 1)) * 3 + 2) (n := 2232956 + (513 - (n53 + 1)) * 18 + 12) (by omega) (by omega) ?_
                exact j1567  _ _ _ (lv_sub hl [2, 3, 4, 5, 6] rfl) hW hS hf
              · replace hf := hf.2 c301
                refine lv_aload_n hx hb dL_law_1555 rfl (lv_at hl 5 rfl) ?_
                refine lv_iconst (v := 0) hx hb dL_law_1556 (by decide +kernel) ?_
                obtain ⟨k302, hf⟩ := hf
                obtain ⟨h303, hf⟩ := hf
                refine gm_lald hx hb hK hW k302 h303 dL_law_1557 ?_
                refine lv_iload hx hb dL_law_1558 (lv_at hl 0 rfl) ?_
                refine lv_i2l hx hb dL_law_1560 rfl ?_
                refine W.lcmp hx hb dL_law_1561 ?_
                refine lv_if_eq (tgt := 1567) hx hb dL_law_1562 (by decide) (fun c304 => ?_) (fun c304 => ?_)
                · replace hf := hf.1 (lg_eq.mp c304)
                  refine W.widen (k := 124 + (513 - (n53 + 1)) * 3 + 2) (n := 2232956 + (513 - (n53 + 1)) * 18 + 12) (by omega) (by omega) ?_
                  exact j1567  _ _ _ (lv_sub hl [2, 3, 4, 5, 6] rfl) hW hS hf
                · replace hf := hf.2 (fun z => c304 (lg_eq.mpr z))
                  refine lv_iconst (v := 0) hx hb dL_law_1565 (by decide +kernel) ?_
                  exact hf.elim
            · replace hf := hf.2 c300
              refine lv_iconst (v := 0) hx hb dL_law_1548 (by decide +kernel) ?_
              exact hf.elim
          · replace hf := hf.2.2.2.2.2.2.2.2.2.2.2.2.2.2.2.2.2.1 ec26
            refine lv_tableIn (off := 1500) (tgt := 1570) hx hb dL_law_70 (by rw [ec26]; decide) (by rw [ec26]; decide) (by rw [ec26]; rfl) (by decide) ?_
            refine lv_aload_n hx hb dL_law_1570 rfl (lv_at hl 1 rfl) ?_
            refine lv_aload_n hx hb dL_law_1571 rfl (lv_at hl 0 rfl) ?_
            refine lv_iload hx hb dL_law_1572 (lv_at hl 4 rfl) ?_
            refine lv_iconst (v := 1) hx hb dL_law_1574 (by decide +kernel) ?_
            refine lv_iadd hx hb dL_law_1575 ?_
            obtain ⟨h305, hf⟩ := hf
            refine va_sld hx hb hX hbl hbA hS h305 dL_law_1576 ?_
            refine lv_aload_n hx hb dL_law_1577 rfl (lv_at hl 0 rfl) ?_
            refine lv_iload hx hb dL_law_1578 (lv_at hl 4 rfl) ?_
            refine lv_iconst (v := 2) hx hb dL_law_1580 (by decide +kernel) ?_
            refine lv_iadd hx hb dL_law_1581 ?_
            obtain ⟨h306, hf⟩ := hf
            refine va_sld hx hb hX hbl hbA hS h306 dL_law_1582 ?_
            refine lv_aload_n hx hb dL_law_1583 rfl (lv_at hl 3 rfl) ?_
            refine gm_ci (vx_runSW (As := [.ref q1, .int (xs (x20 + 1).toNatClampNeg), .int (xs (x20 + 2).toNatClampNeg), .ref q17]) (rest := []) ⟨hx, hb, hml, hown, hts⟩ (m_L_join l hlt D cy tq _ Y18 _ _ _ _ _ _) (vx_cwSW 4 hts (good_SW kw_1134 kw_1135 kw_0 kw_1136) rfl rfl rfl (by decide +kernel) ⟨Nat.le_of_ble_eq_true rfl, Nat.le_of_ble_eq_true rfl⟩) (gm_preS hK hW hC hS hA hf) rfl rfl hl.1 rfl (lv_room (Nat.le_of_ble_eq_true rfl)) dL_law_1584 ⟨by show _ ≤ 61024; omega, by show _ ≤ 8913000; omega⟩) hW hS hA (fun r308 M307 H locs hW hS hf => ?_)
            refine lv_istore (lv' := [(5, .int r308), (0, .ref b), (1, .ref q1), (2, .ref q9), (3, .ref q17), (4, .int x20)]) hx hb dL_law_1587 hl (by decide) rfl (fun ls hl => ?_)
            refine lv_aload_n hx hb dL_law_1589 rfl (lv_at hl 3 rfl) ?_
            refine lv_aload_n hx hb dL_law_1590 rfl (lv_at hl 1 rfl) ?_
            refine lv_iload hx hb dL_law_1591 (lv_at hl 5 rfl) ?_
            refine lv_iconst (v := 1) hx hb dL_law_1593 (by decide +kernel) ?_
            refine lv_iadd hx hb dL_law_1594 ?_
            obtain ⟨h309, hf⟩ := hf
            refine va_sld hx hb hX hbl hbA hS h309 dL_law_1595 ?_
            refine lv_aload_n hx hb dL_law_1596 rfl (lv_at hl 1 rfl) ?_
            refine lv_iload hx hb dL_law_1597 (lv_at hl 5 rfl) ?_
            refine lv_iconst (v := 2) hx hb dL_law_1599 (by decide +kernel) ?_
            refine lv_iadd hx hb dL_law_1600 ?_
            obtain ⟨h310, hf⟩ := hf
            refine va_sld hx hb hX hbl hbA hS h310 dL_law_1601 ?_
            obtain ⟨k313, hf⟩ := hf
            refine gm_ci (va_runV (As := [.int (xs (x20 + 1).toNatClampNeg), .int (xs (x20 + 2).toNatClampNeg)]) (rest := []) ⟨hx, hb, hml, hown, hts⟩ (m_X12_join l D cy tq _ Y18 _ _ _ _ _) (cwV 2 hts (good_V kw_1692 kw_1693 kw_1694 kw_12 kw_1695) rfl rfl rfl (by decide +kernel) ⟨Nat.le_of_ble_eq_true rfl, Nat.le_of_ble_eq_true rfl⟩) (gm_preV hK hW hC hS hA k313 (by decide) (q := (RX12, TX12, 68)) rfl rfl hf) rfl rfl hl.1 rfl (lv_room (Nat.le_of_ble_eq_true rfl)) dL_law_1602 ⟨by show _ ≤ 61024; omega, by show _ ≤ 8913000; omega⟩) hW hS hA (fun r312 M311 H locs hW hS hf => ?_)
            refine lv_istore (lv' := [(6, .int r312), (5, .int r308), (0, .ref b), (1, .ref q1), (2, .ref q9), (3, .ref q17), (4, .int x20)]) hx hb dL_law_1605 hl (by decide) rfl (fun ls hl => ?_)
            refine lv_aload_n hx hb dL_law_1607 rfl (lv_at hl 4 rfl) ?_
            refine gm_ci (va_runV (As := []) (rest := []) ⟨hx, hb, hml, hown, hts⟩ (m_X12_thrown l D cy tq _ Y18 _ _ _) (cwV 0 hts (good_V kw_1454 kw_1455 kw_1456 kw_12 kw_1457) rfl rfl rfl (by decide +kernel) ⟨Nat.le_of_ble_eq_true rfl, Nat.le_of_ble_eq_true rfl⟩) (gm_preV hK hW hC hS hA k313 (by decide) (q := (RX12, TX12, 68)) rfl rfl hf) rfl rfl hl.1 rfl (lv_room (Nat.le_of_ble_eq_true rfl)) dL_law_1608 ⟨by show _ ≤ 61024; omega, by show _ ≤ 8913000; omega⟩) hW hS hA (fun r315 M314 H locs hW hS hf => ?_)
            refine lv_iload hx hb dL_law_1611 (lv_at hl 1 rfl) ?_
            refine lv_icmp_eq (tgt := 1618) hx hb dL_law_1613 (by decide) (fun c316 => ?_) (fun c316 => ?_)
            · replace hf := hf.1 c316
              refine lv_iload hx hb dL_law_1618 (lv_at hl 1 rfl) ?_
              have j1635 : ∀ (H : Heap) (locs : List Loc) (ls : Array Slot), lv_has ls 8 [(0, .ref b), (1, .ref q1), (2, .ref q9), (3, .ref q17), (4, .int x20)] → Wd D cy A Y18 M314 H → va_S A s.heap H locs → f_L_law_1635 Y18 x20 (LOOP2 (L_L_law_53 Y18 L xs q1 q9 q17) n53) M314  → W p l e rm_L_law s m #[Value.ref b] below meth c H locs (124 + (513 - (n53 + 1)) * 3 + 2) (2232956 + (513 - (n53 + 1)) * 18 + 12) (lw_Z below #[Value.ref b] s) (F0 m 1635 ls []) := by
                intro  H locs ls hl hW hS hf
                unfold f_L_law_1635 at hf
                refine lv_goto (tgt := 2359) hx hb dL_law_1635 (by decide) ?_
                refine W.widen (k := 124 + (513 - (n53 + 1)) * 3 + 3) (n := 2232956 + (513 - (n53 + 1)) * 18 + 18) (by omega) (by omega) ?_
                exact j2359 _ _ _ _ (lv_sub hl [0, 1, 2, 3, 4] rfl) hW hS hf
              refine lv_if_ne (tgt := 1635) hx hb dL_law_1620 (by decide) (fun c317 => ?_) (fun c317 => ?_)
              · replace hf := hf.1 c317
                refine W.widen (k := 124 + (513 - (n53 + 1)) * 3 + 2) (n := 2232956 + (513 - (n53 + 1)) * 18 + 12) (by omega) (by omega) ?_
                exact j1635  _ _ _ (lv_sub hl [2, 3, 4, 5, 6] rfl) hW hS hf
              · replace hf := hf.2 c317
                refine lv_aload_n hx hb dL_law_1623 rfl (lv_at hl 5 rfl) ?_
                refine lv_iconst (v := 0) hx hb dL_law_1624 (by decide +kernel) ?_
                obtain ⟨k318, hf⟩ := hf
                obtain ⟨h319, hf⟩ := hf
                refine gm_lald hx hb hK hW k318 h319 dL_law_1625 ?_
                refine lv_iload hx hb dL_law_1626 (lv_at hl 0 rfl) ?_
                refine lv_i2l hx hb dL_law_1628 rfl ?_
                refine W.lcmp hx hb dL_law_1629 ?_
                refine lv_if_eq (tgt := 1635) hx hb dL_law_1630 (by decide) (fun c320 => ?_) (fun c320 => ?_)
                · replace hf := hf.1 (lg_eq.mp c320)
                  refine W.widen (k := 124 + (513 - (n53 + 1)) * 3 + 2) (n := 2232956 + (513 - (n53 + 1)) * 18 + 12) (by omega) (by omega) ?_
                  exact j1635  _ _ _ (lv_sub hl [2, 3, 4, 5, 6] rfl) hW hS hf
                · replace hf := hf.2 (fun z => c320 (lg_eq.mpr z))
                  refine lv_iconst (v := 0) hx hb dL_law_1633 (by decide +kernel) ?_
                  exact hf.elim
            · replace hf := hf.2 c316
              refine lv_iconst (v := 0) hx hb dL_law_1616 (by decide +kernel) ?_
              exact hf.elim
          · replace hf := hf.2.2.2.2.2.2.2.2.2.2.2.2.2.2.2.2.2.2.1 ec26
            refine lv_tableIn (off := 1568) (tgt := 1638) hx hb dL_law_70 (by rw [ec26]; decide) (by rw [ec26]; decide) (by rw [ec26]; rfl) (by decide) ?_
            refine lv_aload_n hx hb dL_law_1638 rfl (lv_at hl 1 rfl) ?_
            refine lv_aload_n hx hb dL_law_1639 rfl (lv_at hl 0 rfl) ?_
            refine lv_iload hx hb dL_law_1640 (lv_at hl 4 rfl) ?_
            refine lv_iconst (v := 1) hx hb dL_law_1642 (by decide +kernel) ?_
            refine lv_iadd hx hb dL_law_1643 ?_
            obtain ⟨h321, hf⟩ := hf
            refine va_sld hx hb hX hbl hbA hS h321 dL_law_1644 ?_
            refine lv_aload_n hx hb dL_law_1645 rfl (lv_at hl 0 rfl) ?_
            refine lv_iload hx hb dL_law_1646 (lv_at hl 4 rfl) ?_
            refine lv_iconst (v := 2) hx hb dL_law_1648 (by decide +kernel) ?_
            refine lv_iadd hx hb dL_law_1649 ?_
            obtain ⟨h322, hf⟩ := hf
            refine va_sld hx hb hX hbl hbA hS h322 dL_law_1650 ?_
            refine lv_aload_n hx hb dL_law_1651 rfl (lv_at hl 3 rfl) ?_
            refine gm_ci (vx_runSW (As := [.ref q1, .int (xs (x20 + 1).toNatClampNeg), .int (xs (x20 + 2).toNatClampNeg), .ref q17]) (rest := []) ⟨hx, hb, hml, hown, hts⟩ (m_L_leave l hlt D cy tq _ Y18 _ _ _ _ _ _) (vx_cwSW 4 hts (good_SW kw_1170 kw_1171 kw_0 kw_1172) rfl rfl rfl (by decide +kernel) ⟨Nat.le_of_ble_eq_true rfl, Nat.le_of_ble_eq_true rfl⟩) (gm_preS hK hW hC hS hA hf) rfl rfl hl.1 rfl (lv_room (Nat.le_of_ble_eq_true rfl)) dL_law_1652 ⟨by show _ ≤ 61024; omega, by show _ ≤ 8913000; omega⟩) hW hS hA (fun r324 M323 H locs hW hS hf => ?_)
            refine lv_istore (lv' := [(5, .int r324), (0, .ref b), (1, .ref q1), (2, .ref q9), (3, .ref q17), (4, .int x20)]) hx hb dL_law_1655 hl (by decide) rfl (fun ls hl => ?_)
            refine lv_aload_n hx hb dL_law_1657 rfl (lv_at hl 3 rfl) ?_
            refine lv_aload_n hx hb dL_law_1658 rfl (lv_at hl 1 rfl) ?_
            refine lv_iload hx hb dL_law_1659 (lv_at hl 5 rfl) ?_
            refine lv_iconst (v := 1) hx hb dL_law_1661 (by decide +kernel) ?_
            refine lv_iadd hx hb dL_law_1662 ?_
            obtain ⟨h325, hf⟩ := hf
            refine va_sld hx hb hX hbl hbA hS h325 dL_law_1663 ?_
            refine lv_aload_n hx hb dL_law_1664 rfl (lv_at hl 1 rfl) ?_
            refine lv_iload hx hb dL_law_1665 (lv_at hl 5 rfl) ?_
            refine lv_iconst (v := 2) hx hb dL_law_1667 (by decide +kernel) ?_
            refine lv_iadd hx hb dL_law_1668 ?_
            obtain ⟨h326, hf⟩ := hf
            refine va_sld hx hb hX hbl hbA hS h326 dL_law_1669 ?_
            obtain ⟨k329, hf⟩ := hf
            refine gm_ci (va_runV (As := [.int (xs (x20 + 1).toNatClampNeg), .int (xs (x20 + 2).toNatClampNeg)]) (rest := []) ⟨hx, hb, hml, hown, hts⟩ (m_X12_leave l D cy tq _ Y18 _ _ _ _ _) (cwV 2 hts (good_V kw_1715 kw_1716 kw_1717 kw_12 kw_1718) rfl rfl rfl (by decide +kernel) ⟨Nat.le_of_ble_eq_true rfl, Nat.le_of_ble_eq_true rfl⟩) (gm_preV hK hW hC hS hA k329 (by decide) (q := (RX12, TX12, 68)) rfl rfl hf) rfl rfl hl.1 rfl (lv_room (Nat.le_of_ble_eq_true rfl)) dL_law_1670 ⟨by show _ ≤ 61024; omega, by show _ ≤ 8913000; omega⟩) hW hS hA (fun r328 M327 H locs hW hS hf => ?_)
            refine lv_istore (lv' := [(6, .int r328), (5, .int r324), (0, .ref b), (1, .ref q1), (2, .ref q9), (3, .ref q17), (4, .int x20)]) hx hb dL_law_1673 hl (by decide) rfl (fun ls hl => ?_)
            refine lv_aload_n hx hb dL_law_1675 rfl (lv_at hl 4 rfl) ?_
            refine gm_ci (va_runV (As := []) (rest := []) ⟨hx, hb, hml, hown, hts⟩ (m_X12_thrown l D cy tq _ Y18 _ _ _) (cwV 0 hts (good_V kw_1454 kw_1455 kw_1456 kw_12 kw_1457) rfl rfl rfl (by decide +kernel) ⟨Nat.le_of_ble_eq_true rfl, Nat.le_of_ble_eq_true rfl⟩) (gm_preV hK hW hC hS hA k329 (by decide) (q := (RX12, TX12, 68)) rfl rfl hf) rfl rfl hl.1 rfl (lv_room (Nat.le_of_ble_eq_true rfl)) dL_law_1676 ⟨by show _ ≤ 61024; omega, by show _ ≤ 8913000; omega⟩) hW hS hA (fun r331 M330 H locs hW hS hf => ?_)
            refine lv_iload hx hb dL_law_1679 (lv_at hl 1 rfl) ?_
            refine lv_icmp_eq (tgt := 1686) hx hb dL_law_1681 (by decide) (fun c332 => ?_) (fun c332 => ?_)
            · replace hf := hf.1 c332
              refine lv_iload hx hb dL_law_1686 (lv_at hl 1 rfl) ?_
              have j1703 : ∀ (H : Heap) (locs : List Loc) (ls : Array Slot), lv_has ls 8 [(0, .ref b), (1, .ref q1), (2, .ref q9), (3, .ref q17), (4, .int x20)] → Wd D cy A Y18 M330 H → va_S A s.heap H locs → f_L_law_1703 Y18 x20 (LOOP2 (L_L_law_53 Y18 L xs q1 q9 q17) n53) M330  → W p l e rm_L_law s m #[Value.ref b] below meth c H locs (124 + (513 - (n53 + 1)) * 3 + 2) (2232956 + (513 - (n53 + 1)) * 18 + 12) (lw_Z below #[Value.ref b] s) (F0 m 1703 ls []) := by
                intro  H locs ls hl hW hS hf
                unfold f_L_law_1703 at hf
                refine lv_goto (tgt := 2359) hx hb dL_law_1703 (by decide) ?_
                refine W.widen (k := 124 + (513 - (n53 + 1)) * 3 + 3) (n := 2232956 + (513 - (n53 + 1)) * 18 + 18) (by omega) (by omega) ?_
                exact j2359 _ _ _ _ (lv_sub hl [0, 1, 2, 3, 4] rfl) hW hS hf
              refine lv_if_ne (tgt := 1703) hx hb dL_law_1688 (by decide) (fun c333 => ?_) (fun c333 => ?_)
              · replace hf := hf.1 c333
                refine W.widen (k := 124 + (513 - (n53 + 1)) * 3 + 2) (n := 2232956 + (513 - (n53 + 1)) * 18 + 12) (by omega) (by omega) ?_
                exact j1703  _ _ _ (lv_sub hl [2, 3, 4, 5, 6] rfl) hW hS hf
              · replace hf := hf.2 c333
                refine lv_aload_n hx hb dL_law_1691 rfl (lv_at hl 5 rfl) ?_
                refine lv_iconst (v := 0) hx hb dL_law_1692 (by decide +kernel) ?_
                obtain ⟨k334, hf⟩ := hf
                obtain ⟨h335, hf⟩ := hf
                refine gm_lald hx hb hK hW k334 h335 dL_law_1693 ?_
                refine lv_iload hx hb dL_law_1694 (lv_at hl 0 rfl) ?_
                refine lv_i2l hx hb dL_law_1696 rfl ?_
                refine W.lcmp hx hb dL_law_1697 ?_
                refine lv_if_eq (tgt := 1703) hx hb dL_law_1698 (by decide) (fun c336 => ?_) (fun c336 => ?_)
                · replace hf := hf.1 (lg_eq.mp c336)
                  refine W.widen (k := 124 + (513 - (n53 + 1)) * 3 + 2) (n := 2232956 + (513 - (n53 + 1)) * 18 + 12) (by omega) (by omega) ?_
                  exact j1703  _ _ _ (lv_sub hl [2, 3, 4, 5, 6] rfl) hW hS hf
                · replace hf := hf.2 (fun z => c336 (lg_eq.mpr z))
                  refine lv_iconst (v := 0) hx hb dL_law_1701 (by decide +kernel) ?_
                  exact hf.elim
            · replace hf := hf.2 c332
              refine lv_iconst (v := 0) hx hb dL_law_1684 (by decide +kernel) ?_
              exact hf.elim
          · replace hf := hf.2.2.2.2.2.2.2.2.2.2.2.2.2.2.2.2.2.2.2.1 ec26
            refine lv_tableIn (off := 1636) (tgt := 1706) hx hb dL_law_70 (by rw [ec26]; decide) (by rw [ec26]; decide) (by rw [ec26]; rfl) (by decide) ?_
            refine lv_aload_n hx hb dL_law_1706 rfl (lv_at hl 1 rfl) ?_
            refine lv_aload_n hx hb dL_law_1707 rfl (lv_at hl 0 rfl) ?_
            refine lv_iload hx hb dL_law_1708 (lv_at hl 4 rfl) ?_
            refine lv_iconst (v := 1) hx hb dL_law_1710 (by decide +kernel) ?_
            refine lv_iadd hx hb dL_law_1711 ?_
            obtain ⟨h337, hf⟩ := hf
            refine va_sld hx hb hX hbl hbA hS h337 dL_law_1712 ?_
            refine lv_aload_n hx hb dL_law_1713 rfl (lv_at hl 0 rfl) ?_
            refine lv_iload hx hb dL_law_1714 (lv_at hl 4 rfl) ?_
            refine lv_iconst (v := 2) hx hb dL_law_1716 (by decide +kernel) ?_
            refine lv_iadd hx hb dL_law_1717 ?_
            obtain ⟨h338, hf⟩ := hf
            refine va_sld hx hb hX hbl hbA hS h338 dL_law_1718 ?_
            refine lv_aload_n hx hb dL_law_1719 rfl (lv_at hl 0 rfl) ?_
            refine lv_iload hx hb dL_law_1720 (lv_at hl 4 rfl) ?_
            refine lv_iconst (v := 3) hx hb dL_law_1722 (by decide +kernel) ?_
            refine lv_iadd hx hb dL_law_1723 ?_
            obtain ⟨h339, hf⟩ := hf
            refine va_sld hx hb hX hbl hbA hS h339 dL_law_1724 ?_
            refine lv_aload_n hx hb dL_law_1725 rfl (lv_at hl 3 rfl) ?_
            refine gm_ci (vx_runSW (As := [.ref q1, .int (xs (x20 + 1).toNatClampNeg), .int (xs (x20 + 2).toNatClampNeg), .int (xs (x20 + 3).toNatClampNeg), .ref q17]) (rest := []) ⟨hx, hb, hml, hown, hts⟩ (m_L_beat l hlt D cy tq _ Y18 _ _ _ _ _ _ _) (vx_cwSW 5 hts (good_SW kw_1184 kw_1185 kw_0 kw_1186) rfl rfl rfl (by decide +kernel) ⟨Nat.le_of_ble_eq_true rfl, Nat.le_of_ble_eq_true rfl⟩) (gm_preS hK hW hC hS hA hf) rfl rfl hl.1 rfl (lv_room (Nat.le_of_ble_eq_true rfl)) dL_law_1726 ⟨by show _ ≤ 61024; omega, by show _ ≤ 8913000; omega⟩) hW hS hA (fun r341 M340 H locs hW hS hf => ?_)
            refine lv_istore (lv' := [(5, .int r341), (0, .ref b), (1, .ref q1), (2, .ref q9), (3, .ref q17), (4, .int x20)]) hx hb dL_law_1729 hl (by decide) rfl (fun ls hl => ?_)
            refine lv_aload_n hx hb dL_law_1731 rfl (lv_at hl 3 rfl) ?_
            refine lv_aload_n hx hb dL_law_1732 rfl (lv_at hl 1 rfl) ?_
            refine lv_iload hx hb dL_law_1733 (lv_at hl 5 rfl) ?_
            refine lv_iconst (v := 1) hx hb dL_law_1735 (by decide +kernel) ?_
            refine lv_iadd hx hb dL_law_1736 ?_
            obtain ⟨h342, hf⟩ := hf
            refine va_sld hx hb hX hbl hbA hS h342 dL_law_1737 ?_
            refine lv_aload_n hx hb dL_law_1738 rfl (lv_at hl 1 rfl) ?_
            refine lv_iload hx hb dL_law_1739 (lv_at hl 5 rfl) ?_
            refine lv_iconst (v := 2) hx hb dL_law_1741 (by decide +kernel) ?_
            refine lv_iadd hx hb dL_law_1742 ?_
            obtain ⟨h343, hf⟩ := hf
            refine va_sld hx hb hX hbl hbA hS h343 dL_law_1743 ?_
            refine lv_aload_n hx hb dL_law_1744 rfl (lv_at hl 1 rfl) ?_
            refine lv_iload hx hb dL_law_1745 (lv_at hl 5 rfl) ?_
            refine lv_iconst (v := 3) hx hb dL_law_1747 (by decide +kernel) ?_
            refine lv_iadd hx hb dL_law_1748 ?_
            obtain ⟨h344, hf⟩ := hf
            refine va_sld hx hb hX hbl hbA hS h344 dL_law_1749 ?_
            obtain ⟨k347, hf⟩ := hf
            refine gm_ci (va_runV (As := [.int (xs (x20 + 1).toNatClampNeg), .int (xs (x20 + 2).toNatClampNeg), .int (xs (x20 + 3).toNatClampNeg)]) (rest := []) ⟨hx, hb, hml, hown, hts⟩ (m_X12_beat l D cy tq _ Y18 _ _ _ _ _ _) (cwV 3 hts (good_V kw_1722 kw_1723 kw_1724 kw_12 kw_1725) rfl rfl rfl (by decide +kernel) ⟨Nat.le_of_ble_eq_true rfl, Nat.le_of_ble_eq_true rfl⟩) (gm_preV hK hW hC hS hA k347 (by decide) (q := (RX12, TX12, 68)) rfl rfl hf) rfl rfl hl.1 rfl (lv_room (Nat.le_of_ble_eq_true rfl)) dL_law_1750 ⟨by show _ ≤ 61024; omega, by show _ ≤ 8913000; omega⟩) hW hS hA (fun r346 M345 H locs hW hS hf => ?_)
            refine lv_istore (lv' := [(6, .int r346), (5, .int r341), (0, .ref b), (1, .ref q1), (2, .ref q9), (3, .ref q17), (4, .int x20)]) hx hb dL_law_1753 hl (by decide) rfl (fun ls hl => ?_)
            refine lv_aload_n hx hb dL_law_1755 rfl (lv_at hl 4 rfl) ?_
            refine gm_ci (va_runV (As := []) (rest := []) ⟨hx, hb, hml, hown, hts⟩ (m_X12_thrown l D cy tq _ Y18 _ _ _) (cwV 0 hts (good_V kw_1454 kw_1455 kw_1456 kw_12 kw_1457) rfl rfl rfl (by decide +kernel) ⟨Nat.le_of_ble_eq_true rfl, Nat.le_of_ble_eq_true rfl⟩) (gm_preV hK hW hC hS hA k347 (by decide) (q := (RX12, TX12, 68)) rfl rfl hf) rfl rfl hl.1 rfl (lv_room (Nat.le_of_ble_eq_true rfl)) dL_law_1756 ⟨by show _ ≤ 61024; omega, by show _ ≤ 8913000; omega⟩) hW hS hA (fun r349 M348 H locs hW hS hf => ?_)
            refine lv_iload hx hb dL_law_1759 (lv_at hl 1 rfl) ?_
            refine lv_icmp_eq (tgt := 1766) hx hb dL_law_1761 (by decide) (fun c350 => ?_) (fun c350 => ?_)
            · replace hf := hf.1 c350
              refine lv_iload hx hb dL_law_1766 (lv_at hl 1 rfl) ?_
              have j1783 : ∀ (H : Heap) (locs : List Loc) (ls : Array Slot), lv_has ls 8 [(0, .ref b), (1, .ref q1), (2, .ref q9), (3, .ref q17), (4, .int x20)] → Wd D cy A Y18 M348 H → va_S A s.heap H locs → f_L_law_1783 Y18 x20 (LOOP2 (L_L_law_53 Y18 L xs q1 q9 q17) n53) M348  → W p l e rm_L_law s m #[Value.ref b] below meth c H locs (124 + (513 - (n53 + 1)) * 3 + 2) (2232956 + (513 - (n53 + 1)) * 18 + 12) (lw_Z below #[Value.ref b] s) (F0 m 1783 ls []) := by
                intro  H locs ls hl hW hS hf
                unfold f_L_law_1783 at hf
                refine lv_goto (tgt := 2359) hx hb dL_law_1783 (by decide) ?_
                refine W.widen (k := 124 + (513 - (n53 + 1)) * 3 + 3) (n := 2232956 + (513 - (n53 + 1)) * 18 + 18) (by omega) (by omega) ?_
                exact j2359 _ _ _ _ (lv_sub hl [0, 1, 2, 3, 4] rfl) hW hS hf
              refine lv_if_ne (tgt := 1783) hx hb dL_law_1768 (by decide) (fun c351 => ?_) (fun c351 => ?_)
              · replace hf := hf.1 c351
                refine W.widen (k := 124 + (513 - (n53 + 1)) * 3 + 2) (n := 2232956 + (513 - (n53 + 1)) * 18 + 12) (by omega) (by omega) ?_
                exact j1783  _ _ _ (lv_sub hl [2, 3, 4, 5, 6] rfl) hW hS hf
              · replace hf := hf.2 c351
                refine lv_aload_n hx hb dL_law_1771 rfl (lv_at hl 5 rfl) ?_
                refine lv_iconst (v := 0) hx hb dL_law_1772 (by decide +kernel) ?_
                obtain ⟨k352, hf⟩ := hf
                obtain ⟨h353, hf⟩ := hf
                refine gm_lald hx hb hK hW k352 h353 dL_law_1773 ?_
                refine lv_iload hx hb dL_law_1774 (lv_at hl 0 rfl) ?_
                refine lv_i2l hx hb dL_law_1776 rfl ?_
                refine W.lcmp hx hb dL_law_1777 ?_
                refine lv_if_eq (tgt := 1783) hx hb dL_law_1778 (by decide) (fun c354 => ?_) (fun c354 => ?_)
                · replace hf := hf.1 (lg_eq.mp c354)
                  refine W.widen (k := 124 + (513 - (n53 + 1)) * 3 + 2) (n := 2232956 + (513 - (n53 + 1)) * 18 + 12) (by omega) (by omega) ?_
                  exact j1783  _ _ _ (lv_sub hl [2, 3, 4, 5, 6] rfl) hW hS hf
                · replace hf := hf.2 (fun z => c354 (lg_eq.mpr z))
                  refine lv_iconst (v := 0) hx hb dL_law_1781 (by decide +kernel) ?_
                  exact hf.elim
            · replace hf := hf.2 c350
              refine lv_iconst (v := 0) hx hb dL_law_1764 (by decide +kernel) ?_
              exact hf.elim
          · replace hf := hf.2.2.2.2.2.2.2.2.2.2.2.2.2.2.2.2.2.2.2.2.1 ec26
            refine lv_tableIn (off := 1716) (tgt := 1786) hx hb dL_law_70 (by rw [ec26]; decide) (by rw [ec26]; decide) (by rw [ec26]; rfl) (by decide) ?_
            refine lv_aload_n hx hb dL_law_1786 rfl (lv_at hl 1 rfl) ?_
            refine lv_aload_n hx hb dL_law_1787 rfl (lv_at hl 0 rfl) ?_
            refine lv_iload hx hb dL_law_1788 (lv_at hl 4 rfl) ?_
            refine lv_iconst (v := 1) hx hb dL_law_1790 (by decide +kernel) ?_
            refine lv_iadd hx hb dL_law_1791 ?_
            obtain ⟨h355, hf⟩ := hf
            refine va_sld hx hb hX hbl hbA hS h355 dL_law_1792 ?_
            refine lv_aload_n hx hb dL_law_1793 rfl (lv_at hl 0 rfl) ?_
            refine lv_iload hx hb dL_law_1794 (lv_at hl 4 rfl) ?_
            refine lv_iconst (v := 2) hx hb dL_law_1796 (by decide +kernel) ?_
            refine lv_iadd hx hb dL_law_1797 ?_
            obtain ⟨h356, hf⟩ := hf
            refine va_sld hx hb hX hbl hbA hS h356 dL_law_1798 ?_
            refine lv_aload_n hx hb dL_law_1799 rfl (lv_at hl 0 rfl) ?_
            refine lv_iload hx hb dL_law_1800 (lv_at hl 4 rfl) ?_
            refine lv_iconst (v := 3) hx hb dL_law_1802 (by decide +kernel) ?_
            refine lv_iadd hx hb dL_law_1803 ?_
            obtain ⟨h357, hf⟩ := hf
            refine va_sld hx hb hX hbl hbA hS h357 dL_law_1804 ?_
            refine lv_aload_n hx hb dL_law_1805 rfl (lv_at hl 0 rfl) ?_
            refine lv_iload hx hb dL_law_1806 (lv_at hl 4 rfl) ?_
            refine lv_iconst (v := 4) hx hb dL_law_1808 (by decide +kernel) ?_
            refine lv_iadd hx hb dL_law_1809 ?_
            obtain ⟨h358, hf⟩ := hf
            refine va_sld hx hb hX hbl hbA hS h358 dL_law_1810 ?_
            refine lv_aload_n hx hb dL_law_1811 rfl (lv_at hl 0 rfl) ?_
            refine lv_iload hx hb dL_law_1812 (lv_at hl 4 rfl) ?_
            refine lv_iconst (v := 5) hx hb dL_law_1814 (by decide +kernel) ?_
            refine lv_iadd hx hb dL_law_1815 ?_
            obtain ⟨h359, hf⟩ := hf
            refine va_sld hx hb hX hbl hbA hS h359 dL_law_1816 ?_
            refine lv_i2l hx hb dL_law_1817 rfl ?_
            refine lv_bipush (v := 32) hx hb dL_law_1818 (by decide +kernel) ?_
            refine lv_lshl hx hb dL_law_1820 rfl ?_
            refine lv_aload_n hx hb dL_law_1821 rfl (lv_at hl 0 rfl) ?_
            refine lv_iload hx hb dL_law_1822 (lv_at hl 4 rfl) ?_
            refine lv_bipush (v := 6) hx hb dL_law_1824 (by decide +kernel) ?_
            refine lv_iadd hx hb dL_law_1826 ?_
            obtain ⟨h360, hf⟩ := hf
            refine va_sld hx hb hX hbl hbA hS h360 dL_law_1827 ?_
            refine lv_i2l hx hb dL_law_1828 rfl ?_
            refine lv_ldc2 (v := 4294967295) hx hb hown (hts _ kw_1784) dL_law_1829 ?_
            refine lv_land hx hb dL_law_1832 ?_
            refine lv_lor hx hb dL_law_1833 ?_
            refine lv_aload_n hx hb dL_law_1834 rfl (lv_at hl 3 rfl) ?_
            refine gm_ci (vx_runSW (As := [.ref q1, .int (xs (x20 + 1).toNatClampNeg), .int (xs (x20 + 2).toNatClampNeg), .int (xs (x20 + 3).toNatClampNeg), .int (xs (x20 + 4).toNatClampNeg), .long ((((xs (x20 + 5).toNatClampNeg).toInt64) <<< ((32 : Int32).toInt64 &&& 63)) ||| (((xs (x20 + 6).toNatClampNeg).toInt64) &&& 4294967295)), .ref q17]) (rest := []) ⟨hx, hb, hml, hown, hts⟩ (m_L_commit l hlt D cy tq _ Y18 _ _ _ _ _ _ _ _ _) (vx_cwSW 7 hts (good_SW kw_1199 kw_1200 kw_0 kw_1201) rfl rfl rfl (by decide +kernel) ⟨Nat.le_of_ble_eq_true rfl, Nat.le_of_ble_eq_true rfl⟩) (gm_preS hK hW hC hS hA hf) rfl rfl hl.1 rfl (lv_room (Nat.le_of_ble_eq_true rfl)) dL_law_1835 ⟨by show _ ≤ 61024; omega, by show _ ≤ 8913000; omega⟩) hW hS hA (fun r362 M361 H locs hW hS hf => ?_)
            refine lv_istore (lv' := [(5, .int r362), (0, .ref b), (1, .ref q1), (2, .ref q9), (3, .ref q17), (4, .int x20)]) hx hb dL_law_1838 hl (by decide) rfl (fun ls hl => ?_)
            refine lv_aload_n hx hb dL_law_1840 rfl (lv_at hl 3 rfl) ?_
            refine lv_aload_n hx hb dL_law_1841 rfl (lv_at hl 1 rfl) ?_
            refine lv_iload hx hb dL_law_1842 (lv_at hl 5 rfl) ?_
            refine lv_iconst (v := 1) hx hb dL_law_1844 (by decide +kernel) ?_
            refine lv_iadd hx hb dL_law_1845 ?_
            obtain ⟨h363, hf⟩ := hf
            refine va_sld hx hb hX hbl hbA hS h363 dL_law_1846 ?_
            refine lv_aload_n hx hb dL_law_1847 rfl (lv_at hl 1 rfl) ?_
            refine lv_iload hx hb dL_law_1848 (lv_at hl 5 rfl) ?_
            refine lv_iconst (v := 2) hx hb dL_law_1850 (by decide +kernel) ?_
            refine lv_iadd hx hb dL_law_1851 ?_
            obtain ⟨h364, hf⟩ := hf
            refine va_sld hx hb hX hbl hbA hS h364 dL_law_1852 ?_
            refine lv_aload_n hx hb dL_law_1853 rfl (lv_at hl 1 rfl) ?_
            refine lv_iload hx hb dL_law_1854 (lv_at hl 5 rfl) ?_
            refine lv_iconst (v := 3) hx hb dL_law_1856 (by decide +kernel) ?_
            refine lv_iadd hx hb dL_law_1857 ?_
            obtain ⟨h365, hf⟩ := hf
            refine va_sld hx hb hX hbl hbA hS h365 dL_law_1858 ?_
            refine lv_aload_n hx hb dL_law_1859 rfl (lv_at hl 1 rfl) ?_
            refine lv_iload hx hb dL_law_1860 (lv_at hl 5 rfl) ?_
            refine lv_iconst (v := 4) hx hb dL_law_1862 (by decide +kernel) ?_
            refine lv_iadd hx hb dL_law_1863 ?_
            obtain ⟨h366, hf⟩ := hf
            refine va_sld hx hb hX hbl hbA hS h366 dL_law_1864 ?_
            refine lv_aload_n hx hb dL_law_1865 rfl (lv_at hl 1 rfl) ?_
            refine lv_iload hx hb dL_law_1866 (lv_at hl 5 rfl) ?_
            refine lv_iconst (v := 5) hx hb dL_law_1868 (by decide +kernel) ?_
            refine lv_iadd hx hb dL_law_1869 ?_
            obtain ⟨h367, hf⟩ := hf
            refine va_sld hx hb hX hbl hbA hS h367 dL_law_1870 ?_
            refine lv_i2l hx hb dL_law_1871 rfl ?_
            refine lv_bipush (v := 32) hx hb dL_law_1872 (by decide +kernel) ?_
            refine lv_lshl hx hb dL_law_1874 rfl ?_
            refine lv_aload_n hx hb dL_law_1875 rfl (lv_at hl 1 rfl) ?_
            refine lv_iload hx hb dL_law_1876 (lv_at hl 5 rfl) ?_
            refine lv_bipush (v := 6) hx hb dL_law_1878 (by decide +kernel) ?_
            refine lv_iadd hx hb dL_law_1880 ?_
            obtain ⟨h368, hf⟩ := hf
            refine va_sld hx hb hX hbl hbA hS h368 dL_law_1881 ?_
            refine lv_i2l hx hb dL_law_1882 rfl ?_
            refine lv_ldc2 (v := 4294967295) hx hb hown (hts _ kw_1784) dL_law_1883 ?_
            refine lv_land hx hb dL_law_1886 ?_
            refine lv_lor hx hb dL_law_1887 ?_
            obtain ⟨k371, hf⟩ := hf
            refine gm_ci (va_runV (As := [.int (xs (x20 + 1).toNatClampNeg), .int (xs (x20 + 2).toNatClampNeg), .int (xs (x20 + 3).toNatClampNeg), .int (xs (x20 + 4).toNatClampNeg), .long ((((xs (x20 + 5).toNatClampNeg).toInt64) <<< ((32 : Int32).toInt64 &&& 63)) ||| (((xs (x20 + 6).toNatClampNeg).toInt64) &&& 4294967295))]) (rest := []) ⟨hx, hb, hml, hown, hts⟩ (m_X12_commit l D cy tq _ Y18 _ _ _ _ _ _ _ _) (cwV 5 hts (good_V kw_1726 kw_1727 kw_1728 kw_12 kw_1729) rfl rfl rfl (by decide +kernel) ⟨Nat.le_of_ble_eq_true rfl, Nat.le_of_ble_eq_true rfl⟩) (gm_preV hK hW hC hS hA k371 (by decide) (q := (RX12, TX12, 68)) rfl rfl hf) rfl rfl hl.1 rfl (lv_room (Nat.le_of_ble_eq_true rfl)) dL_law_1888 ⟨by show _ ≤ 61024; omega, by show _ ≤ 8913000; omega⟩) hW hS hA (fun r370 M369 H locs hW hS hf => ?_)
            refine lv_istore (lv' := [(6, .int r370), (5, .int r362), (0, .ref b), (1, .ref q1), (2, .ref q9), (3, .ref q17), (4, .int x20)]) hx hb dL_law_1891 hl (by decide) rfl (fun ls hl => ?_)
            refine lv_aload_n hx hb dL_law_1893 rfl (lv_at hl 4 rfl) ?_
            refine gm_ci (va_runV (As := []) (rest := []) ⟨hx, hb, hml, hown, hts⟩ (m_X12_thrown l D cy tq _ Y18 _ _ _) (cwV 0 hts (good_V kw_1454 kw_1455 kw_1456 kw_12 kw_1457) rfl rfl rfl (by decide +kernel) ⟨Nat.le_of_ble_eq_true rfl, Nat.le_of_ble_eq_true rfl⟩) (gm_preV hK hW hC hS hA k371 (by decide) (q := (RX12, TX12, 68)) rfl rfl hf) rfl rfl hl.1 rfl (lv_room (Nat.le_of_ble_eq_true rfl)) dL_law_1894 ⟨by show _ ≤ 61024; omega, by show _ ≤ 8913000; omega⟩) hW hS hA (fun r373 M372 H locs hW hS hf => ?_)
            refine lv_iload hx hb dL_law_1897 (lv_at hl 1 rfl) ?_
            refine lv_icmp_eq (tgt := 1904) hx hb dL_law_1899 (by decide) (fun c374 => ?_) (fun c374 => ?_)
            · replace hf := hf.1 c374
              refine lv_iload hx hb dL_law_1904 (lv_at hl 1 rfl) ?_
              have j1921 : ∀ (H : Heap) (locs : List Loc) (ls : Array Slot), lv_has ls 8 [(0, .ref b), (1, .ref q1), (2, .ref q9), (3, .ref q17), (4, .int x20)] → Wd D cy A Y18 M372 H → va_S A s.heap H locs → f_L_law_1921 Y18 x20 (LOOP2 (L_L_law_53 Y18 L xs q1 q9 q17) n53) M372  → W p l e rm_L_law s m #[Value.ref b] below meth c H locs (124 + (513 - (n53 + 1)) * 3 + 2) (2232956 + (513 - (n53 + 1)) * 18 + 12) (lw_Z below #[Value.ref b] s) (F0 m 1921 ls []) := by
                intro  H locs ls hl hW hS hf
                unfold f_L_law_1921 at hf
                refine lv_goto (tgt := 2359) hx hb dL_law_1921 (by decide) ?_
                refine W.widen (k := 124 + (513 - (n53 + 1)) * 3 + 3) (n := 2232956 + (513 - (n53 + 1)) * 18 + 18) (by omega) (by omega) ?_
                exact j2359 _ _ _ _ (lv_sub hl [0, 1, 2, 3, 4] rfl) hW hS hf
              refine lv_if_ne (tgt := 1921) hx hb dL_law_1906 (by decide) (fun c375 => ?_) (fun c375 => ?_)
              · replace hf := hf.1 c375
                refine W.widen (k := 124 + (513 - (n53 + 1)) * 3 + 2) (n := 2232956 + (513 - (n53 + 1)) * 18 + 12) (by omega) (by omega) ?_
                exact j1921  _ _ _ (lv_sub hl [2, 3, 4, 5, 6] rfl) hW hS hf
              · replace hf := hf.2 c375
                refine lv_aload_n hx hb dL_law_1909 rfl (lv_at hl 5 rfl) ?_
                refine lv_iconst (v := 0) hx hb dL_law_1910 (by decide +kernel) ?_
                obtain ⟨k376, hf⟩ := hf
                obtain ⟨h377, hf⟩ := hf
                refine gm_lald hx hb hK hW k376 h377 dL_law_1911 ?_
                refine lv_iload hx hb dL_law_1912 (lv_at hl 0 rfl) ?_
                refine lv_i2l hx hb dL_law_1914 rfl ?_
                refine W.lcmp hx hb dL_law_1915 ?_
                refine lv_if_eq (tgt := 1921) hx hb dL_law_1916 (by decide) (fun c378 => ?_) (fun c378 => ?_)
                · replace hf := hf.1 (lg_eq.mp c378)
                  refine W.widen (k := 124 + (513 - (n53 + 1)) * 3 + 2) (n := 2232956 + (513 - (n53 + 1)) * 18 + 12) (by omega) (by omega) ?_
                  exact j1921  _ _ _ (lv_sub hl [2, 3, 4, 5, 6] rfl) hW hS hf
                · replace hf := hf.2 (fun z => c378 (lg_eq.mpr z))
                  refine lv_iconst (v := 0) hx hb dL_law_1919 (by decide +kernel) ?_
                  exact hf.elim
            · replace hf := hf.2 c374
              refine lv_iconst (v := 0) hx hb dL_law_1902 (by decide +kernel) ?_
              exact hf.elim
          · replace hf := hf.2.2.2.2.2.2.2.2.2.2.2.2.2.2.2.2.2.2.2.2.2.1 ec26
            refine lv_tableIn (off := 1854) (tgt := 1924) hx hb dL_law_70 (by rw [ec26]; decide) (by rw [ec26]; decide) (by rw [ec26]; rfl) (by decide) ?_
            refine lv_aload_n hx hb dL_law_1924 rfl (lv_at hl 1 rfl) ?_
            refine lv_aload_n hx hb dL_law_1925 rfl (lv_at hl 0 rfl) ?_
            refine lv_iload hx hb dL_law_1926 (lv_at hl 4 rfl) ?_
            refine lv_iconst (v := 1) hx hb dL_law_1928 (by decide +kernel) ?_
            refine lv_iadd hx hb dL_law_1929 ?_
            obtain ⟨h379, hf⟩ := hf
            refine va_sld hx hb hX hbl hbA hS h379 dL_law_1930 ?_
            refine lv_aload_n hx hb dL_law_1931 rfl (lv_at hl 0 rfl) ?_
            refine lv_iload hx hb dL_law_1932 (lv_at hl 4 rfl) ?_
            refine lv_iconst (v := 2) hx hb dL_law_1934 (by decide +kernel) ?_
            refine lv_iadd hx hb dL_law_1935 ?_
            obtain ⟨h380, hf⟩ := hf
            refine va_sld hx hb hX hbl hbA hS h380 dL_law_1936 ?_
            refine lv_aload_n hx hb dL_law_1937 rfl (lv_at hl 3 rfl) ?_
            refine gm_ci (vx_runSW (As := [.ref q1, .int (xs (x20 + 1).toNatClampNeg), .int (xs (x20 + 2).toNatClampNeg), .ref q17]) (rest := []) ⟨hx, hb, hml, hown, hts⟩ (m_L_committed l hlt D cy tq _ Y18 _ _ _ _ _ _) (vx_cwSW 4 hts (good_SW kw_1222 kw_1223 kw_0 kw_1224) rfl rfl rfl (by decide +kernel) ⟨Nat.le_of_ble_eq_true rfl, Nat.le_of_ble_eq_true rfl⟩) (gm_preS hK hW hC hS hA hf) rfl rfl hl.1 rfl (lv_room (Nat.le_of_ble_eq_true rfl)) dL_law_1938 ⟨by show _ ≤ 61024; omega, by show _ ≤ 8913000; omega⟩) hW hS hA (fun r382 M381 H locs hW hS hf => ?_)
            refine lv_istore (lv' := [(5, .int r382), (0, .ref b), (1, .ref q1), (2, .ref q9), (3, .ref q17), (4, .int x20)]) hx hb dL_law_1941 hl (by decide) rfl (fun ls hl => ?_)
            refine lv_aload_n hx hb dL_law_1943 rfl (lv_at hl 3 rfl) ?_
            refine lv_aload_n hx hb dL_law_1944 rfl (lv_at hl 1 rfl) ?_
            refine lv_iload hx hb dL_law_1945 (lv_at hl 5 rfl) ?_
            refine lv_iconst (v := 1) hx hb dL_law_1947 (by decide +kernel) ?_
            refine lv_iadd hx hb dL_law_1948 ?_
            obtain ⟨h383, hf⟩ := hf
            refine va_sld hx hb hX hbl hbA hS h383 dL_law_1949 ?_
            refine lv_aload_n hx hb dL_law_1950 rfl (lv_at hl 1 rfl) ?_
            refine lv_iload hx hb dL_law_1951 (lv_at hl 5 rfl) ?_
            refine lv_iconst (v := 2) hx hb dL_law_1953 (by decide +kernel) ?_
            refine lv_iadd hx hb dL_law_1954 ?_
            obtain ⟨h384, hf⟩ := hf
            refine va_sld hx hb hX hbl hbA hS h384 dL_law_1955 ?_
            obtain ⟨k387, hf⟩ := hf
            refine gm_cl (va_runV (As := [.int (xs (x20 + 1).toNatClampNeg), .int (xs (x20 + 2).toNatClampNeg)]) (rest := []) ⟨hx, hb, hml, hown, hts⟩ (m_X12_committed l D cy tq _ Y18 _ _ _ _ _) (cwV 2 hts (good_V kw_1733 kw_1734 kw_1735 kw_12 kw_1736) rfl rfl rfl (by decide +kernel) ⟨Nat.le_of_ble_eq_true rfl, Nat.le_of_ble_eq_true rfl⟩) (gm_preV hK hW hC hS hA k387 (by decide) (q := (RX12, TX12, 68)) rfl rfl hf) rfl rfl hl.1 rfl (lv_room (Nat.le_of_ble_eq_true rfl)) dL_law_1956 ⟨by show _ ≤ 61024; omega, by show _ ≤ 8913000; omega⟩) hW hS hA (fun r386 M385 H locs hW hS hf => ?_)
            refine lv_lstore (lv' := [(6, .long r386), (5, .int r382), (0, .ref b), (1, .ref q1), (2, .ref q9), (3, .ref q17), (4, .int x20)]) hx hb dL_law_1959 hl (by decide) rfl (fun ls hl => ?_)
            refine lv_aload_n hx hb dL_law_1961 rfl (lv_at hl 4 rfl) ?_
            refine gm_ci (va_runV (As := []) (rest := []) ⟨hx, hb, hml, hown, hts⟩ (m_X12_thrown l D cy tq _ Y18 _ _ _) (cwV 0 hts (good_V kw_1454 kw_1455 kw_1456 kw_12 kw_1457) rfl rfl rfl (by decide +kernel) ⟨Nat.le_of_ble_eq_true rfl, Nat.le_of_ble_eq_true rfl⟩) (gm_preV hK hW hC hS hA k387 (by decide) (q := (RX12, TX12, 68)) rfl rfl hf) rfl rfl hl.1 rfl (lv_room (Nat.le_of_ble_eq_true rfl)) dL_law_1962 ⟨by show _ ≤ 61024; omega, by show _ ≤ 8913000; omega⟩) hW hS hA (fun r389 M388 H locs hW hS hf => ?_)
            refine lv_iload hx hb dL_law_1965 (lv_at hl 1 rfl) ?_
            refine lv_icmp_eq (tgt := 1972) hx hb dL_law_1967 (by decide) (fun c390 => ?_) (fun c390 => ?_)
            · replace hf := hf.1 c390
              refine lv_iload hx hb dL_law_1972 (lv_at hl 1 rfl) ?_
              have j1988 : ∀ (H : Heap) (locs : List Loc) (ls : Array Slot), lv_has ls 8 [(0, .ref b), (1, .ref q1), (2, .ref q9), (3, .ref q17), (4, .int x20)] → Wd D cy A Y18 M388 H → va_S A s.heap H locs → f_L_law_1988 Y18 x20 (LOOP2 (L_L_law_53 Y18 L xs q1 q9 q17) n53) M388  → W p l e rm_L_law s m #[Value.ref b] below meth c H locs (124 + (513 - (n53 + 1)) * 3 + 2) (2232956 + (513 - (n53 + 1)) * 18 + 12) (lw_Z below #[Value.ref b] s) (F0 m 1988 ls []) := by
                intro  H locs ls hl hW hS hf
                unfold f_L_law_1988 at hf
                refine lv_goto (tgt := 2359) hx hb dL_law_1988 (by decide) ?_
                refine W.widen (k := 124 + (513 - (n53 + 1)) * 3 + 3) (n := 2232956 + (513 - (n53 + 1)) * 18 + 18) (by omega) (by omega) ?_
                exact j2359 _ _ _ _ (lv_sub hl [0, 1, 2, 3, 4] rfl) hW hS hf
              refine lv_if_ne (tgt := 1988) hx hb dL_law_1974 (by decide) (fun c391 => ?_) (fun c391 => ?_)
              · replace hf := hf.1 c391
                refine W.widen (k := 124 + (513 - (n53 + 1)) * 3 + 2) (n := 2232956 + (513 - (n53 + 1)) * 18 + 12) (by omega) (by omega) ?_
                exact j1988  _ _ _ (lv_sub hl [2, 3, 4, 5, 6] rfl) hW hS hf
              · replace hf := hf.2 c391
                refine lv_aload_n hx hb dL_law_1977 rfl (lv_at hl 5 rfl) ?_
                refine lv_iconst (v := 0) hx hb dL_law_1978 (by decide +kernel) ?_
                obtain ⟨k392, hf⟩ := hf
                obtain ⟨h393, hf⟩ := hf
                refine gm_lald hx hb hK hW k392 h393 dL_law_1979 ?_
                refine lv_lload hx hb dL_law_1980 (lv_at hl 0 rfl) ?_
                refine W.lcmp hx hb dL_law_1982 ?_
                refine lv_if_eq (tgt := 1988) hx hb dL_law_1983 (by decide) (fun c394 => ?_) (fun c394 => ?_)
                · replace hf := hf.1 (lg_eq.mp c394)
                  refine W.widen (k := 124 + (513 - (n53 + 1)) * 3 + 2) (n := 2232956 + (513 - (n53 + 1)) * 18 + 12) (by omega) (by omega) ?_
                  exact j1988  _ _ _ (lv_sub hl [2, 3, 4, 5, 6] rfl) hW hS hf
                · replace hf := hf.2 (fun z => c394 (lg_eq.mpr z))
                  refine lv_iconst (v := 0) hx hb dL_law_1986 (by decide +kernel) ?_
                  exact hf.elim
            · replace hf := hf.2 c390
              refine lv_iconst (v := 0) hx hb dL_law_1970 (by decide +kernel) ?_
              exact hf.elim
          · replace hf := hf.2.2.2.2.2.2.2.2.2.2.2.2.2.2.2.2.2.2.2.2.2.2.1 ec26
            refine lv_tableIn (off := 1921) (tgt := 1991) hx hb dL_law_70 (by rw [ec26]; decide) (by rw [ec26]; decide) (by rw [ec26]; rfl) (by decide) ?_
            refine lv_aload_n hx hb dL_law_1991 rfl (lv_at hl 1 rfl) ?_
            refine lv_aload_n hx hb dL_law_1992 rfl (lv_at hl 0 rfl) ?_
            refine lv_iload hx hb dL_law_1993 (lv_at hl 4 rfl) ?_
            refine lv_iconst (v := 1) hx hb dL_law_1995 (by decide +kernel) ?_
            refine lv_iadd hx hb dL_law_1996 ?_
            obtain ⟨h395, hf⟩ := hf
            refine va_sld hx hb hX hbl hbA hS h395 dL_law_1997 ?_
            refine lv_aload_n hx hb dL_law_1998 rfl (lv_at hl 0 rfl) ?_
            refine lv_iload hx hb dL_law_1999 (lv_at hl 4 rfl) ?_
            refine lv_iconst (v := 2) hx hb dL_law_2001 (by decide +kernel) ?_
            refine lv_iadd hx hb dL_law_2002 ?_
            obtain ⟨h396, hf⟩ := hf
            refine va_sld hx hb hX hbl hbA hS h396 dL_law_2003 ?_
            refine lv_aload_n hx hb dL_law_2004 rfl (lv_at hl 3 rfl) ?_
            refine gm_ci (vx_runSW (As := [.ref q1, .int (xs (x20 + 1).toNatClampNeg), .int (xs (x20 + 2).toNatClampNeg), .ref q17]) (rest := []) ⟨hx, hb, hml, hown, hts⟩ (m_L_group l hlt D cy tq _ Y18 _ _ _ _ _ _) (vx_cwSW 4 hts (good_SW kw_1230 kw_1231 kw_0 kw_1232) rfl rfl rfl (by decide +kernel) ⟨Nat.le_of_ble_eq_true rfl, Nat.le_of_ble_eq_true rfl⟩) (gm_preS hK hW hC hS hA hf) rfl rfl hl.1 rfl (lv_room (Nat.le_of_ble_eq_true rfl)) dL_law_2005 ⟨by show _ ≤ 61024; omega, by show _ ≤ 8913000; omega⟩) hW hS hA (fun r398 M397 H locs hW hS hf => ?_)
            refine lv_istore (lv' := [(5, .int r398), (0, .ref b), (1, .ref q1), (2, .ref q9), (3, .ref q17), (4, .int x20)]) hx hb dL_law_2008 hl (by decide) rfl (fun ls hl => ?_)
            refine lv_aload_n hx hb dL_law_2010 rfl (lv_at hl 3 rfl) ?_
            refine lv_aload_n hx hb dL_law_2011 rfl (lv_at hl 1 rfl) ?_
            refine lv_iload hx hb dL_law_2012 (lv_at hl 5 rfl) ?_
            refine lv_iconst (v := 1) hx hb dL_law_2014 (by decide +kernel) ?_
            refine lv_iadd hx hb dL_law_2015 ?_
            obtain ⟨h399, hf⟩ := hf
            refine va_sld hx hb hX hbl hbA hS h399 dL_law_2016 ?_
            refine lv_aload_n hx hb dL_law_2017 rfl (lv_at hl 1 rfl) ?_
            refine lv_iload hx hb dL_law_2018 (lv_at hl 5 rfl) ?_
            refine lv_iconst (v := 2) hx hb dL_law_2020 (by decide +kernel) ?_
            refine lv_iadd hx hb dL_law_2021 ?_
            obtain ⟨h400, hf⟩ := hf
            refine va_sld hx hb hX hbl hbA hS h400 dL_law_2022 ?_
            obtain ⟨k403, hf⟩ := hf
            refine gm_ci (va_runV (As := [.int (xs (x20 + 1).toNatClampNeg), .int (xs (x20 + 2).toNatClampNeg)]) (rest := []) ⟨hx, hb, hml, hown, hts⟩ (m_X12_group l D cy tq _ Y18 _ _ _ _ _) (cwV 2 hts (good_V kw_1740 kw_1741 kw_1742 kw_12 kw_1743) rfl rfl rfl (by decide +kernel) ⟨Nat.le_of_ble_eq_true rfl, Nat.le_of_ble_eq_true rfl⟩) (gm_preV hK hW hC hS hA k403 (by decide) (q := (RX12, TX12, 68)) rfl rfl hf) rfl rfl hl.1 rfl (lv_room (Nat.le_of_ble_eq_true rfl)) dL_law_2023 ⟨by show _ ≤ 61024; omega, by show _ ≤ 8913000; omega⟩) hW hS hA (fun r402 M401 H locs hW hS hf => ?_)
            refine lv_istore (lv' := [(6, .int r402), (5, .int r398), (0, .ref b), (1, .ref q1), (2, .ref q9), (3, .ref q17), (4, .int x20)]) hx hb dL_law_2026 hl (by decide) rfl (fun ls hl => ?_)
            refine lv_aload_n hx hb dL_law_2028 rfl (lv_at hl 4 rfl) ?_
            refine gm_ci (va_runV (As := []) (rest := []) ⟨hx, hb, hml, hown, hts⟩ (m_X12_thrown l D cy tq _ Y18 _ _ _) (cwV 0 hts (good_V kw_1454 kw_1455 kw_1456 kw_12 kw_1457) rfl rfl rfl (by decide +kernel) ⟨Nat.le_of_ble_eq_true rfl, Nat.le_of_ble_eq_true rfl⟩) (gm_preV hK hW hC hS hA k403 (by decide) (q := (RX12, TX12, 68)) rfl rfl hf) rfl rfl hl.1 rfl (lv_room (Nat.le_of_ble_eq_true rfl)) dL_law_2029 ⟨by show _ ≤ 61024; omega, by show _ ≤ 8913000; omega⟩) hW hS hA (fun r405 M404 H locs hW hS hf => ?_)
            refine lv_iload hx hb dL_law_2032 (lv_at hl 1 rfl) ?_
            refine lv_icmp_eq (tgt := 2039) hx hb dL_law_2034 (by decide) (fun c406 => ?_) (fun c406 => ?_)
            · replace hf := hf.1 c406
              refine lv_iload hx hb dL_law_2039 (lv_at hl 1 rfl) ?_
              have j2056 : ∀ (H : Heap) (locs : List Loc) (ls : Array Slot), lv_has ls 8 [(0, .ref b), (1, .ref q1), (2, .ref q9), (3, .ref q17), (4, .int x20)] → Wd D cy A Y18 M404 H → va_S A s.heap H locs → f_L_law_2056 Y18 x20 (LOOP2 (L_L_law_53 Y18 L xs q1 q9 q17) n53) M404  → W p l e rm_L_law s m #[Value.ref b] below meth c H locs (124 + (513 - (n53 + 1)) * 3 + 2) (2232956 + (513 - (n53 + 1)) * 18 + 12) (lw_Z below #[Value.ref b] s) (F0 m 2056 ls []) := by
                intro  H locs ls hl hW hS hf
                unfold f_L_law_2056 at hf
                refine lv_goto (tgt := 2359) hx hb dL_law_2056 (by decide) ?_
                refine W.widen (k := 124 + (513 - (n53 + 1)) * 3 + 3) (n := 2232956 + (513 - (n53 + 1)) * 18 + 18) (by omega) (by omega) ?_
                exact j2359 _ _ _ _ (lv_sub hl [0, 1, 2, 3, 4] rfl) hW hS hf
              refine lv_if_ne (tgt := 2056) hx hb dL_law_2041 (by decide) (fun c407 => ?_) (fun c407 => ?_)
              · replace hf := hf.1 c407
                refine W.widen (k := 124 + (513 - (n53 + 1)) * 3 + 2) (n := 2232956 + (513 - (n53 + 1)) * 18 + 12) (by omega) (by omega) ?_
                exact j2056  _ _ _ (lv_sub hl [2, 3, 4, 5, 6] rfl) hW hS hf
              · replace hf := hf.2 c407
                refine lv_aload_n hx hb dL_law_2044 rfl (lv_at hl 5 rfl) ?_
                refine lv_iconst (v := 0) hx hb dL_law_2045 (by decide +kernel) ?_
                obtain ⟨k408, hf⟩ := hf
                obtain ⟨h409, hf⟩ := hf
                refine gm_lald hx hb hK hW k408 h409 dL_law_2046 ?_
                refine lv_iload hx hb dL_law_2047 (lv_at hl 0 rfl) ?_
                refine lv_i2l hx hb dL_law_2049 rfl ?_
                refine W.lcmp hx hb dL_law_2050 ?_
                refine lv_if_eq (tgt := 2056) hx hb dL_law_2051 (by decide) (fun c410 => ?_) (fun c410 => ?_)
                · replace hf := hf.1 (lg_eq.mp c410)
                  refine W.widen (k := 124 + (513 - (n53 + 1)) * 3 + 2) (n := 2232956 + (513 - (n53 + 1)) * 18 + 12) (by omega) (by omega) ?_
                  exact j2056  _ _ _ (lv_sub hl [2, 3, 4, 5, 6] rfl) hW hS hf
                · replace hf := hf.2 (fun z => c410 (lg_eq.mpr z))
                  refine lv_iconst (v := 0) hx hb dL_law_2054 (by decide +kernel) ?_
                  exact hf.elim
            · replace hf := hf.2 c406
              refine lv_iconst (v := 0) hx hb dL_law_2037 (by decide +kernel) ?_
              exact hf.elim
          · replace hf := hf.2.2.2.2.2.2.2.2.2.2.2.2.2.2.2.2.2.2.2.2.2.2.2.1 ec26
            refine lv_tableIn (off := 1989) (tgt := 2059) hx hb dL_law_70 (by rw [ec26]; decide) (by rw [ec26]; decide) (by rw [ec26]; rfl) (by decide) ?_
            refine lv_aload_n hx hb dL_law_2059 rfl (lv_at hl 1 rfl) ?_
            refine lv_aload_n hx hb dL_law_2060 rfl (lv_at hl 0 rfl) ?_
            refine lv_iload hx hb dL_law_2061 (lv_at hl 4 rfl) ?_
            refine lv_iconst (v := 1) hx hb dL_law_2063 (by decide +kernel) ?_
            refine lv_iadd hx hb dL_law_2064 ?_
            obtain ⟨h411, hf⟩ := hf
            refine va_sld hx hb hX hbl hbA hS h411 dL_law_2065 ?_
            refine lv_aload_n hx hb dL_law_2066 rfl (lv_at hl 0 rfl) ?_
            refine lv_iload hx hb dL_law_2067 (lv_at hl 4 rfl) ?_
            refine lv_iconst (v := 2) hx hb dL_law_2069 (by decide +kernel) ?_
            refine lv_iadd hx hb dL_law_2070 ?_
            obtain ⟨h412, hf⟩ := hf
            refine va_sld hx hb hX hbl hbA hS h412 dL_law_2071 ?_
            refine lv_aload_n hx hb dL_law_2072 rfl (lv_at hl 3 rfl) ?_
            refine gm_ci (vx_runSW (As := [.ref q1, .int (xs (x20 + 1).toNatClampNeg), .int (xs (x20 + 2).toNatClampNeg), .ref q17]) (rest := []) ⟨hx, hb, hml, hown, hts⟩ (m_L_share l hlt D cy tq _ Y18 _ _ _ _ _ _) (vx_cwSW 4 hts (good_SW kw_1243 kw_1244 kw_0 kw_1245) rfl rfl rfl (by decide +kernel) ⟨Nat.le_of_ble_eq_true rfl, Nat.le_of_ble_eq_true rfl⟩) (gm_preS hK hW hC hS hA hf) rfl rfl hl.1 rfl (lv_room (Nat.le_of_ble_eq_true rfl)) dL_law_2073 ⟨by show _ ≤ 61024; omega, by show _ ≤ 8913000; omega⟩) hW hS hA (fun r414 M413 H locs hW hS hf => ?_)
            refine lv_istore (lv' := [(5, .int r414), (0, .ref b), (1, .ref q1), (2, .ref q9), (3, .ref q17), (4, .int x20)]) hx hb dL_law_2076 hl (by decide) rfl (fun ls hl => ?_)
            refine lv_aload_n hx hb dL_law_2078 rfl (lv_at hl 3 rfl) ?_
            refine lv_aload_n hx hb dL_law_2079 rfl (lv_at hl 1 rfl) ?_
            refine lv_iload hx hb dL_law_2080 (lv_at hl 5 rfl) ?_
            refine lv_iconst (v := 1) hx hb dL_law_2082 (by decide +kernel) ?_
            refine lv_iadd hx hb dL_law_2083 ?_
            obtain ⟨h415, hf⟩ := hf
            refine va_sld hx hb hX hbl hbA hS h415 dL_law_2084 ?_
            refine lv_aload_n hx hb dL_law_2085 rfl (lv_at hl 1 rfl) ?_
            refine lv_iload hx hb dL_law_2086 (lv_at hl 5 rfl) ?_
            refine lv_iconst (v := 2) hx hb dL_law_2088 (by decide +kernel) ?_
            refine lv_iadd hx hb dL_law_2089 ?_
            obtain ⟨h416, hf⟩ := hf
            refine va_sld hx hb hX hbl hbA hS h416 dL_law_2090 ?_
            obtain ⟨k419, hf⟩ := hf
            refine gm_ci (va_runV (As := [.int (xs (x20 + 1).toNatClampNeg), .int (xs (x20 + 2).toNatClampNeg)]) (rest := []) ⟨hx, hb, hml, hown, hts⟩ (m_X12_share l D cy tq _ Y18 _ _ _ _ _) (cwV 2 hts (good_V kw_1744 kw_1745 kw_1746 kw_12 kw_1747) rfl rfl rfl (by decide +kernel) ⟨Nat.le_of_ble_eq_true rfl, Nat.le_of_ble_eq_true rfl⟩) (gm_preV hK hW hC hS hA k419 (by decide) (q := (RX12, TX12, 68)) rfl rfl hf) rfl rfl hl.1 rfl (lv_room (Nat.le_of_ble_eq_true rfl)) dL_law_2091 ⟨by show _ ≤ 61024; omega, by show _ ≤ 8913000; omega⟩) hW hS hA (fun r418 M417 H locs hW hS hf => ?_)
            refine lv_istore (lv' := [(6, .int r418), (5, .int r414), (0, .ref b), (1, .ref q1), (2, .ref q9), (3, .ref q17), (4, .int x20)]) hx hb dL_law_2094 hl (by decide) rfl (fun ls hl => ?_)
            refine lv_aload_n hx hb dL_law_2096 rfl (lv_at hl 4 rfl) ?_
            refine gm_ci (va_runV (As := []) (rest := []) ⟨hx, hb, hml, hown, hts⟩ (m_X12_thrown l D cy tq _ Y18 _ _ _) (cwV 0 hts (good_V kw_1454 kw_1455 kw_1456 kw_12 kw_1457) rfl rfl rfl (by decide +kernel) ⟨Nat.le_of_ble_eq_true rfl, Nat.le_of_ble_eq_true rfl⟩) (gm_preV hK hW hC hS hA k419 (by decide) (q := (RX12, TX12, 68)) rfl rfl hf) rfl rfl hl.1 rfl (lv_room (Nat.le_of_ble_eq_true rfl)) dL_law_2097 ⟨by show _ ≤ 61024; omega, by show _ ≤ 8913000; omega⟩) hW hS hA (fun r421 M420 H locs hW hS hf => ?_)
            refine lv_iload hx hb dL_law_2100 (lv_at hl 1 rfl) ?_
            refine lv_icmp_eq (tgt := 2107) hx hb dL_law_2102 (by decide) (fun c422 => ?_) (fun c422 => ?_)
            · replace hf := hf.1 c422
              refine lv_iload hx hb dL_law_2107 (lv_at hl 1 rfl) ?_
              have j2124 : ∀ (H : Heap) (locs : List Loc) (ls : Array Slot), lv_has ls 8 [(0, .ref b), (1, .ref q1), (2, .ref q9), (3, .ref q17), (4, .int x20)] → Wd D cy A Y18 M420 H → va_S A s.heap H locs → f_L_law_2124 Y18 x20 (LOOP2 (L_L_law_53 Y18 L xs q1 q9 q17) n53) M420  → W p l e rm_L_law s m #[Value.ref b] below meth c H locs (124 + (513 - (n53 + 1)) * 3 + 2) (2232956 + (513 - (n53 + 1)) * 18 + 12) (lw_Z below #[Value.ref b] s) (F0 m 2124 ls []) := by
                intro  H locs ls hl hW hS hf
                unfold f_L_law_2124 at hf
                refine lv_goto (tgt := 2359) hx hb dL_law_2124 (by decide) ?_
                refine W.widen (k := 124 + (513 - (n53 + 1)) * 3 + 3) (n := 2232956 + (513 - (n53 + 1)) * 18 + 18) (by omega) (by omega) ?_
                exact j2359 _ _ _ _ (lv_sub hl [0, 1, 2, 3, 4] rfl) hW hS hf
              refine lv_if_ne (tgt := 2124) hx hb dL_law_2109 (by decide) (fun c423 => ?_) (fun c423 => ?_)
              · replace hf := hf.1 c423
                refine W.widen (k := 124 + (513 - (n53 + 1)) * 3 + 2) (n := 2232956 + (513 - (n53 + 1)) * 18 + 12) (by omega) (by omega) ?_
                exact j2124  _ _ _ (lv_sub hl [2, 3, 4, 5, 6] rfl) hW hS hf
              · replace hf := hf.2 c423
                refine lv_aload_n hx hb dL_law_2112 rfl (lv_at hl 5 rfl) ?_
                refine lv_iconst (v := 0) hx hb dL_law_2113 (by decide +kernel) ?_
                obtain ⟨k424, hf⟩ := hf
                obtain ⟨h425, hf⟩ := hf
                refine gm_lald hx hb hK hW k424 h425 dL_law_2114 ?_
                refine lv_iload hx hb dL_law_2115 (lv_at hl 0 rfl) ?_
                refine lv_i2l hx hb dL_law_2117 rfl ?_
                refine W.lcmp hx hb dL_law_2118 ?_
                refine lv_if_eq (tgt := 2124) hx hb dL_law_2119 (by decide) (fun c426 => ?_) (fun c426 => ?_)
                · replace hf := hf.1 (lg_eq.mp c426)
                  refine W.widen (k := 124 + (513 - (n53 + 1)) * 3 + 2) (n := 2232956 + (513 - (n53 + 1)) * 18 + 12) (by omega) (by omega) ?_
                  exact j2124  _ _ _ (lv_sub hl [2, 3, 4, 5, 6] rfl) hW hS hf
                · replace hf := hf.2 (fun z => c426 (lg_eq.mpr z))
                  refine lv_iconst (v := 0) hx hb dL_law_2122 (by decide +kernel) ?_
                  exact hf.elim
            · replace hf := hf.2 c422
              refine lv_iconst (v := 0) hx hb dL_law_2105 (by decide +kernel) ?_
              exact hf.elim
          · replace hf := hf.2.2.2.2.2.2.2.2.2.2.2.2.2.2.2.2.2.2.2.2.2.2.2.2.1 ec26
            refine lv_tableIn (off := 2057) (tgt := 2127) hx hb dL_law_70 (by rw [ec26]; decide) (by rw [ec26]; decide) (by rw [ec26]; rfl) (by decide) ?_
            refine lv_aload_n hx hb dL_law_2127 rfl (lv_at hl 1 rfl) ?_
            refine lv_aload_n hx hb dL_law_2128 rfl (lv_at hl 0 rfl) ?_
            refine lv_iload hx hb dL_law_2129 (lv_at hl 4 rfl) ?_
            refine lv_iconst (v := 1) hx hb dL_law_2131 (by decide +kernel) ?_
            refine lv_iadd hx hb dL_law_2132 ?_
            obtain ⟨h427, hf⟩ := hf
            refine va_sld hx hb hX hbl hbA hS h427 dL_law_2133 ?_
            refine lv_aload_n hx hb dL_law_2134 rfl (lv_at hl 3 rfl) ?_
            refine gm_ci (vx_runSW (As := [.ref q1, .int (xs (x20 + 1).toNatClampNeg), .ref q17]) (rest := []) ⟨hx, hb, hml, hown, hts⟩ (m_L_ticks l hlt D cy tq _ Y18 _ _ _ _ _) (vx_cwSW 3 hts (good_SW kw_1251 kw_1252 kw_0 kw_1253) rfl rfl rfl (by decide +kernel) ⟨Nat.le_of_ble_eq_true rfl, Nat.le_of_ble_eq_true rfl⟩) (gm_preS hK hW hC hS hA hf) rfl rfl hl.1 rfl (lv_room (Nat.le_of_ble_eq_true rfl)) dL_law_2135 ⟨by show _ ≤ 61024; omega, by show _ ≤ 8913000; omega⟩) hW hS hA (fun r429 M428 H locs hW hS hf => ?_)
            refine lv_istore (lv' := [(5, .int r429), (0, .ref b), (1, .ref q1), (2, .ref q9), (3, .ref q17), (4, .int x20)]) hx hb dL_law_2138 hl (by decide) rfl (fun ls hl => ?_)
            refine lv_aload_n hx hb dL_law_2140 rfl (lv_at hl 3 rfl) ?_
            refine lv_aload_n hx hb dL_law_2141 rfl (lv_at hl 1 rfl) ?_
            refine lv_iload hx hb dL_law_2142 (lv_at hl 5 rfl) ?_
            refine lv_iconst (v := 1) hx hb dL_law_2144 (by decide +kernel) ?_
            refine lv_iadd hx hb dL_law_2145 ?_
            obtain ⟨h430, hf⟩ := hf
            refine va_sld hx hb hX hbl hbA hS h430 dL_law_2146 ?_
            obtain ⟨k433, hf⟩ := hf
            refine gm_ci (va_runV (As := [.int (xs (x20 + 1).toNatClampNeg)]) (rest := []) ⟨hx, hb, hml, hown, hts⟩ (m_X12_ticks l D cy tq _ Y18 _ _ _ _) (cwV 1 hts (good_V kw_1748 kw_1749 kw_1750 kw_12 kw_1751) rfl rfl rfl (by decide +kernel) ⟨Nat.le_of_ble_eq_true rfl, Nat.le_of_ble_eq_true rfl⟩) (gm_preV hK hW hC hS hA k433 (by decide) (q := (RX12, TX12, 68)) rfl rfl hf) rfl rfl hl.1 rfl (lv_room (Nat.le_of_ble_eq_true rfl)) dL_law_2147 ⟨by show _ ≤ 61024; omega, by show _ ≤ 8913000; omega⟩) hW hS hA (fun r432 M431 H locs hW hS hf => ?_)
            refine lv_istore (lv' := [(6, .int r432), (5, .int r429), (0, .ref b), (1, .ref q1), (2, .ref q9), (3, .ref q17), (4, .int x20)]) hx hb dL_law_2150 hl (by decide) rfl (fun ls hl => ?_)
            refine lv_aload_n hx hb dL_law_2152 rfl (lv_at hl 4 rfl) ?_
            refine gm_ci (va_runV (As := []) (rest := []) ⟨hx, hb, hml, hown, hts⟩ (m_X12_thrown l D cy tq _ Y18 _ _ _) (cwV 0 hts (good_V kw_1454 kw_1455 kw_1456 kw_12 kw_1457) rfl rfl rfl (by decide +kernel) ⟨Nat.le_of_ble_eq_true rfl, Nat.le_of_ble_eq_true rfl⟩) (gm_preV hK hW hC hS hA k433 (by decide) (q := (RX12, TX12, 68)) rfl rfl hf) rfl rfl hl.1 rfl (lv_room (Nat.le_of_ble_eq_true rfl)) dL_law_2153 ⟨by show _ ≤ 61024; omega, by show _ ≤ 8913000; omega⟩) hW hS hA (fun r435 M434 H locs hW hS hf => ?_)
            refine lv_iload hx hb dL_law_2156 (lv_at hl 1 rfl) ?_
            refine lv_icmp_eq (tgt := 2163) hx hb dL_law_2158 (by decide) (fun c436 => ?_) (fun c436 => ?_)
            · replace hf := hf.1 c436
              refine lv_iload hx hb dL_law_2163 (lv_at hl 1 rfl) ?_
              have j2180 : ∀ (H : Heap) (locs : List Loc) (ls : Array Slot), lv_has ls 8 [(0, .ref b), (1, .ref q1), (2, .ref q9), (3, .ref q17), (4, .int x20)] → Wd D cy A Y18 M434 H → va_S A s.heap H locs → f_L_law_2180 Y18 x20 (LOOP2 (L_L_law_53 Y18 L xs q1 q9 q17) n53) M434  → W p l e rm_L_law s m #[Value.ref b] below meth c H locs (124 + (513 - (n53 + 1)) * 3 + 3) (2232956 + (513 - (n53 + 1)) * 18 + 18) (lw_Z below #[Value.ref b] s) (F0 m 2180 ls []) := by
                intro  H locs ls hl hW hS hf
                unfold f_L_law_2180 at hf
                refine lv_goto (tgt := 2359) hx hb dL_law_2180 (by decide) ?_
                refine W.widen (k := 124 + (513 - (n53 + 1)) * 3 + 3) (n := 2232956 + (513 - (n53 + 1)) * 18 + 18) (by omega) (by omega) ?_
                exact j2359 _ _ _ _ (lv_sub hl [0, 1, 2, 3, 4] rfl) hW hS hf
              refine lv_if_ne (tgt := 2180) hx hb dL_law_2165 (by decide) (fun c437 => ?_) (fun c437 => ?_)
              · replace hf := hf.1 c437
                refine W.widen (k := 124 + (513 - (n53 + 1)) * 3 + 3) (n := 2232956 + (513 - (n53 + 1)) * 18 + 18) (by omega) (by omega) ?_
                exact j2180  _ _ _ (lv_sub hl [2, 3, 4, 5, 6] rfl) hW hS hf
              · replace hf := hf.2 c437
                refine lv_aload_n hx hb dL_law_2168 rfl (lv_at hl 5 rfl) ?_
                refine lv_iconst (v := 0) hx hb dL_law_2169 (by decide +kernel) ?_
                obtain ⟨k438, hf⟩ := hf
                obtain ⟨h439, hf⟩ := hf
                refine gm_lald hx hb hK hW k438 h439 dL_law_2170 ?_
                refine lv_iload hx hb dL_law_2171 (lv_at hl 0 rfl) ?_
                refine lv_i2l hx hb dL_law_2173 rfl ?_
                refine W.lcmp hx hb dL_law_2174 ?_
                refine lv_if_eq (tgt := 2180) hx hb dL_law_2175 (by decide) (fun c440 => ?_) (fun c440 => ?_)
                · replace hf := hf.1 (lg_eq.mp c440)
                  refine W.widen (k := 124 + (513 - (n53 + 1)) * 3 + 3) (n := 2232956 + (513 - (n53 + 1)) * 18 + 18) (by omega) (by omega) ?_
                  exact j2180  _ _ _ (lv_sub hl [2, 3, 4, 5, 6] rfl) hW hS hf
                · replace hf := hf.2 (fun z => c440 (lg_eq.mpr z))
                  refine lv_iconst (v := 0) hx hb dL_law_2178 (by decide +kernel) ?_
                  exact hf.elim
            · replace hf := hf.2 c436
              refine lv_iconst (v := 0) hx hb dL_law_2161 (by decide +kernel) ?_
              exact hf.elim
          · replace hf := hf.2.2.2.2.2.2.2.2.2.2.2.2.2.2.2.2.2.2.2.2.2.2.2.2.2.1 ec26
            refine lv_tableIn (off := 2113) (tgt := 2183) hx hb dL_law_70 (by rw [ec26]; decide) (by rw [ec26]; decide) (by rw [ec26]; rfl) (by decide) ?_
            refine lv_aload_n hx hb dL_law_2183 rfl (lv_at hl 1 rfl) ?_
            obtain ⟨k443, hf⟩ := hf
            refine gm_ci (va_runV (As := []) (rest := []) ⟨hx, hb, hml, hown, hts⟩ (m_X11_time l D cy tq _ Y18 _ _ _) (cwV 0 hts (good_V kw_320 kw_321 kw_322 kw_1 kw_323) rfl rfl rfl (by decide +kernel) ⟨Nat.le_of_ble_eq_true rfl, Nat.le_of_ble_eq_true rfl⟩) (gm_preV hK hW hC hS hA k443 (by decide) (q := (RX11, TX11, 13)) rfl rfl hf) rfl rfl hl.1 rfl (lv_room (Nat.le_of_ble_eq_true rfl)) dL_law_2184 ⟨by show _ ≤ 61024; omega, by show _ ≤ 8913000; omega⟩) hW hS hA (fun r442 M441 H locs hW hS hf => ?_)
            refine lv_aload_n hx hb dL_law_2187 rfl (lv_at hl 2 rfl) ?_
            obtain ⟨k446, hf⟩ := hf
            refine gm_ci (va_runV (As := []) (rest := [.int r442]) ⟨hx, hb, hml, hown, hts⟩ (m_X12_time l D cy tq _ Y18 _ _ _) (cwV 0 hts (good_V kw_1756 kw_1757 kw_1758 kw_12 kw_1759) rfl rfl rfl (by decide +kernel) ⟨Nat.le_of_ble_eq_true rfl, Nat.le_of_ble_eq_true rfl⟩) (gm_preV hK hW hC hS hA k446 (by decide) (q := (RX12, TX12, 68)) rfl rfl hf) rfl rfl hl.1 rfl (lv_room (Nat.le_of_ble_eq_true rfl)) dL_law_2188 ⟨by show _ ≤ 61024; omega, by show _ ≤ 8913000; omega⟩) hW hS hA (fun r445 M444 H locs hW hS hf => ?_)
            refine lv_icmp_eq (tgt := 2359) hx hb dL_law_2191 (by decide) (fun c447 => ?_) (fun c447 => ?_)
            · replace hf := hf.1 c447
              refine W.widen (k := 124 + (513 - (n53 + 1)) * 3 + 3) (n := 2232956 + (513 - (n53 + 1)) * 18 + 18) (by omega) (by omega) ?_
              exact j2359 _ _ _ _ (lv_sub hl [0, 1, 2, 3, 4] rfl) hW hS hf
            · replace hf := hf.2 c447
              refine lv_iconst (v := 0) hx hb dL_law_2194 (by decide +kernel) ?_
              exact hf.elim
          · replace hf := hf.2.2.2.2.2.2.2.2.2.2.2.2.2.2.2.2.2.2.2.2.2.2.2.2.2.2.1 ec26
            refine lv_tableIn (off := 2126) (tgt := 2196) hx hb dL_law_70 (by rw [ec26]; decide) (by rw [ec26]; decide) (by rw [ec26]; rfl) (by decide) ?_
            refine lv_aload_n hx hb dL_law_2196 rfl (lv_at hl 1 rfl) ?_
            refine lv_aload_n hx hb dL_law_2197 rfl (lv_at hl 0 rfl) ?_
            refine lv_iload hx hb dL_law_2198 (lv_at hl 4 rfl) ?_
            refine lv_iconst (v := 1) hx hb dL_law_2200 (by decide +kernel) ?_
            refine lv_iadd hx hb dL_law_2201 ?_
            obtain ⟨h448, hf⟩ := hf
            refine va_sld hx hb hX hbl hbA hS h448 dL_law_2202 ?_
            refine gm_ci (vx_runSW (As := [.ref q1, .int (xs (x20 + 1).toNatClampNeg)]) (rest := []) ⟨hx, hb, hml, hown, hts⟩ (m_L_crash l hlt D cy tq _ Y18 _ _ _ _) (vx_cwSW 2 hts (good_SW kw_1267 kw_1268 kw_0 kw_1269) rfl rfl rfl (by decide +kernel) ⟨Nat.le_of_ble_eq_true rfl, Nat.le_of_ble_eq_true rfl⟩) (gm_preS hK hW hC hS hA hf) rfl rfl hl.1 rfl (lv_room (Nat.le_of_ble_eq_true rfl)) dL_law_2203 ⟨by show _ ≤ 61024; omega, by show _ ≤ 8913000; omega⟩) hW hS hA (fun r450 M449 H locs hW hS hf => ?_)
            refine lv_istore (lv' := [(5, .int r450), (0, .ref b), (1, .ref q1), (2, .ref q9), (3, .ref q17), (4, .int x20)]) hx hb dL_law_2206 hl (by decide) rfl (fun ls hl => ?_)
            refine lv_aload_n hx hb dL_law_2208 rfl (lv_at hl 3 rfl) ?_
            refine lv_aload_n hx hb dL_law_2209 rfl (lv_at hl 1 rfl) ?_
            refine lv_iload hx hb dL_law_2210 (lv_at hl 5 rfl) ?_
            refine lv_iconst (v := 1) hx hb dL_law_2212 (by decide +kernel) ?_
            refine lv_iadd hx hb dL_law_2213 ?_
            obtain ⟨h451, hf⟩ := hf
            refine va_sld hx hb hX hbl hbA hS h451 dL_law_2214 ?_
            obtain ⟨k453, hf⟩ := hf
            refine gm_cv (va_runV (As := [.int (xs (x20 + 1).toNatClampNeg)]) (rest := []) ⟨hx, hb, hml, hown, hts⟩ (m_X12_crash l D cy tq _ Y18 _ _ _ _) (cwV 1 hts (good_V kw_1760 kw_1761 kw_1762 kw_12 kw_1763) rfl rfl rfl (by decide +kernel) ⟨Nat.le_of_ble_eq_true rfl, Nat.le_of_ble_eq_true rfl⟩) (gm_preV hK hW hC hS hA k453 (by decide) (q := (RX12, TX12, 68)) rfl rfl hf) rfl rfl hl.1 rfl (lv_room (Nat.le_of_ble_eq_true rfl)) dL_law_2215 ⟨by show _ ≤ 61024; omega, by show _ ≤ 8913000; omega⟩) hW hS hA (fun M452 H locs hW hS hf => ?_)
            refine lv_aload_n hx hb dL_law_2218 rfl (lv_at hl 3 rfl) ?_
            refine gm_ci (va_runV (As := []) (rest := []) ⟨hx, hb, hml, hown, hts⟩ (m_X12_thrown l D cy tq _ Y18 _ _ _) (cwV 0 hts (good_V kw_1454 kw_1455 kw_1456 kw_12 kw_1457) rfl rfl rfl (by decide +kernel) ⟨Nat.le_of_ble_eq_true rfl, Nat.le_of_ble_eq_true rfl⟩) (gm_preV hK hW hC hS hA k453 (by decide) (q := (RX12, TX12, 68)) rfl rfl hf) rfl rfl hl.1 rfl (lv_room (Nat.le_of_ble_eq_true rfl)) dL_law_2219 ⟨by show _ ≤ 61024; omega, by show _ ≤ 8913000; omega⟩) hW hS hA (fun r455 M454 H locs hW hS hf => ?_)
            refine lv_iload hx hb dL_law_2222 (lv_at hl 0 rfl) ?_
            refine lv_icmp_eq (tgt := 2229) hx hb dL_law_2224 (by decide) (fun c456 => ?_) (fun c456 => ?_)
            · replace hf := hf.1 c456
              refine lv_goto (tgt := 2359) hx hb dL_law_2229 (by decide) ?_
              refine W.widen (k := 124 + (513 - (n53 + 1)) * 3 + 3) (n := 2232956 + (513 - (n53 + 1)) * 18 + 18) (by omega) (by omega) ?_
              exact j2359 _ _ _ _ (lv_sub hl [1, 2, 3, 4, 5] rfl) hW hS hf
            · replace hf := hf.2 c456
              refine lv_iconst (v := 0) hx hb dL_law_2227 (by decide +kernel) ?_
              exact hf.elim
          · replace hf := hf.2.2.2.2.2.2.2.2.2.2.2.2.2.2.2.2.2.2.2.2.2.2.2.2.2.2.2.1 ec26
            refine lv_tableIn (off := 2162) (tgt := 2232) hx hb dL_law_70 (by rw [ec26]; decide) (by rw [ec26]; decide) (by rw [ec26]; rfl) (by decide) ?_
            refine lv_aload_n hx hb dL_law_2232 rfl (lv_at hl 1 rfl) ?_
            obtain ⟨k459, hf⟩ := hf
            refine gm_ci (va_runV (As := []) (rest := []) ⟨hx, hb, hml, hown, hts⟩ (m_X11_recover l D cy tq _ Y18 _ _ _) (cwV 0 hts (good_V kw_324 kw_325 kw_326 kw_1 kw_327) rfl rfl rfl (by decide +kernel) ⟨Nat.le_of_ble_eq_true rfl, Nat.le_of_ble_eq_true rfl⟩) (gm_preV hK hW hC hS hA k459 (by decide) (q := (RX11, TX11, 13)) rfl rfl hf) rfl rfl hl.1 rfl (lv_room (Nat.le_of_ble_eq_true rfl)) dL_law_2233 ⟨by show _ ≤ 61024; omega, by show _ ≤ 8913000; omega⟩) hW hS hA (fun r458 M457 H locs hW hS hf => ?_)
            refine lv_aload_n hx hb dL_law_2236 rfl (lv_at hl 2 rfl) ?_
            obtain ⟨k462, hf⟩ := hf
            refine gm_ci (va_runV (As := []) (rest := [.int r458]) ⟨hx, hb, hml, hown, hts⟩ (m_X12_recover l D cy tq _ Y18 _ _ _) (cwV 0 hts (good_V kw_1764 kw_1765 kw_1766 kw_12 kw_1767) rfl rfl rfl (by decide +kernel) ⟨Nat.le_of_ble_eq_true rfl, Nat.le_of_ble_eq_true rfl⟩) (gm_preV hK hW hC hS hA k462 (by decide) (q := (RX12, TX12, 68)) rfl rfl hf) rfl rfl hl.1 rfl (lv_room (Nat.le_of_ble_eq_true rfl)) dL_law_2237 ⟨by show _ ≤ 61024; omega, by show _ ≤ 8913000; omega⟩) hW hS hA (fun r461 M460 H locs hW hS hf => ?_)
            refine lv_icmp_eq (tgt := 2359) hx hb dL_law_2240 (by decide) (fun c463 => ?_) (fun c463 => ?_)
            · replace hf := hf.1 c463
              refine W.widen (k := 124 + (513 - (n53 + 1)) * 3 + 3) (n := 2232956 + (513 - (n53 + 1)) * 18 + 18) (by omega) (by omega) ?_
              exact j2359 _ _ _ _ (lv_sub hl [0, 1, 2, 3, 4] rfl) hW hS hf
            · replace hf := hf.2 c463
              refine lv_iconst (v := 0) hx hb dL_law_2243 (by decide +kernel) ?_
              exact hf.elim
          · replace hf := hf.2.2.2.2.2.2.2.2.2.2.2.2.2.2.2.2.2.2.2.2.2.2.2.2.2.2.2.2.1 ec26
            refine lv_tableIn (off := 2175) (tgt := 2245) hx hb dL_law_70 (by rw [ec26]; decide) (by rw [ec26]; decide) (by rw [ec26]; rfl) (by decide) ?_
            refine lv_aload_n hx hb dL_law_2245 rfl (lv_at hl 1 rfl) ?_
            obtain ⟨k466, hf⟩ := hf
            refine gm_ci (va_runV (As := []) (rest := []) ⟨hx, hb, hml, hown, hts⟩ (m_X11_isDown l D cy tq _ Y18 _ _ _) (cwV 0 hts (good_V kw_383 kw_384 kw_385 kw_1 kw_386) rfl rfl rfl (by decide +kernel) ⟨Nat.le_of_ble_eq_true rfl, Nat.le_of_ble_eq_true rfl⟩) (gm_preV hK hW hC hS hA k466 (by decide) (q := (RX11, TX11, 13)) rfl rfl hf) rfl rfl hl.1 rfl (lv_room (Nat.le_of_ble_eq_true rfl)) dL_law_2246 ⟨by show _ ≤ 61024; omega, by show _ ≤ 8913000; omega⟩) hW hS hA (fun r465 M464 H locs hW hS hf => ?_)
            refine lv_aload_n hx hb dL_law_2249 rfl (lv_at hl 2 rfl) ?_
            obtain ⟨k469, hf⟩ := hf
            refine gm_ci (va_runV (As := []) (rest := [.int r465]) ⟨hx, hb, hml, hown, hts⟩ (m_X12_isDown l D cy tq _ Y18 _ _ _) (cwV 0 hts (good_V kw_1768 kw_1769 kw_1770 kw_12 kw_1771) rfl rfl rfl (by decide +kernel) ⟨Nat.le_of_ble_eq_true rfl, Nat.le_of_ble_eq_true rfl⟩) (gm_preV hK hW hC hS hA k469 (by decide) (q := (RX12, TX12, 68)) rfl rfl hf) rfl rfl hl.1 rfl (lv_room (Nat.le_of_ble_eq_true rfl)) dL_law_2250 ⟨by show _ ≤ 61024; omega, by show _ ≤ 8913000; omega⟩) hW hS hA (fun r468 M467 H locs hW hS hf => ?_)
            refine lv_icmp_eq (tgt := 2359) hx hb dL_law_2253 (by decide) (fun c470 => ?_) (fun c470 => ?_)
            · replace hf := hf.1 c470
              refine W.widen (k := 124 + (513 - (n53 + 1)) * 3 + 3) (n := 2232956 + (513 - (n53 + 1)) * 18 + 18) (by omega) (by omega) ?_
              exact j2359 _ _ _ _ (lv_sub hl [0, 1, 2, 3, 4] rfl) hW hS hf
            · replace hf := hf.2 c470
              refine lv_iconst (v := 0) hx hb dL_law_2256 (by decide +kernel) ?_
              exact hf.elim
          · replace hf := hf.2.2.2.2.2.2.2.2.2.2.2.2.2.2.2.2.2.2.2.2.2.2.2.2.2.2.2.2.2.1 ec26
            refine lv_tableIn (off := 2188) (tgt := 2258) hx hb dL_law_70 (by rw [ec26]; decide) (by rw [ec26]; decide) (by rw [ec26]; rfl) (by decide) ?_
            refine lv_aload_n hx hb dL_law_2258 rfl (lv_at hl 1 rfl) ?_
            obtain ⟨k473, hf⟩ := hf
            refine gm_ci (va_runV (As := []) (rest := []) ⟨hx, hb, hml, hown, hts⟩ (m_X11_writes l D cy tq _ Y18 _ _ _) (cwV 0 hts (good_V kw_387 kw_388 kw_389 kw_1 kw_390) rfl rfl rfl (by decide +kernel) ⟨Nat.le_of_ble_eq_true rfl, Nat.le_of_ble_eq_true rfl⟩) (gm_preV hK hW hC hS hA k473 (by decide) (q := (RX11, TX11, 13)) rfl rfl hf) rfl rfl hl.1 rfl (lv_room (Nat.le_of_ble_eq_true rfl)) dL_law_2259 ⟨by show _ ≤ 61024; omega, by show _ ≤ 8913000; omega⟩) hW hS hA (fun r472 M471 H locs hW hS hf => ?_)
            refine lv_aload_n hx hb dL_law_2262 rfl (lv_at hl 2 rfl) ?_
            obtain ⟨k476, hf⟩ := hf
            refine gm_ci (va_runV (As := []) (rest := [.int r472]) ⟨hx, hb, hml, hown, hts⟩ (m_X12_writes l D cy tq _ Y18 _ _ _) (cwV 0 hts (good_V kw_1772 kw_1773 kw_1774 kw_12 kw_1775) rfl rfl rfl (by decide +kernel) ⟨Nat.le_of_ble_eq_true rfl, Nat.le_of_ble_eq_true rfl⟩) (gm_preV hK hW hC hS hA k476 (by decide) (q := (RX12, TX12, 68)) rfl rfl hf) rfl rfl hl.1 rfl (lv_room (Nat.le_of_ble_eq_true rfl)) dL_law_2263 ⟨by show _ ≤ 61024; omega, by show _ ≤ 8913000; omega⟩) hW hS hA (fun r475 M474 H locs hW hS hf => ?_)
            refine lv_icmp_eq (tgt := 2359) hx hb dL_law_2266 (by decide) (fun c477 => ?_) (fun c477 => ?_)
            · replace hf := hf.1 c477
              refine W.widen (k := 124 + (513 - (n53 + 1)) * 3 + 3) (n := 2232956 + (513 - (n53 + 1)) * 18 + 18) (by omega) (by omega) ?_
              exact j2359 _ _ _ _ (lv_sub hl [0, 1, 2, 3, 4] rfl) hW hS hf
            · replace hf := hf.2 c477
              refine lv_iconst (v := 0) hx hb dL_law_2269 (by decide +kernel) ?_
              exact hf.elim
          · replace hf := hf.2.2.2.2.2.2.2.2.2.2.2.2.2.2.2.2.2.2.2.2.2.2.2.2.2.2.2.2.2.2.1 ec26
            refine lv_tableIn (off := 2201) (tgt := 2271) hx hb dL_law_70 (by rw [ec26]; decide) (by rw [ec26]; decide) (by rw [ec26]; rfl) (by decide) ?_
            refine lv_aload_n hx hb dL_law_2271 rfl (lv_at hl 1 rfl) ?_
            refine lv_aload_n hx hb dL_law_2272 rfl (lv_at hl 3 rfl) ?_
            refine gm_ci (vx_runSW (As := [.ref q1, .ref q17]) (rest := []) ⟨hx, hb, hml, hown, hts⟩ (m_L_free l hlt D cy tq _ Y18 _ _ _ _) (vx_cwSW 2 hts (good_SW kw_1275 kw_1276 kw_0 kw_1277) rfl rfl rfl (by decide +kernel) ⟨Nat.le_of_ble_eq_true rfl, Nat.le_of_ble_eq_true rfl⟩) (gm_preS hK hW hC hS hA hf) rfl rfl hl.1 rfl (lv_room (Nat.le_of_ble_eq_true rfl)) dL_law_2273 ⟨by show _ ≤ 61024; omega, by show _ ≤ 8913000; omega⟩) hW hS hA (fun r479 M478 H locs hW hS hf => ?_)
            refine lv_istore (lv' := [(5, .int r479), (0, .ref b), (1, .ref q1), (2, .ref q9), (3, .ref q17), (4, .int x20)]) hx hb dL_law_2276 hl (by decide) rfl (fun ls hl => ?_)
            refine lv_aload_n hx hb dL_law_2278 rfl (lv_at hl 3 rfl) ?_
            obtain ⟨k482, hf⟩ := hf
            refine gm_ci (va_runV (As := []) (rest := []) ⟨hx, hb, hml, hown, hts⟩ (m_X12_free l D cy tq _ Y18 _ _ _) (cwV 0 hts (good_V kw_1776 kw_1777 kw_1778 kw_12 kw_1779) rfl rfl rfl (by decide +kernel) ⟨Nat.le_of_ble_eq_true rfl, Nat.le_of_ble_eq_true rfl⟩) (gm_preV hK hW hC hS hA k482 (by decide) (q := (RX12, TX12, 68)) rfl rfl hf) rfl rfl hl.1 rfl (lv_room (Nat.le_of_ble_eq_true rfl)) dL_law_2279 ⟨by show _ ≤ 61024; omega, by show _ ≤ 8913000; omega⟩) hW hS hA (fun r481 M480 H locs hW hS hf => ?_)
            refine lv_istore (lv' := [(6, .int r481), (5, .int r479), (0, .ref b), (1, .ref q1), (2, .ref q9), (3, .ref q17), (4, .int x20)]) hx hb dL_law_2282 hl (by decide) rfl (fun ls hl => ?_)
            refine lv_aload_n hx hb dL_law_2284 rfl (lv_at hl 4 rfl) ?_
            refine gm_ci (va_runV (As := []) (rest := []) ⟨hx, hb, hml, hown, hts⟩ (m_X12_thrown l D cy tq _ Y18 _ _ _) (cwV 0 hts (good_V kw_1454 kw_1455 kw_1456 kw_12 kw_1457) rfl rfl rfl (by decide +kernel) ⟨Nat.le_of_ble_eq_true rfl, Nat.le_of_ble_eq_true rfl⟩) (gm_preV hK hW hC hS hA k482 (by decide) (q := (RX12, TX12, 68)) rfl rfl hf) rfl rfl hl.1 rfl (lv_room (Nat.le_of_ble_eq_true rfl)) dL_law_2285 ⟨by show _ ≤ 61024; omega, by show _ ≤ 8913000; omega⟩) hW hS hA (fun r484 M483 H locs hW hS hf => ?_)
            refine lv_iload hx hb dL_law_2288 (lv_at hl 1 rfl) ?_
            refine lv_icmp_eq (tgt := 2295) hx hb dL_law_2290 (by decide) (fun c485 => ?_) (fun c485 => ?_)
            · replace hf := hf.1 c485
              refine lv_iload hx hb dL_law_2295 (lv_at hl 1 rfl) ?_
              have j2312 : ∀ (H : Heap) (locs : List Loc) (ls : Array Slot), lv_has ls 8 [(0, .ref b), (1, .ref q1), (2, .ref q9), (3, .ref q17), (4, .int x20)] → Wd D cy A Y18 M483 H → va_S A s.heap H locs → f_L_law_2312 Y18 x20 (LOOP2 (L_L_law_53 Y18 L xs q1 q9 q17) n53) M483  → W p l e rm_L_law s m #[Value.ref b] below meth c H locs (124 + (513 - (n53 + 1)) * 3 + 1) (2232956 + (513 - (n53 + 1)) * 18 + 6) (lw_Z below #[Value.ref b] s) (F0 m 2312 ls []) := by
                intro  H locs ls hl hW hS hf
                unfold f_L_law_2312 at hf
                refine lv_goto (tgt := 2359) hx hb dL_law_2312 (by decide) ?_
                refine W.widen (k := 124 + (513 - (n53 + 1)) * 3 + 3) (n := 2232956 + (513 - (n53 + 1)) * 18 + 18) (by omega) (by omega) ?_
                exact j2359 _ _ _ _ (lv_sub hl [0, 1, 2, 3, 4] rfl) hW hS hf
              refine lv_if_ne (tgt := 2312) hx hb dL_law_2297 (by decide) (fun c486 => ?_) (fun c486 => ?_)
              · replace hf := hf.1 c486
                refine W.widen (k := 124 + (513 - (n53 + 1)) * 3 + 1) (n := 2232956 + (513 - (n53 + 1)) * 18 + 6) (by omega) (by omega) ?_
                exact j2312  _ _ _ (lv_sub hl [2, 3, 4, 5, 6] rfl) hW hS hf
              · replace hf := hf.2 c486
                refine lv_aload_n hx hb dL_law_2300 rfl (lv_at hl 5 rfl) ?_
                refine lv_iconst (v := 0) hx hb dL_law_2301 (by decide +kernel) ?_
                obtain ⟨k487, hf⟩ := hf
                obtain ⟨h488, hf⟩ := hf
                refine gm_lald hx hb hK hW k487 h488 dL_law_2302 ?_
                refine lv_iload hx hb dL_law_2303 (lv_at hl 0 rfl) ?_
                refine lv_i2l hx hb dL_law_2305 rfl ?_
                refine W.lcmp hx hb dL_law_2306 ?_
                refine lv_if_eq (tgt := 2312) hx hb dL_law_2307 (by decide) (fun c489 => ?_) (fun c489 => ?_)
                · replace hf := hf.1 (lg_eq.mp c489)
                  refine W.widen (k := 124 + (513 - (n53 + 1)) * 3 + 1) (n := 2232956 + (513 - (n53 + 1)) * 18 + 6) (by omega) (by omega) ?_
                  exact j2312  _ _ _ (lv_sub hl [2, 3, 4, 5, 6] rfl) hW hS hf
                · replace hf := hf.2 (fun z => c489 (lg_eq.mpr z))
                  refine lv_iconst (v := 0) hx hb dL_law_2310 (by decide +kernel) ?_
                  exact hf.elim
            · replace hf := hf.2 c485
              refine lv_iconst (v := 0) hx hb dL_law_2293 (by decide +kernel) ?_
              exact hf.elim
          · replace hf := hf.2.2.2.2.2.2.2.2.2.2.2.2.2.2.2.2.2.2.2.2.2.2.2.2.2.2.2.2.2.2.2 ec26
            refine lv_tableIn (off := 2245) (tgt := 2315) hx hb dL_law_70 (by rw [ec26]; decide) (by rw [ec26]; decide) (by rw [ec26]; rfl) (by decide) ?_
            refine lv_aload_n hx hb dL_law_2315 rfl (lv_at hl 1 rfl) ?_
            refine lv_aload_n hx hb dL_law_2316 rfl (lv_at hl 3 rfl) ?_
            refine gm_ci (vx_runSW (As := [.ref q1, .ref q17]) (rest := []) ⟨hx, hb, hml, hown, hts⟩ (m_L_audit l hlt D cy tq _ Y18 _ _ _ _) (vx_cwSW 2 hts (good_SW kw_1286 kw_1287 kw_0 kw_1288) rfl rfl rfl (by decide +kernel) ⟨Nat.le_of_ble_eq_true rfl, Nat.le_of_ble_eq_true rfl⟩) (gm_preS hK hW hC hS hA hf) rfl rfl hl.1 rfl (lv_room (Nat.le_of_ble_eq_true rfl)) dL_law_2317 ⟨by show _ ≤ 61024; omega, by show _ ≤ 8913000; omega⟩) hW hS hA (fun r491 M490 H locs hW hS hf => ?_)
            refine lv_istore (lv' := [(5, .int r491), (0, .ref b), (1, .ref q1), (2, .ref q9), (3, .ref q17), (4, .int x20)]) hx hb dL_law_2320 hl (by decide) rfl (fun ls hl => ?_)
            refine lv_aload_n hx hb dL_law_2322 rfl (lv_at hl 3 rfl) ?_
            obtain ⟨k494, hf⟩ := hf
            refine gm_ci (va_runV (As := []) (rest := []) ⟨hx, hb, hml, hown, hts⟩ (m_X12_audit l D cy tq _ Y18 _ _ _) (cwV 0 hts (good_V kw_1780 kw_1781 kw_1782 kw_12 kw_1783) rfl rfl rfl (by decide +kernel) ⟨Nat.le_of_ble_eq_true rfl, Nat.le_of_ble_eq_true rfl⟩) (gm_preV hK hW hC hS hA k494 (by decide) (q := (RX12, TX12, 68)) rfl rfl hf) rfl rfl hl.1 rfl (lv_room (Nat.le_of_ble_eq_true rfl)) dL_law_2323 ⟨by show _ ≤ 61024; omega, by show _ ≤ 8913000; omega⟩) hW hS hA (fun r493 M492 H locs hW hS hf => ?_)
            refine lv_istore (lv' := [(6, .int r493), (5, .int r491), (0, .ref b), (1, .ref q1), (2, .ref q9), (3, .ref q17), (4, .int x20)]) hx hb dL_law_2326 hl (by decide) rfl (fun ls hl => ?_)
            refine lv_aload_n hx hb dL_law_2328 rfl (lv_at hl 4 rfl) ?_
            refine gm_ci (va_runV (As := []) (rest := []) ⟨hx, hb, hml, hown, hts⟩ (m_X12_thrown l D cy tq _ Y18 _ _ _) (cwV 0 hts (good_V kw_1454 kw_1455 kw_1456 kw_12 kw_1457) rfl rfl rfl (by decide +kernel) ⟨Nat.le_of_ble_eq_true rfl, Nat.le_of_ble_eq_true rfl⟩) (gm_preV hK hW hC hS hA k494 (by decide) (q := (RX12, TX12, 68)) rfl rfl hf) rfl rfl hl.1 rfl (lv_room (Nat.le_of_ble_eq_true rfl)) dL_law_2329 ⟨by show _ ≤ 61024; omega, by show _ ≤ 8913000; omega⟩) hW hS hA (fun r496 M495 H locs hW hS hf => ?_)
            refine lv_iload hx hb dL_law_2332 (lv_at hl 1 rfl) ?_
            refine lv_icmp_eq (tgt := 2339) hx hb dL_law_2334 (by decide) (fun c497 => ?_) (fun c497 => ?_)
            · replace hf := hf.1 c497
              refine lv_iload hx hb dL_law_2339 (lv_at hl 1 rfl) ?_
              have j2356 : ∀ (H : Heap) (locs : List Loc) (ls : Array Slot), lv_has ls 8 [(0, .ref b), (1, .ref q1), (2, .ref q9), (3, .ref q17), (4, .int x20)] → Wd D cy A Y18 M495 H → va_S A s.heap H locs → f_L_law_2356 Y18 x20 (LOOP2 (L_L_law_53 Y18 L xs q1 q9 q17) n53) M495  → W p l e rm_L_law s m #[Value.ref b] below meth c H locs (124 + (513 - (n53 + 1)) * 3 + 1) (2232956 + (513 - (n53 + 1)) * 18 + 6) (lw_Z below #[Value.ref b] s) (F0 m 2356 ls []) := by
                intro  H locs ls hl hW hS hf
                unfold f_L_law_2356 at hf
                refine lv_goto (tgt := 2359) hx hb dL_law_2356 (by decide) ?_
                refine W.widen (k := 124 + (513 - (n53 + 1)) * 3 + 3) (n := 2232956 + (513 - (n53 + 1)) * 18 + 18) (by omega) (by omega) ?_
                exact j2359 _ _ _ _ (lv_sub hl [0, 1, 2, 3, 4] rfl) hW hS hf
              refine lv_if_ne (tgt := 2356) hx hb dL_law_2341 (by decide) (fun c498 => ?_) (fun c498 => ?_)
              · replace hf := hf.1 c498
                refine W.widen (k := 124 + (513 - (n53 + 1)) * 3 + 1) (n := 2232956 + (513 - (n53 + 1)) * 18 + 6) (by omega) (by omega) ?_
                exact j2356  _ _ _ (lv_sub hl [2, 3, 4, 5, 6] rfl) hW hS hf
              · replace hf := hf.2 c498
                refine lv_aload_n hx hb dL_law_2344 rfl (lv_at hl 5 rfl) ?_
                refine lv_iconst (v := 0) hx hb dL_law_2345 (by decide +kernel) ?_
                obtain ⟨k499, hf⟩ := hf
                obtain ⟨h500, hf⟩ := hf
                refine gm_lald hx hb hK hW k499 h500 dL_law_2346 ?_
                refine lv_iload hx hb dL_law_2347 (lv_at hl 0 rfl) ?_
                refine lv_i2l hx hb dL_law_2349 rfl ?_
                refine W.lcmp hx hb dL_law_2350 ?_
                refine lv_if_eq (tgt := 2356) hx hb dL_law_2351 (by decide) (fun c501 => ?_) (fun c501 => ?_)
                · replace hf := hf.1 (lg_eq.mp c501)
                  refine W.widen (k := 124 + (513 - (n53 + 1)) * 3 + 1) (n := 2232956 + (513 - (n53 + 1)) * 18 + 6) (by omega) (by omega) ?_
                  exact j2356  _ _ _ (lv_sub hl [2, 3, 4, 5, 6] rfl) hW hS hf
                · replace hf := hf.2 (fun z => c501 (lg_eq.mpr z))
                  refine lv_iconst (v := 0) hx hb dL_law_2354 (by decide +kernel) ?_
                  exact hf.elim
            · replace hf := hf.2 c497
              refine lv_iconst (v := 0) hx hb dL_law_2337 (by decide +kernel) ?_
              exact hf.elim
  refine W.widen (k := 124 + (513 - n53) * 3) (n := 2232956 + (513 - n53) * 18) (by omega) (by omega) ?_
  exact lp53 n53 _ _ _ _ _ hn53 (lv_sub hl [4, 3, 2, 1, 0] rfl) hW hS hf
