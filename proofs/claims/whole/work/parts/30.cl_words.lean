abbrev cm : Type := (Nat → Nat → Int32) × (Nat → Nat → Int64)
def cl_st : List (Nat × Nat) := [(0, 10), (1, 23), (2, 20), (3, 21), (100, 3), (101, 21), (102, 20), (103, 20), (104, 20), (105, 20), (110, 4), (111, 21), (112, 20), (113, 20), (114, 20), (115, 20), (116, 20), (117, 20), (310, 4), (311, 21), (312, 20), (313, 20), (314, 20), (315, 20), (316, 20), (317, 20), (320, 4), (321, 21), (322, 20), (323, 20), (324, 20), (325, 20), (326, 20), (327, 20), (200, 8), (201, 20), (202, 20), (203, 20), (204, 20), (205, 20), (206, 20), (207, 20), (208, 21), (300, 2), (301, 20), (302, 20), (303, 20), (304, 20), (400, 9), (401, 20), (402, 20), (403, 20), (404, 20), (1000, 1), (1001, 24), (1002, 21), (1003, 20), (1100, 1), (1101, 24), (1102, 21), (1103, 20), (1200, 1), (1201, 24), (1202, 21), (1203, 20), (1300, 1), (1301, 24), (1302, 21), (1303, 20), (1400, 1), (1401, 24), (1402, 21), (1403, 20), (1500, 1), (1501, 24), (1502, 21), (1503, 20), (1600, 1), (1601, 24), (1602, 21), (1603, 20), (1700, 1), (1701, 24), (1702, 21), (1703, 20)]
def cl_sl : List (Nat × Nat) := [(1, 8), (2, 8), (3, 64), (101, 1024), (102, 200), (103, 8), (104, 8), (105, 8), (111, 64), (115, 64), (202, 16), (203, 16), (204, 16), (205, 16), (206, 16), (207, 16), (208, 64), (301, 24), (311, 1024), (315, 1024), (321, 64), (325, 64), (401, 12), (402, 12), (403, 12), (404, 24), (1001, 16), (1101, 16), (1201, 16), (1301, 16), (1401, 16), (1501, 16), (1601, 16), (1701, 16)]
/-- the names that always are, and their kinds -/
def cl_nm : List Nat := cl_st.map Prod.fst
def cl_w (w : Nat) : Prop := ∃ k, k < 8 ∧ w = 1000 + 100 * k
/-- the names of shapes -/
def cl_sh (x : Nat) : Prop := ∃ c k, c < 8 ∧ k < 16 ∧ x = 1000 + 100 * c + 10 + k
def cl_lf (t : Nat) : Prop := t = 5 ∨ t = 6 ∨ t = 7
def cl_L (nl : List Nat) (K : Nat → Nat) : Prop := (∀ q ∈ cl_st, q.1 ∈ nl ∧ K q.1 = q.2) ∧ (∀ x, x ∈ nl → x ∈ cl_nm ∨ (cl_sh x ∧ cl_lf (K x))) ∧ ∀ x, cl_sh x → K x = 0 ∨ (cl_lf (K x) ∧ x ∈ nl)
def cl_N (N : Nat → Nat) : Prop := ∀ q ∈ cl_sl, N q.1 = q.2
def cl_o (o : Nat) : Prop := o = 110 ∨ o = 310 ∨ o = 320
theorem cl_n0 {nl : List Nat} {K : Nat → Nat} (h : cl_L nl K) : 0 ∈ nl := (h.1 (0, 10) (by decide)).1
theorem cl_k0 {nl : List Nat} {K : Nat → Nat} (h : cl_L nl K) : K 0 = 10 := (h.1 (0, 10) (by decide)).2
theorem cl_n1 {nl : List Nat} {K : Nat → Nat} (h : cl_L nl K) : 1 ∈ nl := (h.1 (1, 23) (by decide)).1
theorem cl_k1 {nl : List Nat} {K : Nat → Nat} (h : cl_L nl K) : K 1 = 23 := (h.1 (1, 23) (by decide)).2
theorem cl_n2 {nl : List Nat} {K : Nat → Nat} (h : cl_L nl K) : 2 ∈ nl := (h.1 (2, 20) (by decide)).1
theorem cl_k2 {nl : List Nat} {K : Nat → Nat} (h : cl_L nl K) : K 2 = 20 := (h.1 (2, 20) (by decide)).2
theorem cl_n3 {nl : List Nat} {K : Nat → Nat} (h : cl_L nl K) : 3 ∈ nl := (h.1 (3, 21) (by decide)).1
theorem cl_k3 {nl : List Nat} {K : Nat → Nat} (h : cl_L nl K) : K 3 = 21 := (h.1 (3, 21) (by decide)).2
theorem cl_n100 {nl : List Nat} {K : Nat → Nat} (h : cl_L nl K) : 100 ∈ nl := (h.1 (100, 3) (by decide)).1
theorem cl_k100 {nl : List Nat} {K : Nat → Nat} (h : cl_L nl K) : K 100 = 3 := (h.1 (100, 3) (by decide)).2
theorem cl_n101 {nl : List Nat} {K : Nat → Nat} (h : cl_L nl K) : 101 ∈ nl := (h.1 (101, 21) (by decide)).1
theorem cl_k101 {nl : List Nat} {K : Nat → Nat} (h : cl_L nl K) : K 101 = 21 := (h.1 (101, 21) (by decide)).2
theorem cl_n102 {nl : List Nat} {K : Nat → Nat} (h : cl_L nl K) : 102 ∈ nl := (h.1 (102, 20) (by decide)).1
theorem cl_k102 {nl : List Nat} {K : Nat → Nat} (h : cl_L nl K) : K 102 = 20 := (h.1 (102, 20) (by decide)).2
theorem cl_n103 {nl : List Nat} {K : Nat → Nat} (h : cl_L nl K) : 103 ∈ nl := (h.1 (103, 20) (by decide)).1
theorem cl_k103 {nl : List Nat} {K : Nat → Nat} (h : cl_L nl K) : K 103 = 20 := (h.1 (103, 20) (by decide)).2
theorem cl_n104 {nl : List Nat} {K : Nat → Nat} (h : cl_L nl K) : 104 ∈ nl := (h.1 (104, 20) (by decide)).1
theorem cl_k104 {nl : List Nat} {K : Nat → Nat} (h : cl_L nl K) : K 104 = 20 := (h.1 (104, 20) (by decide)).2
theorem cl_n105 {nl : List Nat} {K : Nat → Nat} (h : cl_L nl K) : 105 ∈ nl := (h.1 (105, 20) (by decide)).1
theorem cl_k105 {nl : List Nat} {K : Nat → Nat} (h : cl_L nl K) : K 105 = 20 := (h.1 (105, 20) (by decide)).2
theorem cl_n110 {nl : List Nat} {K : Nat → Nat} (h : cl_L nl K) : 110 ∈ nl := (h.1 (110, 4) (by decide)).1
theorem cl_k110 {nl : List Nat} {K : Nat → Nat} (h : cl_L nl K) : K 110 = 4 := (h.1 (110, 4) (by decide)).2
theorem cl_n111 {nl : List Nat} {K : Nat → Nat} (h : cl_L nl K) : 111 ∈ nl := (h.1 (111, 21) (by decide)).1
theorem cl_k111 {nl : List Nat} {K : Nat → Nat} (h : cl_L nl K) : K 111 = 21 := (h.1 (111, 21) (by decide)).2
theorem cl_n112 {nl : List Nat} {K : Nat → Nat} (h : cl_L nl K) : 112 ∈ nl := (h.1 (112, 20) (by decide)).1
theorem cl_k112 {nl : List Nat} {K : Nat → Nat} (h : cl_L nl K) : K 112 = 20 := (h.1 (112, 20) (by decide)).2
theorem cl_n113 {nl : List Nat} {K : Nat → Nat} (h : cl_L nl K) : 113 ∈ nl := (h.1 (113, 20) (by decide)).1
theorem cl_k113 {nl : List Nat} {K : Nat → Nat} (h : cl_L nl K) : K 113 = 20 := (h.1 (113, 20) (by decide)).2
theorem cl_n114 {nl : List Nat} {K : Nat → Nat} (h : cl_L nl K) : 114 ∈ nl := (h.1 (114, 20) (by decide)).1
theorem cl_k114 {nl : List Nat} {K : Nat → Nat} (h : cl_L nl K) : K 114 = 20 := (h.1 (114, 20) (by decide)).2
theorem cl_n115 {nl : List Nat} {K : Nat → Nat} (h : cl_L nl K) : 115 ∈ nl := (h.1 (115, 20) (by decide)).1
theorem cl_k115 {nl : List Nat} {K : Nat → Nat} (h : cl_L nl K) : K 115 = 20 := (h.1 (115, 20) (by decide)).2
theorem cl_n116 {nl : List Nat} {K : Nat → Nat} (h : cl_L nl K) : 116 ∈ nl := (h.1 (116, 20) (by decide)).1
theorem cl_k116 {nl : List Nat} {K : Nat → Nat} (h : cl_L nl K) : K 116 = 20 := (h.1 (116, 20) (by decide)).2
theorem cl_n117 {nl : List Nat} {K : Nat → Nat} (h : cl_L nl K) : 117 ∈ nl := (h.1 (117, 20) (by decide)).1
theorem cl_k117 {nl : List Nat} {K : Nat → Nat} (h : cl_L nl K) : K 117 = 20 := (h.1 (117, 20) (by decide)).2
theorem cl_n310 {nl : List Nat} {K : Nat → Nat} (h : cl_L nl K) : 310 ∈ nl := (h.1 (310, 4) (by decide)).1
theorem cl_k310 {nl : List Nat} {K : Nat → Nat} (h : cl_L nl K) : K 310 = 4 := (h.1 (310, 4) (by decide)).2
theorem cl_n311 {nl : List Nat} {K : Nat → Nat} (h : cl_L nl K) : 311 ∈ nl := (h.1 (311, 21) (by decide)).1
theorem cl_k311 {nl : List Nat} {K : Nat → Nat} (h : cl_L nl K) : K 311 = 21 := (h.1 (311, 21) (by decide)).2
theorem cl_n312 {nl : List Nat} {K : Nat → Nat} (h : cl_L nl K) : 312 ∈ nl := (h.1 (312, 20) (by decide)).1
theorem cl_k312 {nl : List Nat} {K : Nat → Nat} (h : cl_L nl K) : K 312 = 20 := (h.1 (312, 20) (by decide)).2
theorem cl_n313 {nl : List Nat} {K : Nat → Nat} (h : cl_L nl K) : 313 ∈ nl := (h.1 (313, 20) (by decide)).1
theorem cl_k313 {nl : List Nat} {K : Nat → Nat} (h : cl_L nl K) : K 313 = 20 := (h.1 (313, 20) (by decide)).2
theorem cl_n314 {nl : List Nat} {K : Nat → Nat} (h : cl_L nl K) : 314 ∈ nl := (h.1 (314, 20) (by decide)).1
theorem cl_k314 {nl : List Nat} {K : Nat → Nat} (h : cl_L nl K) : K 314 = 20 := (h.1 (314, 20) (by decide)).2
theorem cl_n315 {nl : List Nat} {K : Nat → Nat} (h : cl_L nl K) : 315 ∈ nl := (h.1 (315, 20) (by decide)).1
theorem cl_k315 {nl : List Nat} {K : Nat → Nat} (h : cl_L nl K) : K 315 = 20 := (h.1 (315, 20) (by decide)).2
theorem cl_n316 {nl : List Nat} {K : Nat → Nat} (h : cl_L nl K) : 316 ∈ nl := (h.1 (316, 20) (by decide)).1
theorem cl_k316 {nl : List Nat} {K : Nat → Nat} (h : cl_L nl K) : K 316 = 20 := (h.1 (316, 20) (by decide)).2
theorem cl_n317 {nl : List Nat} {K : Nat → Nat} (h : cl_L nl K) : 317 ∈ nl := (h.1 (317, 20) (by decide)).1
theorem cl_k317 {nl : List Nat} {K : Nat → Nat} (h : cl_L nl K) : K 317 = 20 := (h.1 (317, 20) (by decide)).2
theorem cl_n320 {nl : List Nat} {K : Nat → Nat} (h : cl_L nl K) : 320 ∈ nl := (h.1 (320, 4) (by decide)).1
theorem cl_k320 {nl : List Nat} {K : Nat → Nat} (h : cl_L nl K) : K 320 = 4 := (h.1 (320, 4) (by decide)).2
theorem cl_n321 {nl : List Nat} {K : Nat → Nat} (h : cl_L nl K) : 321 ∈ nl := (h.1 (321, 21) (by decide)).1
theorem cl_k321 {nl : List Nat} {K : Nat → Nat} (h : cl_L nl K) : K 321 = 21 := (h.1 (321, 21) (by decide)).2
theorem cl_n322 {nl : List Nat} {K : Nat → Nat} (h : cl_L nl K) : 322 ∈ nl := (h.1 (322, 20) (by decide)).1
theorem cl_k322 {nl : List Nat} {K : Nat → Nat} (h : cl_L nl K) : K 322 = 20 := (h.1 (322, 20) (by decide)).2
theorem cl_n323 {nl : List Nat} {K : Nat → Nat} (h : cl_L nl K) : 323 ∈ nl := (h.1 (323, 20) (by decide)).1
theorem cl_k323 {nl : List Nat} {K : Nat → Nat} (h : cl_L nl K) : K 323 = 20 := (h.1 (323, 20) (by decide)).2
theorem cl_n324 {nl : List Nat} {K : Nat → Nat} (h : cl_L nl K) : 324 ∈ nl := (h.1 (324, 20) (by decide)).1
theorem cl_k324 {nl : List Nat} {K : Nat → Nat} (h : cl_L nl K) : K 324 = 20 := (h.1 (324, 20) (by decide)).2
theorem cl_n325 {nl : List Nat} {K : Nat → Nat} (h : cl_L nl K) : 325 ∈ nl := (h.1 (325, 20) (by decide)).1
theorem cl_k325 {nl : List Nat} {K : Nat → Nat} (h : cl_L nl K) : K 325 = 20 := (h.1 (325, 20) (by decide)).2
theorem cl_n326 {nl : List Nat} {K : Nat → Nat} (h : cl_L nl K) : 326 ∈ nl := (h.1 (326, 20) (by decide)).1
theorem cl_k326 {nl : List Nat} {K : Nat → Nat} (h : cl_L nl K) : K 326 = 20 := (h.1 (326, 20) (by decide)).2
theorem cl_n327 {nl : List Nat} {K : Nat → Nat} (h : cl_L nl K) : 327 ∈ nl := (h.1 (327, 20) (by decide)).1
theorem cl_k327 {nl : List Nat} {K : Nat → Nat} (h : cl_L nl K) : K 327 = 20 := (h.1 (327, 20) (by decide)).2
theorem cl_n200 {nl : List Nat} {K : Nat → Nat} (h : cl_L nl K) : 200 ∈ nl := (h.1 (200, 8) (by decide)).1
theorem cl_k200 {nl : List Nat} {K : Nat → Nat} (h : cl_L nl K) : K 200 = 8 := (h.1 (200, 8) (by decide)).2
theorem cl_n201 {nl : List Nat} {K : Nat → Nat} (h : cl_L nl K) : 201 ∈ nl := (h.1 (201, 20) (by decide)).1
theorem cl_k201 {nl : List Nat} {K : Nat → Nat} (h : cl_L nl K) : K 201 = 20 := (h.1 (201, 20) (by decide)).2
theorem cl_n202 {nl : List Nat} {K : Nat → Nat} (h : cl_L nl K) : 202 ∈ nl := (h.1 (202, 20) (by decide)).1
theorem cl_k202 {nl : List Nat} {K : Nat → Nat} (h : cl_L nl K) : K 202 = 20 := (h.1 (202, 20) (by decide)).2
theorem cl_n203 {nl : List Nat} {K : Nat → Nat} (h : cl_L nl K) : 203 ∈ nl := (h.1 (203, 20) (by decide)).1
theorem cl_k203 {nl : List Nat} {K : Nat → Nat} (h : cl_L nl K) : K 203 = 20 := (h.1 (203, 20) (by decide)).2
theorem cl_n204 {nl : List Nat} {K : Nat → Nat} (h : cl_L nl K) : 204 ∈ nl := (h.1 (204, 20) (by decide)).1
theorem cl_k204 {nl : List Nat} {K : Nat → Nat} (h : cl_L nl K) : K 204 = 20 := (h.1 (204, 20) (by decide)).2
theorem cl_n205 {nl : List Nat} {K : Nat → Nat} (h : cl_L nl K) : 205 ∈ nl := (h.1 (205, 20) (by decide)).1
theorem cl_k205 {nl : List Nat} {K : Nat → Nat} (h : cl_L nl K) : K 205 = 20 := (h.1 (205, 20) (by decide)).2
theorem cl_n206 {nl : List Nat} {K : Nat → Nat} (h : cl_L nl K) : 206 ∈ nl := (h.1 (206, 20) (by decide)).1
theorem cl_k206 {nl : List Nat} {K : Nat → Nat} (h : cl_L nl K) : K 206 = 20 := (h.1 (206, 20) (by decide)).2
theorem cl_n207 {nl : List Nat} {K : Nat → Nat} (h : cl_L nl K) : 207 ∈ nl := (h.1 (207, 20) (by decide)).1
theorem cl_k207 {nl : List Nat} {K : Nat → Nat} (h : cl_L nl K) : K 207 = 20 := (h.1 (207, 20) (by decide)).2
theorem cl_n208 {nl : List Nat} {K : Nat → Nat} (h : cl_L nl K) : 208 ∈ nl := (h.1 (208, 21) (by decide)).1
theorem cl_k208 {nl : List Nat} {K : Nat → Nat} (h : cl_L nl K) : K 208 = 21 := (h.1 (208, 21) (by decide)).2
theorem cl_n300 {nl : List Nat} {K : Nat → Nat} (h : cl_L nl K) : 300 ∈ nl := (h.1 (300, 2) (by decide)).1
theorem cl_k300 {nl : List Nat} {K : Nat → Nat} (h : cl_L nl K) : K 300 = 2 := (h.1 (300, 2) (by decide)).2
theorem cl_n301 {nl : List Nat} {K : Nat → Nat} (h : cl_L nl K) : 301 ∈ nl := (h.1 (301, 20) (by decide)).1
theorem cl_k301 {nl : List Nat} {K : Nat → Nat} (h : cl_L nl K) : K 301 = 20 := (h.1 (301, 20) (by decide)).2
theorem cl_n302 {nl : List Nat} {K : Nat → Nat} (h : cl_L nl K) : 302 ∈ nl := (h.1 (302, 20) (by decide)).1
theorem cl_k302 {nl : List Nat} {K : Nat → Nat} (h : cl_L nl K) : K 302 = 20 := (h.1 (302, 20) (by decide)).2
theorem cl_n303 {nl : List Nat} {K : Nat → Nat} (h : cl_L nl K) : 303 ∈ nl := (h.1 (303, 20) (by decide)).1
theorem cl_k303 {nl : List Nat} {K : Nat → Nat} (h : cl_L nl K) : K 303 = 20 := (h.1 (303, 20) (by decide)).2
theorem cl_n304 {nl : List Nat} {K : Nat → Nat} (h : cl_L nl K) : 304 ∈ nl := (h.1 (304, 20) (by decide)).1
theorem cl_k304 {nl : List Nat} {K : Nat → Nat} (h : cl_L nl K) : K 304 = 20 := (h.1 (304, 20) (by decide)).2
theorem cl_n400 {nl : List Nat} {K : Nat → Nat} (h : cl_L nl K) : 400 ∈ nl := (h.1 (400, 9) (by decide)).1
theorem cl_k400 {nl : List Nat} {K : Nat → Nat} (h : cl_L nl K) : K 400 = 9 := (h.1 (400, 9) (by decide)).2
theorem cl_n401 {nl : List Nat} {K : Nat → Nat} (h : cl_L nl K) : 401 ∈ nl := (h.1 (401, 20) (by decide)).1
theorem cl_k401 {nl : List Nat} {K : Nat → Nat} (h : cl_L nl K) : K 401 = 20 := (h.1 (401, 20) (by decide)).2
theorem cl_n402 {nl : List Nat} {K : Nat → Nat} (h : cl_L nl K) : 402 ∈ nl := (h.1 (402, 20) (by decide)).1
theorem cl_k402 {nl : List Nat} {K : Nat → Nat} (h : cl_L nl K) : K 402 = 20 := (h.1 (402, 20) (by decide)).2
theorem cl_n403 {nl : List Nat} {K : Nat → Nat} (h : cl_L nl K) : 403 ∈ nl := (h.1 (403, 20) (by decide)).1
theorem cl_k403 {nl : List Nat} {K : Nat → Nat} (h : cl_L nl K) : K 403 = 20 := (h.1 (403, 20) (by decide)).2
theorem cl_n404 {nl : List Nat} {K : Nat → Nat} (h : cl_L nl K) : 404 ∈ nl := (h.1 (404, 20) (by decide)).1
theorem cl_k404 {nl : List Nat} {K : Nat → Nat} (h : cl_L nl K) : K 404 = 20 := (h.1 (404, 20) (by decide)).2
theorem cl_n1000 {nl : List Nat} {K : Nat → Nat} (h : cl_L nl K) : 1000 ∈ nl := (h.1 (1000, 1) (by decide)).1
theorem cl_k1000 {nl : List Nat} {K : Nat → Nat} (h : cl_L nl K) : K 1000 = 1 := (h.1 (1000, 1) (by decide)).2
theorem cl_n1001 {nl : List Nat} {K : Nat → Nat} (h : cl_L nl K) : 1001 ∈ nl := (h.1 (1001, 24) (by decide)).1
theorem cl_k1001 {nl : List Nat} {K : Nat → Nat} (h : cl_L nl K) : K 1001 = 24 := (h.1 (1001, 24) (by decide)).2
theorem cl_n1002 {nl : List Nat} {K : Nat → Nat} (h : cl_L nl K) : 1002 ∈ nl := (h.1 (1002, 21) (by decide)).1
theorem cl_k1002 {nl : List Nat} {K : Nat → Nat} (h : cl_L nl K) : K 1002 = 21 := (h.1 (1002, 21) (by decide)).2
theorem cl_n1003 {nl : List Nat} {K : Nat → Nat} (h : cl_L nl K) : 1003 ∈ nl := (h.1 (1003, 20) (by decide)).1
theorem cl_k1003 {nl : List Nat} {K : Nat → Nat} (h : cl_L nl K) : K 1003 = 20 := (h.1 (1003, 20) (by decide)).2
theorem cl_n1100 {nl : List Nat} {K : Nat → Nat} (h : cl_L nl K) : 1100 ∈ nl := (h.1 (1100, 1) (by decide)).1
theorem cl_k1100 {nl : List Nat} {K : Nat → Nat} (h : cl_L nl K) : K 1100 = 1 := (h.1 (1100, 1) (by decide)).2
theorem cl_n1101 {nl : List Nat} {K : Nat → Nat} (h : cl_L nl K) : 1101 ∈ nl := (h.1 (1101, 24) (by decide)).1
theorem cl_k1101 {nl : List Nat} {K : Nat → Nat} (h : cl_L nl K) : K 1101 = 24 := (h.1 (1101, 24) (by decide)).2
theorem cl_n1102 {nl : List Nat} {K : Nat → Nat} (h : cl_L nl K) : 1102 ∈ nl := (h.1 (1102, 21) (by decide)).1
theorem cl_k1102 {nl : List Nat} {K : Nat → Nat} (h : cl_L nl K) : K 1102 = 21 := (h.1 (1102, 21) (by decide)).2
theorem cl_n1103 {nl : List Nat} {K : Nat → Nat} (h : cl_L nl K) : 1103 ∈ nl := (h.1 (1103, 20) (by decide)).1
theorem cl_k1103 {nl : List Nat} {K : Nat → Nat} (h : cl_L nl K) : K 1103 = 20 := (h.1 (1103, 20) (by decide)).2
theorem cl_n1200 {nl : List Nat} {K : Nat → Nat} (h : cl_L nl K) : 1200 ∈ nl := (h.1 (1200, 1) (by decide)).1
theorem cl_k1200 {nl : List Nat} {K : Nat → Nat} (h : cl_L nl K) : K 1200 = 1 := (h.1 (1200, 1) (by decide)).2
theorem cl_n1201 {nl : List Nat} {K : Nat → Nat} (h : cl_L nl K) : 1201 ∈ nl := (h.1 (1201, 24) (by decide)).1
theorem cl_k1201 {nl : List Nat} {K : Nat → Nat} (h : cl_L nl K) : K 1201 = 24 := (h.1 (1201, 24) (by decide)).2
theorem cl_n1202 {nl : List Nat} {K : Nat → Nat} (h : cl_L nl K) : 1202 ∈ nl := (h.1 (1202, 21) (by decide)).1
theorem cl_k1202 {nl : List Nat} {K : Nat → Nat} (h : cl_L nl K) : K 1202 = 21 := (h.1 (1202, 21) (by decide)).2
theorem cl_n1203 {nl : List Nat} {K : Nat → Nat} (h : cl_L nl K) : 1203 ∈ nl := (h.1 (1203, 20) (by decide)).1
theorem cl_k1203 {nl : List Nat} {K : Nat → Nat} (h : cl_L nl K) : K 1203 = 20 := (h.1 (1203, 20) (by decide)).2
theorem cl_n1300 {nl : List Nat} {K : Nat → Nat} (h : cl_L nl K) : 1300 ∈ nl := (h.1 (1300, 1) (by decide)).1
theorem cl_k1300 {nl : List Nat} {K : Nat → Nat} (h : cl_L nl K) : K 1300 = 1 := (h.1 (1300, 1) (by decide)).2
theorem cl_n1301 {nl : List Nat} {K : Nat → Nat} (h : cl_L nl K) : 1301 ∈ nl := (h.1 (1301, 24) (by decide)).1
theorem cl_k1301 {nl : List Nat} {K : Nat → Nat} (h : cl_L nl K) : K 1301 = 24 := (h.1 (1301, 24) (by decide)).2
theorem cl_n1302 {nl : List Nat} {K : Nat → Nat} (h : cl_L nl K) : 1302 ∈ nl := (h.1 (1302, 21) (by decide)).1
theorem cl_k1302 {nl : List Nat} {K : Nat → Nat} (h : cl_L nl K) : K 1302 = 21 := (h.1 (1302, 21) (by decide)).2
theorem cl_n1303 {nl : List Nat} {K : Nat → Nat} (h : cl_L nl K) : 1303 ∈ nl := (h.1 (1303, 20) (by decide)).1
theorem cl_k1303 {nl : List Nat} {K : Nat → Nat} (h : cl_L nl K) : K 1303 = 20 := (h.1 (1303, 20) (by decide)).2
theorem cl_n1400 {nl : List Nat} {K : Nat → Nat} (h : cl_L nl K) : 1400 ∈ nl := (h.1 (1400, 1) (by decide)).1
theorem cl_k1400 {nl : List Nat} {K : Nat → Nat} (h : cl_L nl K) : K 1400 = 1 := (h.1 (1400, 1) (by decide)).2
theorem cl_n1401 {nl : List Nat} {K : Nat → Nat} (h : cl_L nl K) : 1401 ∈ nl := (h.1 (1401, 24) (by decide)).1
theorem cl_k1401 {nl : List Nat} {K : Nat → Nat} (h : cl_L nl K) : K 1401 = 24 := (h.1 (1401, 24) (by decide)).2
theorem cl_n1402 {nl : List Nat} {K : Nat → Nat} (h : cl_L nl K) : 1402 ∈ nl := (h.1 (1402, 21) (by decide)).1
theorem cl_k1402 {nl : List Nat} {K : Nat → Nat} (h : cl_L nl K) : K 1402 = 21 := (h.1 (1402, 21) (by decide)).2
theorem cl_n1403 {nl : List Nat} {K : Nat → Nat} (h : cl_L nl K) : 1403 ∈ nl := (h.1 (1403, 20) (by decide)).1
theorem cl_k1403 {nl : List Nat} {K : Nat → Nat} (h : cl_L nl K) : K 1403 = 20 := (h.1 (1403, 20) (by decide)).2
theorem cl_n1500 {nl : List Nat} {K : Nat → Nat} (h : cl_L nl K) : 1500 ∈ nl := (h.1 (1500, 1) (by decide)).1
theorem cl_k1500 {nl : List Nat} {K : Nat → Nat} (h : cl_L nl K) : K 1500 = 1 := (h.1 (1500, 1) (by decide)).2
theorem cl_n1501 {nl : List Nat} {K : Nat → Nat} (h : cl_L nl K) : 1501 ∈ nl := (h.1 (1501, 24) (by decide)).1
theorem cl_k1501 {nl : List Nat} {K : Nat → Nat} (h : cl_L nl K) : K 1501 = 24 := (h.1 (1501, 24) (by decide)).2
theorem cl_n1502 {nl : List Nat} {K : Nat → Nat} (h : cl_L nl K) : 1502 ∈ nl := (h.1 (1502, 21) (by decide)).1
theorem cl_k1502 {nl : List Nat} {K : Nat → Nat} (h : cl_L nl K) : K 1502 = 21 := (h.1 (1502, 21) (by decide)).2
theorem cl_n1503 {nl : List Nat} {K : Nat → Nat} (h : cl_L nl K) : 1503 ∈ nl := (h.1 (1503, 20) (by decide)).1
theorem cl_k1503 {nl : List Nat} {K : Nat → Nat} (h : cl_L nl K) : K 1503 = 20 := (h.1 (1503, 20) (by decide)).2
theorem cl_n1600 {nl : List Nat} {K : Nat → Nat} (h : cl_L nl K) : 1600 ∈ nl := (h.1 (1600, 1) (by decide)).1
theorem cl_k1600 {nl : List Nat} {K : Nat → Nat} (h : cl_L nl K) : K 1600 = 1 := (h.1 (1600, 1) (by decide)).2
theorem cl_n1601 {nl : List Nat} {K : Nat → Nat} (h : cl_L nl K) : 1601 ∈ nl := (h.1 (1601, 24) (by decide)).1
theorem cl_k1601 {nl : List Nat} {K : Nat → Nat} (h : cl_L nl K) : K 1601 = 24 := (h.1 (1601, 24) (by decide)).2
theorem cl_n1602 {nl : List Nat} {K : Nat → Nat} (h : cl_L nl K) : 1602 ∈ nl := (h.1 (1602, 21) (by decide)).1
theorem cl_k1602 {nl : List Nat} {K : Nat → Nat} (h : cl_L nl K) : K 1602 = 21 := (h.1 (1602, 21) (by decide)).2
theorem cl_n1603 {nl : List Nat} {K : Nat → Nat} (h : cl_L nl K) : 1603 ∈ nl := (h.1 (1603, 20) (by decide)).1
theorem cl_k1603 {nl : List Nat} {K : Nat → Nat} (h : cl_L nl K) : K 1603 = 20 := (h.1 (1603, 20) (by decide)).2
theorem cl_n1700 {nl : List Nat} {K : Nat → Nat} (h : cl_L nl K) : 1700 ∈ nl := (h.1 (1700, 1) (by decide)).1
theorem cl_k1700 {nl : List Nat} {K : Nat → Nat} (h : cl_L nl K) : K 1700 = 1 := (h.1 (1700, 1) (by decide)).2
theorem cl_n1701 {nl : List Nat} {K : Nat → Nat} (h : cl_L nl K) : 1701 ∈ nl := (h.1 (1701, 24) (by decide)).1
theorem cl_k1701 {nl : List Nat} {K : Nat → Nat} (h : cl_L nl K) : K 1701 = 24 := (h.1 (1701, 24) (by decide)).2
theorem cl_n1702 {nl : List Nat} {K : Nat → Nat} (h : cl_L nl K) : 1702 ∈ nl := (h.1 (1702, 21) (by decide)).1
theorem cl_k1702 {nl : List Nat} {K : Nat → Nat} (h : cl_L nl K) : K 1702 = 21 := (h.1 (1702, 21) (by decide)).2
theorem cl_n1703 {nl : List Nat} {K : Nat → Nat} (h : cl_L nl K) : 1703 ∈ nl := (h.1 (1703, 20) (by decide)).1
theorem cl_k1703 {nl : List Nat} {K : Nat → Nat} (h : cl_L nl K) : K 1703 = 20 := (h.1 (1703, 20) (by decide)).2
theorem cl_l2 {N : Nat → Nat} (h : cl_N N) : N 2 = 8 := h (2, 8) (by decide)
theorem cl_l3 {N : Nat → Nat} (h : cl_N N) : N 3 = 64 := h (3, 64) (by decide)
theorem cl_l1 {N : Nat → Nat} (h : cl_N N) : N 1 = 8 := h (1, 8) (by decide)
theorem cl_l101 {N : Nat → Nat} (h : cl_N N) : N 101 = 1024 := h (101, 1024) (by decide)
theorem cl_l102 {N : Nat → Nat} (h : cl_N N) : N 102 = 200 := h (102, 200) (by decide)
theorem cl_l103 {N : Nat → Nat} (h : cl_N N) : N 103 = 8 := h (103, 8) (by decide)
theorem cl_l104 {N : Nat → Nat} (h : cl_N N) : N 104 = 8 := h (104, 8) (by decide)
theorem cl_l105 {N : Nat → Nat} (h : cl_N N) : N 105 = 8 := h (105, 8) (by decide)
theorem cl_l111 {N : Nat → Nat} (h : cl_N N) : N 111 = 64 := h (111, 64) (by decide)
theorem cl_l115 {N : Nat → Nat} (h : cl_N N) : N 115 = 64 := h (115, 64) (by decide)
theorem cl_l202 {N : Nat → Nat} (h : cl_N N) : N 202 = 16 := h (202, 16) (by decide)
theorem cl_l203 {N : Nat → Nat} (h : cl_N N) : N 203 = 16 := h (203, 16) (by decide)
theorem cl_l204 {N : Nat → Nat} (h : cl_N N) : N 204 = 16 := h (204, 16) (by decide)
theorem cl_l205 {N : Nat → Nat} (h : cl_N N) : N 205 = 16 := h (205, 16) (by decide)
theorem cl_l206 {N : Nat → Nat} (h : cl_N N) : N 206 = 16 := h (206, 16) (by decide)
theorem cl_l207 {N : Nat → Nat} (h : cl_N N) : N 207 = 16 := h (207, 16) (by decide)
theorem cl_l208 {N : Nat → Nat} (h : cl_N N) : N 208 = 64 := h (208, 64) (by decide)
theorem cl_l301 {N : Nat → Nat} (h : cl_N N) : N 301 = 24 := h (301, 24) (by decide)
theorem cl_l311 {N : Nat → Nat} (h : cl_N N) : N 311 = 1024 := h (311, 1024) (by decide)
theorem cl_l315 {N : Nat → Nat} (h : cl_N N) : N 315 = 1024 := h (315, 1024) (by decide)
theorem cl_l321 {N : Nat → Nat} (h : cl_N N) : N 321 = 64 := h (321, 64) (by decide)
theorem cl_l325 {N : Nat → Nat} (h : cl_N N) : N 325 = 64 := h (325, 64) (by decide)
theorem cl_l401 {N : Nat → Nat} (h : cl_N N) : N 401 = 12 := h (401, 12) (by decide)
theorem cl_l402 {N : Nat → Nat} (h : cl_N N) : N 402 = 12 := h (402, 12) (by decide)
theorem cl_l403 {N : Nat → Nat} (h : cl_N N) : N 403 = 12 := h (403, 12) (by decide)
theorem cl_l404 {N : Nat → Nat} (h : cl_N N) : N 404 = 24 := h (404, 24) (by decide)
theorem cl_l1001 {N : Nat → Nat} (h : cl_N N) : N 1001 = 16 := h (1001, 16) (by decide)
theorem cl_l1101 {N : Nat → Nat} (h : cl_N N) : N 1101 = 16 := h (1101, 16) (by decide)
theorem cl_l1201 {N : Nat → Nat} (h : cl_N N) : N 1201 = 16 := h (1201, 16) (by decide)
theorem cl_l1301 {N : Nat → Nat} (h : cl_N N) : N 1301 = 16 := h (1301, 16) (by decide)
theorem cl_l1401 {N : Nat → Nat} (h : cl_N N) : N 1401 = 16 := h (1401, 16) (by decide)
theorem cl_l1501 {N : Nat → Nat} (h : cl_N N) : N 1501 = 16 := h (1501, 16) (by decide)
theorem cl_l1601 {N : Nat → Nat} (h : cl_N N) : N 1601 = 16 := h (1601, 16) (by decide)
theorem cl_l1701 {N : Nat → Nat} (h : cl_N N) : N 1701 = 16 := h (1701, 16) (by decide)
theorem cl_o110 : cl_o 110 := by unfold cl_o; omega
theorem cl_o310 : cl_o 310 := by unfold cl_o; omega
theorem cl_o320 : cl_o 320 := by unfold cl_o; omega
theorem cl_no0 {nl : List Nat} {K : Nat → Nat} {o : Nat} (h : cl_L nl K) (ho : cl_o o) : o ∈ nl := by rcases ho with rfl | rfl | rfl <;> exact (h.1 (_, 4) (by decide)).1
theorem cl_ko0 {nl : List Nat} {K : Nat → Nat} {o : Nat} (h : cl_L nl K) (ho : cl_o o) : K (o) = 4 := by rcases ho with rfl | rfl | rfl <;> exact (h.1 (_, 4) (by decide)).2
theorem cl_no1 {nl : List Nat} {K : Nat → Nat} {o : Nat} (h : cl_L nl K) (ho : cl_o o) : o + 1 ∈ nl := by rcases ho with rfl | rfl | rfl <;> exact (h.1 (_, 21) (by decide)).1
theorem cl_ko1 {nl : List Nat} {K : Nat → Nat} {o : Nat} (h : cl_L nl K) (ho : cl_o o) : K (o + 1) = 21 := by rcases ho with rfl | rfl | rfl <;> exact (h.1 (_, 21) (by decide)).2
theorem cl_no2 {nl : List Nat} {K : Nat → Nat} {o : Nat} (h : cl_L nl K) (ho : cl_o o) : o + 2 ∈ nl := by rcases ho with rfl | rfl | rfl <;> exact (h.1 (_, 20) (by decide)).1
theorem cl_ko2 {nl : List Nat} {K : Nat → Nat} {o : Nat} (h : cl_L nl K) (ho : cl_o o) : K (o + 2) = 20 := by rcases ho with rfl | rfl | rfl <;> exact (h.1 (_, 20) (by decide)).2
theorem cl_no3 {nl : List Nat} {K : Nat → Nat} {o : Nat} (h : cl_L nl K) (ho : cl_o o) : o + 3 ∈ nl := by rcases ho with rfl | rfl | rfl <;> exact (h.1 (_, 20) (by decide)).1
theorem cl_ko3 {nl : List Nat} {K : Nat → Nat} {o : Nat} (h : cl_L nl K) (ho : cl_o o) : K (o + 3) = 20 := by rcases ho with rfl | rfl | rfl <;> exact (h.1 (_, 20) (by decide)).2
theorem cl_no4 {nl : List Nat} {K : Nat → Nat} {o : Nat} (h : cl_L nl K) (ho : cl_o o) : o + 4 ∈ nl := by rcases ho with rfl | rfl | rfl <;> exact (h.1 (_, 20) (by decide)).1
theorem cl_ko4 {nl : List Nat} {K : Nat → Nat} {o : Nat} (h : cl_L nl K) (ho : cl_o o) : K (o + 4) = 20 := by rcases ho with rfl | rfl | rfl <;> exact (h.1 (_, 20) (by decide)).2
theorem cl_no5 {nl : List Nat} {K : Nat → Nat} {o : Nat} (h : cl_L nl K) (ho : cl_o o) : o + 5 ∈ nl := by rcases ho with rfl | rfl | rfl <;> exact (h.1 (_, 20) (by decide)).1
theorem cl_ko5 {nl : List Nat} {K : Nat → Nat} {o : Nat} (h : cl_L nl K) (ho : cl_o o) : K (o + 5) = 20 := by rcases ho with rfl | rfl | rfl <;> exact (h.1 (_, 20) (by decide)).2
theorem cl_no6 {nl : List Nat} {K : Nat → Nat} {o : Nat} (h : cl_L nl K) (ho : cl_o o) : o + 6 ∈ nl := by rcases ho with rfl | rfl | rfl <;> exact (h.1 (_, 20) (by decide)).1
theorem cl_ko6 {nl : List Nat} {K : Nat → Nat} {o : Nat} (h : cl_L nl K) (ho : cl_o o) : K (o + 6) = 20 := by rcases ho with rfl | rfl | rfl <;> exact (h.1 (_, 20) (by decide)).2
theorem cl_no7 {nl : List Nat} {K : Nat → Nat} {o : Nat} (h : cl_L nl K) (ho : cl_o o) : o + 7 ∈ nl := by rcases ho with rfl | rfl | rfl <;> exact (h.1 (_, 20) (by decide)).1
theorem cl_ko7 {nl : List Nat} {K : Nat → Nat} {o : Nat} (h : cl_L nl K) (ho : cl_o o) : K (o + 7) = 20 := by rcases ho with rfl | rfl | rfl <;> exact (h.1 (_, 20) (by decide)).2
theorem cl_w8 {k : Nat} (h : k < 8) : k = 0 ∨ k = 1 ∨ k = 2 ∨ k = 3 ∨ k = 4 ∨ k = 5 ∨ k = 6 ∨ k = 7 := by omega
theorem cl_nw0 {nl : List Nat} {K : Nat → Nat} {w : Nat} (h : cl_L nl K) (hw : cl_w w) : w ∈ nl := by obtain ⟨k, hk, rfl⟩ := hw; rcases cl_w8 hk with rfl | rfl | rfl | rfl | rfl | rfl | rfl | rfl <;> exact (h.1 (_, 1) (by decide)).1
theorem cl_kw0 {nl : List Nat} {K : Nat → Nat} {w : Nat} (h : cl_L nl K) (hw : cl_w w) : K (w) = 1 := by obtain ⟨k, hk, rfl⟩ := hw; rcases cl_w8 hk with rfl | rfl | rfl | rfl | rfl | rfl | rfl | rfl <;> exact (h.1 (_, 1) (by decide)).2
theorem cl_nw1 {nl : List Nat} {K : Nat → Nat} {w : Nat} (h : cl_L nl K) (hw : cl_w w) : w + 1 ∈ nl := by obtain ⟨k, hk, rfl⟩ := hw; rcases cl_w8 hk with rfl | rfl | rfl | rfl | rfl | rfl | rfl | rfl <;> exact (h.1 (_, 24) (by decide)).1
theorem cl_kw1 {nl : List Nat} {K : Nat → Nat} {w : Nat} (h : cl_L nl K) (hw : cl_w w) : K (w + 1) = 24 := by obtain ⟨k, hk, rfl⟩ := hw; rcases cl_w8 hk with rfl | rfl | rfl | rfl | rfl | rfl | rfl | rfl <;> exact (h.1 (_, 24) (by decide)).2
theorem cl_nw2 {nl : List Nat} {K : Nat → Nat} {w : Nat} (h : cl_L nl K) (hw : cl_w w) : w + 2 ∈ nl := by obtain ⟨k, hk, rfl⟩ := hw; rcases cl_w8 hk with rfl | rfl | rfl | rfl | rfl | rfl | rfl | rfl <;> exact (h.1 (_, 21) (by decide)).1
theorem cl_kw2 {nl : List Nat} {K : Nat → Nat} {w : Nat} (h : cl_L nl K) (hw : cl_w w) : K (w + 2) = 21 := by obtain ⟨k, hk, rfl⟩ := hw; rcases cl_w8 hk with rfl | rfl | rfl | rfl | rfl | rfl | rfl | rfl <;> exact (h.1 (_, 21) (by decide)).2
theorem cl_nw3 {nl : List Nat} {K : Nat → Nat} {w : Nat} (h : cl_L nl K) (hw : cl_w w) : w + 3 ∈ nl := by obtain ⟨k, hk, rfl⟩ := hw; rcases cl_w8 hk with rfl | rfl | rfl | rfl | rfl | rfl | rfl | rfl <;> exact (h.1 (_, 20) (by decide)).1
theorem cl_kw3 {nl : List Nat} {K : Nat → Nat} {w : Nat} (h : cl_L nl K) (hw : cl_w w) : K (w + 3) = 20 := by obtain ⟨k, hk, rfl⟩ := hw; rcases cl_w8 hk with rfl | rfl | rfl | rfl | rfl | rfl | rfl | rfl <;> exact (h.1 (_, 20) (by decide)).2
theorem cl_lw1 {N : Nat → Nat} {w : Nat} (h : cl_N N) (hw : cl_w w) : N (w + 1) = 16 := by obtain ⟨k, hk, rfl⟩ := hw; rcases cl_w8 hk with rfl | rfl | rfl | rfl | rfl | rfl | rfl | rfl <;> exact h (_, 16) (by decide)
theorem cl_clamp {i : Int32} {n : Nat} (h : vp_in i n) : i.toNatClampNeg < n := Nat.not_le.mp fun q => h (Or.inr q)
theorem cl_wi {w : Nat} {i : Int32} (e : w = 1000 + 100 * i.toNatClampNeg) (h : vp_in i 8) : cl_w w := ⟨i.toNatClampNeg, cl_clamp h, e⟩
theorem cl_shp {nl : List Nat} {K : Nat → Nat} {w x : Nat} {i : Int32} (h : cl_L nl K) (hw : cl_w w) (e : x = w + 10 + i.toNatClampNeg) (hi : vp_in i 16) (hz : K x ≠ 0) : x ∈ nl ∧ cl_lf (K x) := by
  obtain ⟨k, hk, rfl⟩ := hw
  rcases h.2.2 x ⟨k, i.toNatClampNeg, hk, cl_clamp hi, e⟩ with h1 | h1
  · exact absurd h1 hz
  · exact ⟨h1.2, h1.1⟩
def nm_nz {β : Type} (k : Nat) (K : Option β) : Option β := if k = 0 then none else K
theorem nm_nzd {β : Type} {k : Nat} {K : Option β} {o : β} (hf : nm_nz k K = some o) : k ≠ 0 ∧ K = some o := by
  unfold nm_nz at hf
  split at hf
  · cases hf
  · next h => exact ⟨h, hf⟩
def nm_is (k t : Nat) : Int32 := if k = t then 1 else 0
theorem nm_is1 {k t : Nat} (h : ¬ nm_is k t = 0) : k = t := by
  unfold nm_is at h
  split at h
  · assumption
  · exact absurd rfl h
theorem tw_mmaxS : Cond.static Lib.Math.max.name ∈ nm_T := nm_tb 371 (by decide +kernel) (by decide +kernel)
theorem tw_mminS : Cond.static Lib.Math.min.name ∈ nm_T := nm_tb 374 (by decide +kernel) (by decide +kernel)
theorem tw_mathI : Cond.initialized "java/lang/Math" ∈ nm_T := nm_tb 12 (by decide +kernel) (by decide +kernel)
theorem tw_mmaxC : Cond.code Lib.Math.max.name Lib.Math.max.code 2 (some .int) ∈ nm_T := nm_tb 372 (by decide +kernel) (by decide +kernel)
theorem tw_mminC : Cond.code Lib.Math.min.name Lib.Math.min.code 2 (some .int) ∈ nm_T := nm_tb 375 (by decide +kernel) (by decide +kernel)
theorem tw_cpN : Cond.native arraycopyName ∈ nm_T := nm_tb 521 (by decide +kernel) (by decide +kernel)
theorem tw_cpS : Cond.static arraycopyName ∈ nm_T := nm_tb 520 (by decide +kernel) (by decide +kernel)
theorem tw_cpI : Cond.initialized "java/lang/System" ∈ nm_T := nm_tb 16 (by decide +kernel) (by decide +kernel)
section CLR
variable {p : Program} {l : Launch} {e : Env} {R : Room} {s : State} {m : MethodId} {args : Array Value} {below : List Frame} {meth : Method} {c : Code} {H : Heap} {locs : List Loc} {cells slots : Nat} {Q : State → Prop}
variable {cc : ByteArray} {pc : Nat} {ls : Array Slot} {rest : List Value} {A : Nat → Prop} {H0 : Heap}
variable {D : va_G} {Y : nm_Y} {X : va_W} {nl : List Nat} {ad : Nat → Nat} {C : nm_M}
theorem nm_alen (hx : p.tables.exec = Jvm.exec) (hb : c.code = cc) (hK : nm_K D Y s) (hH : nm_H D Y A H0 X nl ad C H locs) {n : Nat} (hn : n ∈ nl) (hk : C.2.2.2 n = 20 ∨ C.2.2.2 n = 21) {N : Nat} (hN : C.2.2.1 n = N) (hdg : decode cc pc = .ok (.arraylength, 1))
    (kk : W p l e R s m args below meth c H locs cells slots Q (F0 m (pc + 1) ls (.int (nI N) :: rest))) : W p l e R s m args below meth c H locs cells slots Q (F0 m pc ls (.ref (ad n) :: rest)) := by
  subst hN
  obtain ⟨q0, hq⟩ := nm_wget (X := X) (ad := ad) (E := nm_E Y ad C) hn
  rcases hk with hk | hk
  · rw [nm_E_I hk] at hq
    exact va_alen hx hb hK hH.1 q0 0 hq rfl rfl hdg kk
  · rw [nm_E_J hk] at hq
    exact va_alen hx hb hK hH.1 q0 1 hq rfl rfl hdg kk
theorem nm_mmax (hx : p.tables.exec = Jvm.exec) (hb : c.code = cc) (hml : c.maxLocals = ls.size) {own : String} {index : Nat} (hown : s.vm.findClass own = some m.cls) (hts : ∀ w ∈ nm_T, w.before args s = true) (hlk : Cond.methodLink own index Lib.Math.max.name ∈ nm_T) (hframes : 1 ≤ R.frames) (hlocals : (rest.map fun v => v.category).sum + 13 ≤ R.locals) (hc : cells ≤ R.cells) (hs : slots ≤ R.slots) {x y : Int32} (hdg : decode cc pc = .ok (.invokestatic index, 3))
    (kk : W p l e R s m args below meth c H locs cells slots Q (F0 m (pc + 3) ls (.int (nm_max x y) :: rest))) : W p l e R s m args below meth c H locs cells slots Q (F0 m pc ls (.int y :: .int x :: rest)) :=
  va_mmax hx hb hml hown (hts _ hlk) (hts _ tw_mmaxS) (hts _ tw_mathI) (hts _ tw_mmaxC) hframes hlocals hc hs hdg kk
theorem nm_mmin (hx : p.tables.exec = Jvm.exec) (hb : c.code = cc) (hml : c.maxLocals = ls.size) {own : String} {index : Nat} (hown : s.vm.findClass own = some m.cls) (hts : ∀ w ∈ nm_T, w.before args s = true) (hlk : Cond.methodLink own index Lib.Math.min.name ∈ nm_T) (hframes : 1 ≤ R.frames) (hlocals : (rest.map fun v => v.category).sum + 13 ≤ R.locals) (hc : cells ≤ R.cells) (hs : slots ≤ R.slots) {x y : Int32} (hdg : decode cc pc = .ok (.invokestatic index, 3))
    (kk : W p l e R s m args below meth c H locs cells slots Q (F0 m (pc + 3) ls (.int (nm_min x y) :: rest))) : W p l e R s m args below meth c H locs cells slots Q (F0 m pc ls (.int y :: .int x :: rest)) :=
  va_mmin hx hb hml hown (hts _ hlk) (hts _ tw_mminS) (hts _ tw_mathI) (hts _ tw_mminC) hframes hlocals hc hs hdg kk
theorem nm_copyJ (hx : p.tables.exec = Jvm.exec) (hb : c.code = cc) (hml : c.maxLocals = ls.size) {own : String} {index : Nat} (hown : s.vm.findClass own = some m.cls) (hts : ∀ w ∈ nm_T, w.before args s = true) (hlk : Cond.methodLink own index arraycopyName ∈ nm_T) (hK : nm_K D Y s) (hH : nm_H D Y A H0 X nl ad C H locs) {n0 n1 : Nat} (hn0 : n0 ∈ nl) (hk0 : C.2.2.2 n0 = 21) (hn1 : n1 ∈ nl) (hk1 : C.2.2.2 n1 = 21) {N0 N1 : Nat} (hN0 : C.2.2.1 n0 = N0) (hN1 : C.2.2.1 n1 = N1)
    {sp dp n : Int32} (hc : (0 ≤ sp.toInt ∧ 0 ≤ dp.toInt ∧ 0 ≤ n.toInt) ∧ sp.toInt + n.toInt ≤ N0 ∧ dp.toInt + n.toInt ≤ N1) (hframes : 1 ≤ R.frames) (hlocals : (rest.map fun v => v.category).sum + (nativeFrameWords "java/lang/System" "arraycopy" 5 + 11) ≤ R.locals) (hdg : decode cc pc = .ok (.invokestatic index, 3))
    (kk : ∀ (H : Heap) (locs : List Loc), nm_H D Y A H0 X nl ad (nm_aJ C n1 (va_cpy (C.2.1 n0) (C.2.1 n1) sp.toNatClampNeg dp.toNatClampNeg n.toNatClampNeg)) H locs → W p l e R s m args below meth c H locs cells slots Q (F0 m (pc + 3) ls rest)) : W p l e R s m args below meth c H locs cells slots Q (F0 m pc ls (.int n :: .int dp :: .ref (ad n1) :: .int sp :: .ref (ad n0) :: rest)) := by
  subst hN0
  subst hN1
  obtain ⟨⟨h1, h2, h3⟩, h4, h5⟩ := hc
  have cl : ∀ z : Int32, 0 ≤ z.toInt → ¬ z < 0 ∧ (z.toNatClampNeg : Int) = z.toInt := by
    intro z hz
    refine ⟨fun h => ?_, ?_⟩
    · have := Int32.lt_iff_toInt_lt.mp h
      simp at this
      omega
    · show ((z.toInt.toNat : Nat) : Int) = z.toInt
      omega
  obtain ⟨q0, hq0⟩ := nm_wget (X := X) (ad := ad) (E := nm_E Y ad C) hn0
  obtain ⟨q1, hq1⟩ := nm_wget (X := X) (ad := ad) (E := nm_E Y ad C) hn1
  have hq2 := hq1
  rw [nm_E_J hk0] at hq0
  rw [nm_E_J hk1] at hq1
  have e1 := cl sp h1
  have e2 := cl dp h2
  have e3 := cl n h3
  refine va_copyl hx hb hml hown (hts _ hlk) (hts _ tw_cpN) (hts _ tw_cpS) (hts _ tw_cpI) hK hH.1 hH.2.1 hH.2.2 q0 q1 1 1 hq0 hq1 rfl rfl rfl e1.1 e2.1 e3.1 (by omega) (by omega) (fun _ _ => rfl) hframes hlocals hdg (fun H1 locs1 hP1 hD1 hS1 => kk H1 locs1 ?_)
  refine nm_step hH hn1 hq2 rfl (fun n' h => ⟨rfl, va_up_ne _ _ h⟩) ?_ hP1 hD1 hS1
  rw [nm_E_J (C := nm_aJ C n1 _) hk1]
  simp [nm_aJ, va_up]
theorem nm_copyI (hx : p.tables.exec = Jvm.exec) (hb : c.code = cc) (hml : c.maxLocals = ls.size) {own : String} {index : Nat} (hown : s.vm.findClass own = some m.cls) (hts : ∀ w ∈ nm_T, w.before args s = true) (hlk : Cond.methodLink own index arraycopyName ∈ nm_T) (hK : nm_K D Y s) (hH : nm_H D Y A H0 X nl ad C H locs) {n0 n1 : Nat} (hn0 : n0 ∈ nl) (hk0 : C.2.2.2 n0 = 20) (hn1 : n1 ∈ nl) (hk1 : C.2.2.2 n1 = 20) {N0 N1 : Nat} (hN0 : C.2.2.1 n0 = N0) (hN1 : C.2.2.1 n1 = N1)
    {sp dp n : Int32} (hc : (0 ≤ sp.toInt ∧ 0 ≤ dp.toInt ∧ 0 ≤ n.toInt) ∧ sp.toInt + n.toInt ≤ N0 ∧ dp.toInt + n.toInt ≤ N1) (hframes : 1 ≤ R.frames) (hlocals : (rest.map fun v => v.category).sum + (nativeFrameWords "java/lang/System" "arraycopy" 5 + 11) ≤ R.locals) (hdg : decode cc pc = .ok (.invokestatic index, 3))
    (kk : ∀ (H : Heap) (locs : List Loc), nm_H D Y A H0 X nl ad (nm_aI C n1 (va_cpy (C.1 n0) (C.1 n1) sp.toNatClampNeg dp.toNatClampNeg n.toNatClampNeg)) H locs → W p l e R s m args below meth c H locs cells slots Q (F0 m (pc + 3) ls rest)) : W p l e R s m args below meth c H locs cells slots Q (F0 m pc ls (.int n :: .int dp :: .ref (ad n1) :: .int sp :: .ref (ad n0) :: rest)) := by
  subst hN0
  subst hN1
  obtain ⟨⟨h1, h2, h3⟩, h4, h5⟩ := hc
  have cl : ∀ z : Int32, 0 ≤ z.toInt → ¬ z < 0 ∧ (z.toNatClampNeg : Int) = z.toInt := by
    intro z hz
    refine ⟨fun h => ?_, ?_⟩
    · have := Int32.lt_iff_toInt_lt.mp h
      simp at this
      omega
    · show ((z.toInt.toNat : Nat) : Int) = z.toInt
      omega
  obtain ⟨q0, hq0⟩ := nm_wget (X := X) (ad := ad) (E := nm_E Y ad C) hn0
  obtain ⟨q1, hq1⟩ := nm_wget (X := X) (ad := ad) (E := nm_E Y ad C) hn1
  have hq2 := hq1
  rw [nm_E_I hk0] at hq0
  rw [nm_E_I hk1] at hq1
  have e1 := cl sp h1
  have e2 := cl dp h2
  have e3 := cl n h3
  refine va_copyi hx hb hml hown (hts _ hlk) (hts _ tw_cpN) (hts _ tw_cpS) (hts _ tw_cpI) hK hH.1 hH.2.1 hH.2.2 q0 q1 0 0 hq0 hq1 rfl rfl rfl e1.1 e2.1 e3.1 (by omega) (by omega) (fun _ _ => rfl) hframes hlocals hdg (fun H1 locs1 hP1 hD1 hS1 => kk H1 locs1 ?_)
  refine nm_step hH hn1 hq2 rfl (fun n' h => ⟨va_up_ne _ _ h, rfl⟩) ?_ hP1 hD1 hS1
  rw [nm_E_I (C := nm_aI C n1 _) hk1]
  simp [nm_aI, va_up]
theorem nm_cald (hx : p.tables.exec = Jvm.exec) (hb : c.code = cc) (hK : nm_K D Y s) (hH : nm_H D Y A H0 X nl ad C H locs) (hn : 1 ∈ nl) (hk : C.2.2.2 1 = 23) (hN : C.2.2.1 1 = 8) {i : Int32} (hin : vp_in i 8) {w : Nat} (hw : w = 1000 + 100 * i.toNatClampNeg) (hdg : decode cc pc = .ok (.aaload, 1))
    (kk : W p l e R s m args below meth c H locs cells slots Q (F0 m (pc + 1) ls (.ref (ad w) :: rest))) : W p l e R s m args below meth c H locs cells slots Q (F0 m pc ls (.int i :: .ref (ad 1) :: rest)) := by
  subst hw
  obtain ⟨q0, hq⟩ := nm_wget (X := X) (ad := ad) (E := nm_E Y ad C) hn
  rw [nm_E_C hk, hN] at hq
  refine va_aldq hx hb hK hH.1 q0 3 hq rfl hin hdg ?_
  rw [if_pos (cl_clamp hin)]
  exact kk
theorem nm_sald (hx : p.tables.exec = Jvm.exec) (hb : c.code = cc) (hK : nm_K D Y s) (hH : nm_H D Y A H0 X nl ad C H locs) {w : Nat} (hn : w + 1 ∈ nl) (hk : C.2.2.2 (w + 1) = 24) (hN : C.2.2.1 (w + 1) = 16) {i : Int32} (hin : vp_in i 16) {x : Nat} (hx0 : x = w + 10 + i.toNatClampNeg) (hz : C.2.2.2 x ≠ 0) (hdg : decode cc pc = .ok (.aaload, 1))
    (kk : W p l e R s m args below meth c H locs cells slots Q (F0 m (pc + 1) ls (.ref (ad x) :: rest))) : W p l e R s m args below meth c H locs cells slots Q (F0 m pc ls (.int i :: .ref (ad (w + 1)) :: rest)) := by
  have e1 : w + 1 + 9 + i.toNatClampNeg = x := by omega
  obtain ⟨q0, hq⟩ := nm_wget (X := X) (ad := ad) (E := nm_E Y ad C) hn
  rw [nm_E_S hk, hN] at hq
  refine va_aldq hx hb hK hH.1 q0 4 hq rfl hin hdg ?_
  rw [e1, if_pos ⟨cl_clamp hin, hz⟩]
  exact kk
theorem nm_recv (hK : nm_K D Y s) (hH : nm_H D Y A H0 X nl ad C H locs) {n ci : Nat} (hn : n ∈ nl) (hk : C.2.2.2 n = ci + 1) (hc9 : ci < 19) {q : vw_C} (hc : vwCl[ci]? = some q) : ∃ cell : Cell, H[ad n]? = some cell ∧ cell.vm.isStatics = false ∧ s.vm.findClass q.1 = some cell.cls := by
  obtain ⟨q0, hq⟩ := nm_wget (X := X) (ad := ad) (E := nm_E Y ad C) hn
  rw [nm_E_obj hk hc9] at hq
  exact va_recv hK hH.1 hc hq
theorem nm_cast5 (hx : p.tables.exec = Jvm.exec) (hb : c.code = cc) (hK : nm_K D Y s) {own : String} {index : Nat} (hown : s.vm.findClass own = some m.cls) (hH : nm_H D Y A H0 X nl ad C H locs) {n : Nat} (hn : n ∈ nl) (hk : C.2.2.2 n = 5) (hlink : (Cond.classLink own index "RulePlate$Label").before args s = true) (hdg : decode cc pc = .ok (.checkcast index, 3))
    (kk : W p l e R s m args below meth c H locs cells slots Q (F0 m (pc + 3) ls (.ref (ad n) :: rest))) : W p l e R s m args below meth c H locs cells slots Q (F0 m pc ls (.ref (ad n) :: rest)) :=
  va_castS hx hb hown hlink (hK.1 4 _ rfl).2 (nm_recv hK hH hn (ci := 4) hk (by decide) rfl) hdg kk
theorem nm_inst5 (hx : p.tables.exec = Jvm.exec) (hb : c.code = cc) (hK : nm_K D Y s) (hZ : nm_Z s) {own : String} {index : Nat} (hown : s.vm.findClass own = some m.cls) (hH : nm_H D Y A H0 X nl ad C H locs) {n : Nat} (hs : n ∈ nl ∧ cl_lf (C.2.2.2 n)) (hlink : (Cond.classLink own index "RulePlate$Label").before args s = true) (hdg : decode cc pc = .ok (.instanceof index, 3))
    (kk : W p l e R s m args below meth c H locs cells slots Q (F0 m (pc + 3) ls (.int (nm_is (C.2.2.2 n) 5) :: rest))) : W p l e R s m args below meth c H locs cells slots Q (F0 m pc ls (.ref (ad n) :: rest)) := by
  obtain ⟨hn, hk⟩ := hs
  rcases hk with hk | hk | hk
  · rw [hk] at kk
    exact va_instS hx hb hown hlink (hK.1 4 _ rfl).2 (nm_recv hK hH hn (ci := 4) hk (by decide) rfl) hdg kk
  · rw [hk] at kk
    exact va_instNo (C := "RulePlate$Patch") hx hb hown hlink hZ.2.2.2.1 (nm_recv hK hH hn (ci := 5) hk (by decide) rfl) hdg kk
  · rw [hk] at kk
    exact va_instNo (C := "RulePlate$Put") hx hb hown hlink hZ.2.2.2.2.2.2.2.2 (nm_recv hK hH hn (ci := 6) hk (by decide) rfl) hdg kk
theorem nm_cast6 (hx : p.tables.exec = Jvm.exec) (hb : c.code = cc) (hK : nm_K D Y s) {own : String} {index : Nat} (hown : s.vm.findClass own = some m.cls) (hH : nm_H D Y A H0 X nl ad C H locs) {n : Nat} (hn : n ∈ nl) (hk : C.2.2.2 n = 6) (hlink : (Cond.classLink own index "RulePlate$Patch").before args s = true) (hdg : decode cc pc = .ok (.checkcast index, 3))
    (kk : W p l e R s m args below meth c H locs cells slots Q (F0 m (pc + 3) ls (.ref (ad n) :: rest))) : W p l e R s m args below meth c H locs cells slots Q (F0 m pc ls (.ref (ad n) :: rest)) :=
  va_castS hx hb hown hlink (hK.1 5 _ rfl).2 (nm_recv hK hH hn (ci := 5) hk (by decide) rfl) hdg kk
theorem nm_inst6 (hx : p.tables.exec = Jvm.exec) (hb : c.code = cc) (hK : nm_K D Y s) (hZ : nm_Z s) {own : String} {index : Nat} (hown : s.vm.findClass own = some m.cls) (hH : nm_H D Y A H0 X nl ad C H locs) {n : Nat} (hs : n ∈ nl ∧ cl_lf (C.2.2.2 n)) (hlink : (Cond.classLink own index "RulePlate$Patch").before args s = true) (hdg : decode cc pc = .ok (.instanceof index, 3))
    (kk : W p l e R s m args below meth c H locs cells slots Q (F0 m (pc + 3) ls (.int (nm_is (C.2.2.2 n) 6) :: rest))) : W p l e R s m args below meth c H locs cells slots Q (F0 m pc ls (.ref (ad n) :: rest)) := by
  obtain ⟨hn, hk⟩ := hs
  rcases hk with hk | hk | hk
  · rw [hk] at kk
    exact va_instNo (C := "RulePlate$Label") hx hb hown hlink hZ.2.2.2.2.2.1 (nm_recv hK hH hn (ci := 4) hk (by decide) rfl) hdg kk
  · rw [hk] at kk
    exact va_instS hx hb hown hlink (hK.1 5 _ rfl).2 (nm_recv hK hH hn (ci := 5) hk (by decide) rfl) hdg kk
  · rw [hk] at kk
    exact va_instNo (C := "RulePlate$Put") hx hb hown hlink hZ.2.2.2.2.2.2.2.1 (nm_recv hK hH hn (ci := 6) hk (by decide) rfl) hdg kk
theorem nm_cast7 (hx : p.tables.exec = Jvm.exec) (hb : c.code = cc) (hK : nm_K D Y s) {own : String} {index : Nat} (hown : s.vm.findClass own = some m.cls) (hH : nm_H D Y A H0 X nl ad C H locs) {n : Nat} (hn : n ∈ nl) (hk : C.2.2.2 n = 7) (hlink : (Cond.classLink own index "RulePlate$Put").before args s = true) (hdg : decode cc pc = .ok (.checkcast index, 3))
    (kk : W p l e R s m args below meth c H locs cells slots Q (F0 m (pc + 3) ls (.ref (ad n) :: rest))) : W p l e R s m args below meth c H locs cells slots Q (F0 m pc ls (.ref (ad n) :: rest)) :=
  va_castS hx hb hown hlink (hK.1 6 _ rfl).2 (nm_recv hK hH hn (ci := 6) hk (by decide) rfl) hdg kk
theorem nm_inst7 (hx : p.tables.exec = Jvm.exec) (hb : c.code = cc) (hK : nm_K D Y s) (hZ : nm_Z s) {own : String} {index : Nat} (hown : s.vm.findClass own = some m.cls) (hH : nm_H D Y A H0 X nl ad C H locs) {n : Nat} (hs : n ∈ nl ∧ cl_lf (C.2.2.2 n)) (hlink : (Cond.classLink own index "RulePlate$Put").before args s = true) (hdg : decode cc pc = .ok (.instanceof index, 3))
    (kk : W p l e R s m args below meth c H locs cells slots Q (F0 m (pc + 3) ls (.int (nm_is (C.2.2.2 n) 7) :: rest))) : W p l e R s m args below meth c H locs cells slots Q (F0 m pc ls (.ref (ad n) :: rest)) := by
  obtain ⟨hn, hk⟩ := hs
  rcases hk with hk | hk | hk
  · rw [hk] at kk
    exact va_instNo (C := "RulePlate$Label") hx hb hown hlink hZ.2.2.2.2.2.2.1 (nm_recv hK hH hn (ci := 4) hk (by decide) rfl) hdg kk
  · rw [hk] at kk
    exact va_instNo (C := "RulePlate$Patch") hx hb hown hlink hZ.2.2.2.2.1 (nm_recv hK hH hn (ci := 5) hk (by decide) rfl) hdg kk
  · rw [hk] at kk
    exact va_instS hx hb hown hlink (hK.1 6 _ rfl).2 (nm_recv hK hH hn (ci := 6) hk (by decide) rfl) hdg kk
theorem gfS_0 (hK : nm_K D Y s) (hx : p.tables.exec = Jvm.exec) (hb : c.code = cc) {own : String} {index : Nat} (hts : ∀ w ∈ nm_T, w.before args s = true) (hown : s.vm.findClass own = some m.cls) (hH : nm_H D Y A H0 X nl ad C H locs) {n : Nat} (hs : n ∈ nl ∧ cl_lf (C.2.2.2 n)) (hlink : (Cond.fieldLink own index "RulePlate$Shape" "kind" "I").before args s = true) (hdg : decode cc pc = .ok (.getfield index, 3)) (kk : W p l e R s m args below meth c H locs cells slots Q (F0 m (pc + 3) ls (.int (C.1 n 0) :: rest))) : W p l e R s m args below meth c H locs cells slots Q (F0 m pc ls (.ref (ad n) :: rest)) := by
  obtain ⟨hn, hk⟩ := hs
  rcases hk with hk | hk | hk
  · exact gf_5_0 hK hx hb hts hown hH hn hk hlink (fun _ h9 => h9) hdg kk
  · exact gf_6_0 hK hx hb hts hown hH hn hk hlink (fun _ h9 => h9) hdg kk
  · exact gf_7_0 hK hx hb hts hown hH hn hk hlink (fun _ h9 => h9) hdg kk
theorem gfS_1 (hK : nm_K D Y s) (hx : p.tables.exec = Jvm.exec) (hb : c.code = cc) {own : String} {index : Nat} (hts : ∀ w ∈ nm_T, w.before args s = true) (hown : s.vm.findClass own = some m.cls) (hH : nm_H D Y A H0 X nl ad C H locs) {n : Nat} (hs : n ∈ nl ∧ cl_lf (C.2.2.2 n)) (hlink : (Cond.fieldLink own index "RulePlate$Shape" "layer" "I").before args s = true) (hdg : decode cc pc = .ok (.getfield index, 3)) (kk : W p l e R s m args below meth c H locs cells slots Q (F0 m (pc + 3) ls (.int (C.1 n 1) :: rest))) : W p l e R s m args below meth c H locs cells slots Q (F0 m pc ls (.ref (ad n) :: rest)) := by
  obtain ⟨hn, hk⟩ := hs
  rcases hk with hk | hk | hk
  · exact gf_5_1 hK hx hb hts hown hH hn hk hlink (fun _ h9 => h9) hdg kk
  · exact gf_6_1 hK hx hb hts hown hH hn hk hlink (fun _ h9 => h9) hdg kk
  · exact gf_7_1 hK hx hb hts hown hH hn hk hlink (fun _ h9 => h9) hdg kk
theorem gfS_2 (hK : nm_K D Y s) (hx : p.tables.exec = Jvm.exec) (hb : c.code = cc) {own : String} {index : Nat} (hts : ∀ w ∈ nm_T, w.before args s = true) (hown : s.vm.findClass own = some m.cls) (hH : nm_H D Y A H0 X nl ad C H locs) {n : Nat} (hs : n ∈ nl ∧ cl_lf (C.2.2.2 n)) (hlink : (Cond.fieldLink own index "RulePlate$Shape" "square" "I").before args s = true) (hdg : decode cc pc = .ok (.getfield index, 3)) (kk : W p l e R s m args below meth c H locs cells slots Q (F0 m (pc + 3) ls (.int (C.1 n 2) :: rest))) : W p l e R s m args below meth c H locs cells slots Q (F0 m pc ls (.ref (ad n) :: rest)) := by
  obtain ⟨hn, hk⟩ := hs
  rcases hk with hk | hk | hk
  · exact gf_5_2 hK hx hb hts hown hH hn hk hlink (fun _ h9 => h9) hdg kk
  · exact gf_6_2 hK hx hb hts hown hH hn hk hlink (fun _ h9 => h9) hdg kk
  · exact gf_7_2 hK hx hb hts hown hH hn hk hlink (fun _ h9 => h9) hdg kk
end CLR
/-- the places of a copy, looked at ahead of it -/
def nm_cp {β : Type} (sp dp n : Int32) (N0 N1 : Nat) (K : Option β) : Option β := if (0 ≤ sp.toInt ∧ 0 ≤ dp.toInt ∧ 0 ≤ n.toInt) ∧ sp.toInt + n.toInt ≤ N0 ∧ dp.toInt + n.toInt ≤ N1 then K else none
theorem nm_cpk {β : Type} {sp dp n : Int32} {N0 N1 : Nat} {K : Option β} {o : β} (hf : nm_cp sp dp n N0 N1 K = some o) : ((0 ≤ sp.toInt ∧ 0 ≤ dp.toInt ∧ 0 ≤ n.toInt) ∧ sp.toInt + n.toInt ≤ N0 ∧ dp.toInt + n.toInt ≤ N1) ∧ K = some o := by
  unfold nm_cp at hf
  split at hf
  · next h => exact ⟨h, hf⟩
  · cases hf

theorem hd_J13_bitCount_95d88 : nm_hd yJ13_bitCount_95d88 1 := by decide +kernel
theorem hd_J7_fill_d0a16 : nm_hd yJ7_fill_d0a16 2 := by decide +kernel
theorem hd_J7_fill_53178 : nm_hd yJ7_fill_53178 2 := by decide +kernel
theorem hd_X0_span : nm_hd yX0_span 2 := by decide +kernel
theorem hd_X0_heads : nm_hd yX0_heads 1 := by decide +kernel
theorem hd_X0_lowest : nm_hd yX0_lowest 1 := by decide +kernel
theorem hd_X0_stretch : nm_hd yX0_stretch 2 := by decide +kernel
theorem hd_X0_moved : nm_hd yX0_moved 2 := by decide +kernel
theorem hd_X0_gaps : nm_hd yX0_gaps 1 := by decide +kernel
theorem hd_X0_reversed : nm_hd yX0_reversed 1 := by decide +kernel
theorem hd_X0_transpose : nm_hd yX0_transpose 1 := by decide +kernel
theorem hd_X0_spread : nm_hd yX0_spread 6 := by decide +kernel
theorem hd_X4_stretchAt : nm_hd yX4_stretchAt 2 := by decide +kernel
theorem sw_X4_stretchAt : Cond.selects yX4_stretchAt.cls yX4_stretchAt yX4_stretchAt ∈ nm_T := nm_sel 11 (by decide +kernel) (by decide +kernel)
theorem hd_X4_root : nm_hd yX4_root 1 := by decide +kernel
theorem sw_X4_root : Cond.selects yX4_root.cls yX4_root yX4_root ∈ nm_T := nm_sel 12 (by decide +kernel) (by decide +kernel)
theorem hd_X4_unite : nm_hd yX4_unite 3 := by decide +kernel
theorem sw_X4_unite : Cond.selects yX4_unite.cls yX4_unite yX4_unite ∈ nm_T := nm_tb 621 (by decide +kernel) (by decide +kernel)
theorem hd_X4_number : nm_hd yX4_number 0 := by decide +kernel
theorem sw_X4_number : Cond.selects yX4_number.cls yX4_number yX4_number ∈ nm_T := nm_tb 640 (by decide +kernel) (by decide +kernel)
theorem hd_X4_measureStretch : nm_hd yX4_measureStretch 3 := by decide +kernel
theorem sw_X4_measureStretch : Cond.selects yX4_measureStretch.cls yX4_measureStretch yX4_measureStretch ∈ nm_T := nm_sel 14 (by decide +kernel) (by decide +kernel)
theorem hd_X4_groupAt : nm_hd yX4_groupAt 2 := by decide +kernel
theorem sw_X4_groupAt : Cond.selects yX4_groupAt.cls yX4_groupAt yX4_groupAt ∈ nm_T := nm_tb 817 (by decide +kernel) (by decide +kernel)
theorem hd_X4_touchedIn : nm_hd yX4_touchedIn 1 := by decide +kernel
theorem sw_X4_touchedIn : Cond.selects yX4_touchedIn.cls yX4_touchedIn yX4_touchedIn ∈ nm_T := nm_tb 661 (by decide +kernel) (by decide +kernel)
theorem hd_X5_pack : nm_hd yX5_pack 3 := by decide +kernel
theorem hd_X5_layerOf : nm_hd yX5_layerOf 1 := by decide +kernel
theorem hd_X5_squareOf : nm_hd yX5_squareOf 1 := by decide +kernel
theorem hd_X5_nameOf : nm_hd yX5_nameOf 1 := by decide +kernel
theorem hd_X7_canBeTold : nm_hd yX7_canBeTold 1 := by decide +kernel
theorem hd_X7_xOf : nm_hd yX7_xOf 1 := by decide +kernel
theorem sw_X7_xOf : Cond.selects yX7_xOf.cls yX7_xOf yX7_xOf ∈ nm_T := nm_tb 556 (by decide +kernel) (by decide +kernel)
theorem hd_X7_yOf : nm_hd yX7_yOf 1 := by decide +kernel
theorem sw_X7_yOf : Cond.selects yX7_yOf.cls yX7_yOf yX7_yOf ∈ nm_T := nm_tb 560 (by decide +kernel) (by decide +kernel)
theorem hd_X7_repeat : nm_hd yX7_repeat 2 := by decide +kernel
theorem sw_X7_repeat : Cond.selects yX7_repeat.cls yX7_repeat yX7_repeat ∈ nm_T := nm_tb 462 (by decide +kernel) (by decide +kernel)
theorem hd_X7_reverseRows : nm_hd yX7_reverseRows 1 := by decide +kernel
theorem hd_X7_turn : nm_hd yX7_turn 1 := by decide +kernel
theorem sw_X7_turn : Cond.selects yX7_turn.cls yX7_turn yX7_turn ∈ nm_T := nm_tb 524 (by decide +kernel) (by decide +kernel)
theorem hd_X7_turnedX : nm_hd yX7_turnedX 2 := by decide +kernel
theorem sw_X7_turnedX : Cond.selects yX7_turnedX.cls yX7_turnedX yX7_turnedX ∈ nm_T := nm_tb 547 (by decide +kernel) (by decide +kernel)
theorem hd_X7_turnedY : nm_hd yX7_turnedY 2 := by decide +kernel
theorem sw_X7_turnedY : Cond.selects yX7_turnedY.cls yX7_turnedY yX7_turnedY ∈ nm_T := nm_tb 552 (by decide +kernel) (by decide +kernel)
theorem hd_X6_mark : nm_hd yX6_mark 1 := by decide +kernel
theorem sw_X6_mark : Cond.selects yX6_mark.cls yX6_mark yX6_mark ∈ nm_T := nm_tb 503 (by decide +kernel) (by decide +kernel)
theorem hd_X8_greatest : nm_hd yX8_greatest 1 := by decide +kernel
theorem hd_X8_add : nm_hd yX8_add 4 := by decide +kernel
theorem sw_X8_add : Cond.selects yX8_add.cls yX8_add yX8_add ∈ nm_T := nm_tb 699 (by decide +kernel) (by decide +kernel)
theorem hd_X8_note : nm_hd yX8_note 4 := by decide +kernel
theorem sw_X8_note : Cond.selects yX8_note.cls yX8_note yX8_note ∈ nm_T := nm_sel 16 (by decide +kernel) (by decide +kernel)
theorem hd_X8_holdMap : nm_hd yX8_holdMap 3 := by decide +kernel
theorem sw_X8_holdMap : Cond.selects yX8_holdMap.cls yX8_holdMap yX8_holdMap ∈ nm_T := nm_sel 20 (by decide +kernel) (by decide +kernel)
theorem hd_X8_holdLines : nm_hd yX8_holdLines 2 := by decide +kernel
theorem sw_X8_holdLines : Cond.selects yX8_holdLines.cls yX8_holdLines yX8_holdLines ∈ nm_T := nm_sel 19 (by decide +kernel) (by decide +kernel)
theorem hd_X8_leastLacking : nm_hd yX8_leastLacking 4 := by decide +kernel
theorem hd_X8_holdInside : nm_hd yX8_holdInside 2 := by decide +kernel
theorem sw_X8_holdInside : Cond.selects yX8_holdInside.cls yX8_holdInside yX8_holdInside ∈ nm_T := nm_sel 15 (by decide +kernel) (by decide +kernel)
theorem hd_X8_holdArea : nm_hd yX8_holdArea 2 := by decide +kernel
theorem sw_X8_holdArea : Cond.selects yX8_holdArea.cls yX8_holdArea yX8_holdArea ∈ nm_T := nm_sel 17 (by decide +kernel) (by decide +kernel)
theorem hd_X8_holdShare : nm_hd yX8_holdShare 2 := by decide +kernel
theorem sw_X8_holdShare : Cond.selects yX8_holdShare.cls yX8_holdShare yX8_holdShare ∈ nm_T := nm_sel 18 (by decide +kernel) (by decide +kernel)
theorem hd_X2_addJoint : nm_hd yX2_addJoint 3 := by decide +kernel
theorem sw_X2_addJoint : Cond.selects yX2_addJoint.cls yX2_addJoint yX2_addJoint ∈ nm_T := nm_tb 771 (by decide +kernel) (by decide +kernel)
theorem hd_X2_tellGates : nm_hd yX2_tellGates 3 := by decide +kernel
theorem sw_X2_tellGates : Cond.selects yX2_tellGates.cls yX2_tellGates yX2_tellGates ∈ nm_T := nm_tb 779 (by decide +kernel) (by decide +kernel)
theorem hd_X2_lacksConductor : nm_hd yX2_lacksConductor 0 := by decide +kernel
theorem sw_X2_lacksConductor : Cond.selects yX2_lacksConductor.cls yX2_lacksConductor yX2_lacksConductor ∈ nm_T := nm_tb 787 (by decide +kernel) (by decide +kernel)
theorem hd_X2_join : nm_hd yX2_join 4 := by decide +kernel
theorem sw_X2_join : Cond.selects yX2_join.cls yX2_join yX2_join ∈ nm_T := nm_sel 21 (by decide +kernel) (by decide +kernel)
theorem hd_X2_addEnd : nm_hd yX2_addEnd 2 := by decide +kernel
theorem sw_X2_addEnd : Cond.selects yX2_addEnd.cls yX2_addEnd yX2_addEnd ∈ nm_T := nm_sel 24 (by decide +kernel) (by decide +kernel)
theorem hd_X11_outside : nm_hd yX11_outside 2 := by decide +kernel
theorem hd_X2_meet : nm_hd yX2_meet 3 := by decide +kernel
theorem sw_X2_meet : Cond.selects yX2_meet.cls yX2_meet yX2_meet ∈ nm_T := nm_sel 23 (by decide +kernel) (by decide +kernel)
theorem hd_X2_findEnds : nm_hd yX2_findEnds 1 := by decide +kernel
theorem sw_X2_findEnds : Cond.selects yX2_findEnds.cls yX2_findEnds yX2_findEnds ∈ nm_T := nm_sel 22 (by decide +kernel) (by decide +kernel)
theorem hd_X2_conducted : nm_hd yX2_conducted 1 := by decide +kernel
theorem sw_X2_conducted : Cond.selects yX2_conducted.cls yX2_conducted yX2_conducted ∈ nm_T := nm_tb 843 (by decide +kernel) (by decide +kernel)
theorem hd_X2_netAt : nm_hd yX2_netAt 2 := by decide +kernel
theorem sw_X2_netAt : Cond.selects yX2_netAt.cls yX2_netAt yX2_netAt ∈ nm_T := nm_tb 813 (by decide +kernel) (by decide +kernel)
theorem hd_X2_nameOf : nm_hd yX2_nameOf 3 := by decide +kernel
theorem sw_X2_nameOf : Cond.selects yX2_nameOf.cls yX2_nameOf yX2_nameOf ∈ nm_T := nm_tb 852 (by decide +kernel) (by decide +kernel)
theorem hd_X2_ofDevice : nm_hd yX2_ofDevice 2 := by decide +kernel
theorem sw_X2_ofDevice : Cond.selects yX2_ofDevice.cls yX2_ofDevice yX2_ofDevice ∈ nm_T := nm_tb 863 (by decide +kernel) (by decide +kernel)
theorem hd_X2_isWhole : nm_hd yX2_isWhole 1 := by decide +kernel
theorem sw_X2_isWhole : Cond.selects yX2_isWhole.cls yX2_isWhole yX2_isWhole ∈ nm_T := nm_tb 888 (by decide +kernel) (by decide +kernel)
theorem hd_X3_tell : nm_hd yX3_tell 4 := by decide +kernel
theorem sw_X3_tell : Cond.selects yX3_tell.cls yX3_tell yX3_tell ∈ nm_T := nm_tb 478 (by decide +kernel) (by decide +kernel)
theorem hd_X3_mixed : nm_hd yX3_mixed 3 := by decide +kernel
theorem hd_X3_squaresOf : nm_hd yX3_squaresOf 1 := by decide +kernel
theorem sw_X3_squaresOf : Cond.selects yX3_squaresOf.cls yX3_squaresOf yX3_squaresOf ∈ nm_T := nm_tb 670 (by decide +kernel) (by decide +kernel)
theorem hd_X10_add : nm_hd yX10_add 2 := by decide +kernel
theorem sw_X10_add : Cond.selects yX10_add.cls yX10_add yX10_add ∈ nm_T := nm_tb 871 (by decide +kernel) (by decide +kernel)
theorem hd_X10_wishedOf : nm_hd yX10_wishedOf 1 := by decide +kernel
theorem sw_X10_wishedOf : Cond.selects yX10_wishedOf.cls yX10_wishedOf yX10_wishedOf ∈ nm_T := nm_tb 905 (by decide +kernel) (by decide +kernel)
theorem hd_X10_part : nm_hd yX10_part 1 := by decide +kernel
theorem sw_X10_part : Cond.selects yX10_part.cls yX10_part yX10_part ∈ nm_T := nm_sel 28 (by decide +kernel) (by decide +kernel)
theorem hd_X10_bind : nm_hd yX10_bind 3 := by decide +kernel
theorem sw_X10_bind : Cond.selects yX10_bind.cls yX10_bind yX10_bind ∈ nm_T := nm_sel 27 (by decide +kernel) (by decide +kernel)
theorem hd_X10_fit : nm_hd yX10_fit 4 := by decide +kernel
theorem sw_X10_fit : Cond.selects yX10_fit.cls yX10_fit yX10_fit ∈ nm_T := nm_sel 26 (by decide +kernel) (by decide +kernel)
theorem hd_X10_thingOf : nm_hd yX10_thingOf 1 := by decide +kernel
theorem sw_X10_thingOf : Cond.selects yX10_thingOf.cls yX10_thingOf yX10_thingOf ∈ nm_T := nm_tb 922 (by decide +kernel) (by decide +kernel)
theorem hd_X1_addText : nm_hd yX1_addText 1 := by decide +kernel
theorem sw_X1_addText : Cond.selects yX1_addText.cls yX1_addText yX1_addText ∈ nm_T := nm_sel 4 (by decide +kernel) (by decide +kernel)
theorem hd_X1_hasLayer : nm_hd yX1_hasLayer 1 := by decide +kernel
theorem sw_X1_hasLayer : Cond.selects yX1_hasLayer.cls yX1_hasLayer yX1_hasLayer ∈ nm_T := nm_sel 6 (by decide +kernel) (by decide +kernel)
theorem hd_X1_addMap : nm_hd yX1_addMap 4 := by decide +kernel
theorem sw_X1_addMap : Cond.selects yX1_addMap.cls yX1_addMap yX1_addMap ∈ nm_T := nm_sel 8 (by decide +kernel) (by decide +kernel)
theorem hd_X1_bringMap : nm_hd yX1_bringMap 3 := by decide +kernel
theorem sw_X1_bringMap : Cond.selects yX1_bringMap.cls yX1_bringMap yX1_bringMap ∈ nm_T := nm_sel 7 (by decide +kernel) (by decide +kernel)
theorem hd_X1_bringTexts : nm_hd yX1_bringTexts 4 := by decide +kernel
theorem sw_X1_bringTexts : Cond.selects yX1_bringTexts.cls yX1_bringTexts yX1_bringTexts ∈ nm_T := nm_sel 9 (by decide +kernel) (by decide +kernel)
theorem hd_X1_bring : nm_hd yX1_bring 3 := by decide +kernel
theorem sw_X1_bring : Cond.selects yX1_bring.cls yX1_bring yX1_bring ∈ nm_T := nm_sel 5 (by decide +kernel) (by decide +kernel)
theorem hd_X11_refuse : nm_hd yX11_refuse 1 := by decide +kernel
theorem sw_X11_refuse : Cond.selects yX11_refuse.cls yX11_refuse yX11_refuse ∈ nm_T := nm_sel 0 (by decide +kernel) (by decide +kernel)
theorem hd_X11_made : nm_hd yX11_made 4 := by decide +kernel
theorem sw_X11_made : Cond.selects yX11_made.cls yX11_made yX11_made ∈ nm_T := nm_tb 474 (by decide +kernel) (by decide +kernel)
theorem hd_X11_area : nm_hd yX11_area 1 := by decide +kernel
theorem sw_X11_area : Cond.selects yX11_area.cls yX11_area yX11_area ∈ nm_T := nm_tb 675 (by decide +kernel) (by decide +kernel)
theorem hd_X11_covered : nm_hd yX11_covered 2 := by decide +kernel
theorem sw_X11_covered : Cond.selects yX11_covered.cls yX11_covered yX11_covered ∈ nm_T := nm_tb 680 (by decide +kernel) (by decide +kernel)
theorem hd_X11_rule : nm_hd yX11_rule 4 := by decide +kernel
theorem sw_X11_rule : Cond.selects yX11_rule.cls yX11_rule yX11_rule ∈ nm_T := nm_tb 692 (by decide +kernel) (by decide +kernel)
theorem hd_X11_fault : nm_hd yX11_fault 2 := by decide +kernel
theorem sw_X11_fault : Cond.selects yX11_fault.cls yX11_fault yX11_fault ∈ nm_T := nm_tb 755 (by decide +kernel) (by decide +kernel)
theorem hd_X11_faults : nm_hd yX11_faults 2 := by decide +kernel
theorem sw_X11_faults : Cond.selects yX11_faults.cls yX11_faults yX11_faults ∈ nm_T := nm_tb 759 (by decide +kernel) (by decide +kernel)
theorem hd_X11_conducts : nm_hd yX11_conducts 2 := by decide +kernel
theorem sw_X11_conducts : Cond.selects yX11_conducts.cls yX11_conducts yX11_conducts ∈ nm_T := nm_tb 763 (by decide +kernel) (by decide +kernel)
theorem hd_X11_joint : nm_hd yX11_joint 3 := by decide +kernel
theorem sw_X11_joint : Cond.selects yX11_joint.cls yX11_joint yX11_joint ∈ nm_T := nm_tb 767 (by decide +kernel) (by decide +kernel)
theorem hd_X11_gates : nm_hd yX11_gates 3 := by decide +kernel
theorem sw_X11_gates : Cond.selects yX11_gates.cls yX11_gates yX11_gates ∈ nm_T := nm_tb 775 (by decide +kernel) (by decide +kernel)
theorem hd_X11_net : nm_hd yX11_net 2 := by decide +kernel
theorem sw_X11_net : Cond.selects yX11_net.cls yX11_net yX11_net ∈ nm_T := nm_tb 839 (by decide +kernel) (by decide +kernel)
theorem hd_X11_name : nm_hd yX11_name 2 := by decide +kernel
theorem sw_X11_name : Cond.selects yX11_name.cls yX11_name yX11_name ∈ nm_T := nm_tb 848 (by decide +kernel) (by decide +kernel)
theorem hd_X11_device : nm_hd yX11_device 2 := by decide +kernel
theorem sw_X11_device : Cond.selects yX11_device.cls yX11_device yX11_device ∈ nm_T := nm_tb 859 (by decide +kernel) (by decide +kernel)
theorem hd_X11_wish : nm_hd yX11_wish 2 := by decide +kernel
theorem sw_X11_wish : Cond.selects yX11_wish.cls yX11_wish yX11_wish ∈ nm_T := nm_tb 867 (by decide +kernel) (by decide +kernel)
theorem hd_X11_unwish : nm_hd yX11_unwish 0 := by decide +kernel
theorem sw_X11_unwish : Cond.selects yX11_unwish.cls yX11_unwish yX11_unwish ∈ nm_T := nm_tb 875 (by decide +kernel) (by decide +kernel)
theorem hd_X11_tries : nm_hd yX11_tries 0 := by decide +kernel
theorem sw_X11_tries : Cond.selects yX11_tries.cls yX11_tries yX11_tries ∈ nm_T := nm_tb 913 (by decide +kernel) (by decide +kernel)
theorem hd_X11_pair : nm_hd yX11_pair 2 := by decide +kernel
theorem sw_X11_pair : Cond.selects yX11_pair.cls yX11_pair yX11_pair ∈ nm_T := nm_tb 917 (by decide +kernel) (by decide +kernel)
theorem hd_X11_lay : nm_hd yX11_lay 2 := by decide +kernel
theorem sw_X11_lay : Cond.selects yX11_lay.cls yX11_lay yX11_lay ∈ nm_T := nm_tb 927 (by decide +kernel) (by decide +kernel)
theorem hd_X11_tear : nm_hd yX11_tear 0 := by decide +kernel
theorem sw_X11_tear : Cond.selects yX11_tear.cls yX11_tear yX11_tear ∈ nm_T := nm_tb 932 (by decide +kernel) (by decide +kernel)
theorem hd_X11_row : nm_hd yX11_row 1 := by decide +kernel
theorem sw_X11_row : Cond.selects yX11_row.cls yX11_row yX11_row ∈ nm_T := nm_tb 936 (by decide +kernel) (by decide +kernel)
theorem hd_X11_copy : nm_hd yX11_copy 3 := by decide +kernel
theorem sw_X11_copy : Cond.selects yX11_copy.cls yX11_copy yX11_copy ∈ nm_T := nm_tb 940 (by decide +kernel) (by decide +kernel)
theorem hd_X11_status : nm_hd yX11_status 1 := by decide +kernel
theorem sw_X11_status : Cond.selects yX11_status.cls yX11_status yX11_status ∈ nm_T := nm_tb 946 (by decide +kernel) (by decide +kernel)
theorem hd_X1_placedCells : nm_hd yX1_placedCells 0 := by decide +kernel
theorem sw_X1_placedCells : Cond.selects yX1_placedCells.cls yX1_placedCells yX1_placedCells ∈ nm_T := nm_tb 486 (by decide +kernel) (by decide +kernel)
theorem hd_X1_markPatches : nm_hd yX1_markPatches 1 := by decide +kernel
theorem sw_X1_markPatches : Cond.selects yX1_markPatches.cls yX1_markPatches yX1_markPatches ∈ nm_T := nm_sel 3 (by decide +kernel) (by decide +kernel)
theorem hd_X11_outdate : nm_hd yX11_outdate 1 := by decide +kernel
theorem sw_X11_outdate : Cond.selects yX11_outdate.cls yX11_outdate yX11_outdate ∈ nm_T := nm_sel 2 (by decide +kernel) (by decide +kernel)
theorem hd_X11_undo : nm_hd yX11_undo 1 := by decide +kernel
theorem sw_X11_undo : Cond.selects yX11_undo.cls yX11_undo yX11_undo ∈ nm_T := nm_tb 466 (by decide +kernel) (by decide +kernel)
theorem hd_X11_shape : nm_hd yX11_shape 3 := by decide +kernel
theorem sw_X11_shape : Cond.selects yX11_shape.cls yX11_shape yX11_shape ∈ nm_T := nm_tb 470 (by decide +kernel) (by decide +kernel)
theorem hd_X11_times : nm_hd yX11_times 4 := by decide +kernel
theorem sw_X11_times : Cond.selects yX11_times.cls yX11_times yX11_times ∈ nm_T := nm_tb 455 (by decide +kernel) (by decide +kernel)
theorem hd_X10_search : nm_hd yX10_search 2 := by decide +kernel
theorem sw_X10_search : Cond.selects yX10_search.cls yX10_search yX10_search ∈ nm_T := nm_sel 25 (by decide +kernel) (by decide +kernel)
theorem hd_X10_match : nm_hd yX10_match 1 := by decide +kernel
theorem sw_X10_match : Cond.selects yX10_match.cls yX10_match yX10_match ∈ nm_T := nm_tb 883 (by decide +kernel) (by decide +kernel)
theorem hd_X11_same : nm_hd yX11_same 0 := by decide +kernel
theorem sw_X11_same : Cond.selects yX11_same.cls yX11_same yX11_same ∈ nm_T := nm_tb 879 (by decide +kernel) (by decide +kernel)
theorem tw_1 : (Jvm.Cond.initialized "RulePlate") ∈ nm_T := nm_tb 1 (by decide +kernel) (by decide +kernel)
theorem tw_2 : (Jvm.Cond.initialized "RulePlate$Drawing") ∈ nm_T := nm_tb 2 (by decide +kernel) (by decide +kernel)
theorem tw_3 : (Jvm.Cond.initialized "RulePlate$Groups") ∈ nm_T := nm_tb 3 (by decide +kernel) (by decide +kernel)
theorem tw_4 : (Jvm.Cond.initialized "java/util/Arrays") ∈ nm_T := nm_tb 4 (by decide +kernel) (by decide +kernel)
theorem tw_5 : (Jvm.Cond.initialized "RulePlate$RuleBook") ∈ nm_T := nm_tb 5 (by decide +kernel) (by decide +kernel)
theorem tw_6 : (Jvm.Cond.initialized "RulePlate$Circuit") ∈ nm_T := nm_tb 6 (by decide +kernel) (by decide +kernel)
theorem tw_7 : (Jvm.Cond.initialized "RulePlate$Wish") ∈ nm_T := nm_tb 7 (by decide +kernel) (by decide +kernel)
theorem tw_8 : (Jvm.Cond.initialized "RulePlate$Cell") ∈ nm_T := nm_tb 8 (by decide +kernel) (by decide +kernel)
theorem tw_11 : (Jvm.Cond.initialized "RulePlate$Patch") ∈ nm_T := nm_tb 11 (by decide +kernel) (by decide +kernel)
theorem tw_13 : (Jvm.Cond.initialized "RulePlate$Bits") ∈ nm_T := nm_tb 13 (by decide +kernel) (by decide +kernel)
theorem tw_14 : (Jvm.Cond.initialized "RulePlate$Label") ∈ nm_T := nm_tb 14 (by decide +kernel) (by decide +kernel)
theorem tw_15 : (Jvm.Cond.initialized "RulePlate$Put") ∈ nm_T := nm_tb 15 (by decide +kernel) (by decide +kernel)
theorem tw_17 : (Jvm.Cond.initialized "java/lang/Long") ∈ nm_T := nm_tb 17 (by decide +kernel) (by decide +kernel)
theorem tw_40 : (Jvm.Cond.fieldLink "RulePlate$Groups" (34 : Nat) "RulePlate$Groups" "rows" "[J") ∈ nm_T := nm_tb 40 (by decide +kernel) (by decide +kernel)
theorem tw_41 : (Jvm.Cond.fieldLink "RulePlate$Circuit" (62 : Nat) "RulePlate$Groups" "rows" "[J") ∈ nm_T := nm_tb 41 (by decide +kernel) (by decide +kernel)
theorem tw_42 : (Jvm.Cond.fieldLink "RulePlate$Groups" (9 : Nat) "RulePlate$Groups" "count" "I") ∈ nm_T := nm_tb 42 (by decide +kernel) (by decide +kernel)
theorem tw_44 : (Jvm.Cond.fieldLink "RulePlate$RuleBook" (144 : Nat) "RulePlate$Groups" "count" "I") ∈ nm_T := nm_tb 44 (by decide +kernel) (by decide +kernel)
theorem tw_45 : (Jvm.Cond.fieldLink "RulePlate" (166 : Nat) "RulePlate$Groups" "count" "I") ∈ nm_T := nm_tb 45 (by decide +kernel) (by decide +kernel)
theorem tw_46 : (Jvm.Cond.fieldLink "RulePlate$Groups" (15 : Nat) "RulePlate$Groups" "sizes" "[I") ∈ nm_T := nm_tb 46 (by decide +kernel) (by decide +kernel)
theorem tw_47 : (Jvm.Cond.fieldLink "RulePlate$RuleBook" (147 : Nat) "RulePlate$Groups" "sizes" "[I") ∈ nm_T := nm_tb 47 (by decide +kernel) (by decide +kernel)
theorem tw_49 : (Jvm.Cond.fieldLink "RulePlate$Circuit" (171 : Nat) "RulePlate$Groups" "sizes" "[I") ∈ nm_T := nm_tb 49 (by decide +kernel) (by decide +kernel)
theorem tw_50 : (Jvm.Cond.fieldLink "RulePlate$Groups" (19 : Nat) "RulePlate$Groups" "leasts" "[I") ∈ nm_T := nm_tb 50 (by decide +kernel) (by decide +kernel)
theorem tw_52 : (Jvm.Cond.fieldLink "RulePlate$RuleBook" (150 : Nat) "RulePlate$Groups" "leasts" "[I") ∈ nm_T := nm_tb 52 (by decide +kernel) (by decide +kernel)
theorem tw_53 : (Jvm.Cond.fieldLink "RulePlate$Groups" (22 : Nat) "RulePlate$Groups" "greatests" "[I") ∈ nm_T := nm_tb 53 (by decide +kernel) (by decide +kernel)
theorem tw_54 : (Jvm.Cond.fieldLink "RulePlate$RuleBook" (151 : Nat) "RulePlate$Groups" "greatests" "[I") ∈ nm_T := nm_tb 54 (by decide +kernel) (by decide +kernel)
theorem tw_55 : (Jvm.Cond.fieldLink "RulePlate$Groups" (38 : Nat) "RulePlate$Groups" "firsts" "[I") ∈ nm_T := nm_tb 55 (by decide +kernel) (by decide +kernel)
theorem tw_56 : (Jvm.Cond.fieldLink "RulePlate$Groups" (25 : Nat) "RulePlate$Groups" "links" "[I") ∈ nm_T := nm_tb 56 (by decide +kernel) (by decide +kernel)
theorem tw_57 : (Jvm.Cond.fieldLink "RulePlate$Groups" (28 : Nat) "RulePlate$Groups" "stretches" "I") ∈ nm_T := nm_tb 57 (by decide +kernel) (by decide +kernel)
theorem tw_58 : (Jvm.Cond.fieldLink "RulePlate$Groups" (31 : Nat) "RulePlate$Groups" "touched" "[I") ∈ nm_T := nm_tb 58 (by decide +kernel) (by decide +kernel)
theorem tw_81 : (Jvm.Cond.static ({ cls := "java/util/Arrays", name := "fill", desc := "([II)V" } : Jvm.MethodName)) ∈ nm_T := nm_tb 81 (by decide +kernel) (by decide +kernel)
theorem tw_82 : (Jvm.Cond.code ({ cls := "java/util/Arrays", name := "fill", desc := "([II)V" } : Jvm.MethodName) prog_18_method_103_code (4 : Nat) (Option.none : Option Jvm.ClassFile.FieldType)) ∈ nm_T := nm_tb 82 (by decide +kernel) (by decide +kernel)
theorem tw_84 : (Jvm.Cond.fieldLink "RulePlate" (153 : Nat) "RulePlate$Drawing" "known" "Z") ∈ nm_T := nm_tb 84 (by decide +kernel) (by decide +kernel)
theorem tw_85 : (Jvm.Cond.fieldLink "RulePlate$Drawing" (15 : Nat) "RulePlate$Drawing" "rows" "[J") ∈ nm_T := nm_tb 85 (by decide +kernel) (by decide +kernel)
theorem tw_86 : (Jvm.Cond.fieldLink "RulePlate$Circuit" (72 : Nat) "RulePlate$Drawing" "rows" "[J") ∈ nm_T := nm_tb 86 (by decide +kernel) (by decide +kernel)
theorem tw_87 : (Jvm.Cond.fieldLink "RulePlate$RuleBook" (80 : Nat) "RulePlate$Drawing" "rows" "[J") ∈ nm_T := nm_tb 87 (by decide +kernel) (by decide +kernel)
theorem tw_88 : (Jvm.Cond.fieldLink "RulePlate" (159 : Nat) "RulePlate$Drawing" "rows" "[J") ∈ nm_T := nm_tb 88 (by decide +kernel) (by decide +kernel)
theorem tw_90 : (Jvm.Cond.fieldLink "RulePlate$Circuit" (156 : Nat) "RulePlate$Drawing" "texts" "[I") ∈ nm_T := nm_tb 90 (by decide +kernel) (by decide +kernel)
theorem tw_92 : (Jvm.Cond.fieldLink "RulePlate$Circuit" (153 : Nat) "RulePlate$Drawing" "textCount" "I") ∈ nm_T := nm_tb 92 (by decide +kernel) (by decide +kernel)
theorem tw_93 : (Jvm.Cond.fieldLink "RulePlate$Drawing" (27 : Nat) "RulePlate$Drawing" "ops" "[I") ∈ nm_T := nm_tb 93 (by decide +kernel) (by decide +kernel)
theorem tw_94 : (Jvm.Cond.fieldLink "RulePlate$Drawing" (30 : Nat) "RulePlate$Drawing" "firsts" "[I") ∈ nm_T := nm_tb 94 (by decide +kernel) (by decide +kernel)
theorem tw_95 : (Jvm.Cond.fieldLink "RulePlate$Drawing" (33 : Nat) "RulePlate$Drawing" "seconds" "[I") ∈ nm_T := nm_tb 95 (by decide +kernel) (by decide +kernel)
theorem tw_120 : (Jvm.Cond.fieldLink "RulePlate$RuleBook" (9 : Nat) "RulePlate$RuleBook" "count" "I") ∈ nm_T := nm_tb 120 (by decide +kernel) (by decide +kernel)
theorem tw_121 : (Jvm.Cond.fieldLink "RulePlate" (175 : Nat) "RulePlate$RuleBook" "count" "I") ∈ nm_T := nm_tb 121 (by decide +kernel) (by decide +kernel)
theorem tw_123 : (Jvm.Cond.fieldLink "RulePlate" (140 : Nat) "RulePlate$RuleBook" "ran" "Z") ∈ nm_T := nm_tb 123 (by decide +kernel) (by decide +kernel)
theorem tw_124 : (Jvm.Cond.fieldLink "RulePlate$RuleBook" (19 : Nat) "RulePlate$RuleBook" "total" "I") ∈ nm_T := nm_tb 124 (by decide +kernel) (by decide +kernel)
theorem tw_125 : (Jvm.Cond.fieldLink "RulePlate" (184 : Nat) "RulePlate$RuleBook" "total" "I") ∈ nm_T := nm_tb 125 (by decide +kernel) (by decide +kernel)
theorem tw_126 : (Jvm.Cond.fieldLink "RulePlate$RuleBook" (22 : Nat) "RulePlate$RuleBook" "told" "[I") ∈ nm_T := nm_tb 126 (by decide +kernel) (by decide +kernel)
theorem tw_127 : (Jvm.Cond.fieldLink "RulePlate" (187 : Nat) "RulePlate$RuleBook" "told" "[I") ∈ nm_T := nm_tb 127 (by decide +kernel) (by decide +kernel)
theorem tw_128 : (Jvm.Cond.fieldLink "RulePlate$RuleBook" (26 : Nat) "RulePlate$RuleBook" "counts" "[I") ∈ nm_T := nm_tb 128 (by decide +kernel) (by decide +kernel)
theorem tw_129 : (Jvm.Cond.fieldLink "RulePlate" (190 : Nat) "RulePlate$RuleBook" "counts" "[I") ∈ nm_T := nm_tb 129 (by decide +kernel) (by decide +kernel)
theorem tw_130 : (Jvm.Cond.fieldLink "RulePlate$RuleBook" (29 : Nat) "RulePlate$RuleBook" "leasts" "[I") ∈ nm_T := nm_tb 130 (by decide +kernel) (by decide +kernel)
theorem tw_131 : (Jvm.Cond.fieldLink "RulePlate" (193 : Nat) "RulePlate$RuleBook" "leasts" "[I") ∈ nm_T := nm_tb 131 (by decide +kernel) (by decide +kernel)
theorem tw_132 : (Jvm.Cond.fieldLink "RulePlate$RuleBook" (32 : Nat) "RulePlate$RuleBook" "kinds" "[I") ∈ nm_T := nm_tb 132 (by decide +kernel) (by decide +kernel)
theorem tw_133 : (Jvm.Cond.fieldLink "RulePlate$RuleBook" (35 : Nat) "RulePlate$RuleBook" "layers" "[I") ∈ nm_T := nm_tb 133 (by decide +kernel) (by decide +kernel)
theorem tw_134 : (Jvm.Cond.fieldLink "RulePlate$RuleBook" (38 : Nat) "RulePlate$RuleBook" "others" "[I") ∈ nm_T := nm_tb 134 (by decide +kernel) (by decide +kernel)
theorem tw_135 : (Jvm.Cond.fieldLink "RulePlate$RuleBook" (41 : Nat) "RulePlate$RuleBook" "limits" "[I") ∈ nm_T := nm_tb 135 (by decide +kernel) (by decide +kernel)
theorem tw_136 : (Jvm.Cond.fieldLink "RulePlate$RuleBook" (44 : Nat) "RulePlate$RuleBook" "map" "[J") ∈ nm_T := nm_tb 136 (by decide +kernel) (by decide +kernel)
theorem tw_168 : (Jvm.Cond.fieldLink "RulePlate$Circuit" (9 : Nat) "RulePlate$Circuit" "conductors" "I") ∈ nm_T := nm_tb 168 (by decide +kernel) (by decide +kernel)
theorem tw_169 : (Jvm.Cond.fieldLink "RulePlate" (196 : Nat) "RulePlate$Circuit" "conductors" "I") ∈ nm_T := nm_tb 169 (by decide +kernel) (by decide +kernel)
theorem tw_170 : (Jvm.Cond.fieldLink "RulePlate$Circuit" (15 : Nat) "RulePlate$Circuit" "jointCount" "I") ∈ nm_T := nm_tb 170 (by decide +kernel) (by decide +kernel)
theorem tw_171 : (Jvm.Cond.fieldLink "RulePlate" (199 : Nat) "RulePlate$Circuit" "jointCount" "I") ∈ nm_T := nm_tb 171 (by decide +kernel) (by decide +kernel)
theorem tw_173 : (Jvm.Cond.fieldLink "RulePlate" (143 : Nat) "RulePlate$Circuit" "found" "Z") ∈ nm_T := nm_tb 173 (by decide +kernel) (by decide +kernel)
theorem tw_175 : (Jvm.Cond.fieldLink "RulePlate$Wish" (47 : Nat) "RulePlate$Circuit" "deviceCount" "I") ∈ nm_T := nm_tb 175 (by decide +kernel) (by decide +kernel)
theorem tw_176 : (Jvm.Cond.fieldLink "RulePlate" (234 : Nat) "RulePlate$Circuit" "deviceCount" "I") ∈ nm_T := nm_tb 176 (by decide +kernel) (by decide +kernel)
theorem tw_177 : (Jvm.Cond.fieldLink "RulePlate$Circuit" (30 : Nat) "RulePlate$Circuit" "nets" "LRulePlate$Groups;") ∈ nm_T := nm_tb 177 (by decide +kernel) (by decide +kernel)
theorem tw_178 : (Jvm.Cond.fieldLink "RulePlate" (220 : Nat) "RulePlate$Circuit" "nets" "LRulePlate$Groups;") ∈ nm_T := nm_tb 178 (by decide +kernel) (by decide +kernel)
theorem tw_179 : (Jvm.Cond.fieldLink "RulePlate$Circuit" (34 : Nat) "RulePlate$Circuit" "joints" "[I") ∈ nm_T := nm_tb 179 (by decide +kernel) (by decide +kernel)
theorem tw_180 : (Jvm.Cond.fieldLink "RulePlate$Circuit" (38 : Nat) "RulePlate$Circuit" "gateLayer" "I") ∈ nm_T := nm_tb 180 (by decide +kernel) (by decide +kernel)
theorem tw_181 : (Jvm.Cond.fieldLink "RulePlate$Circuit" (41 : Nat) "RulePlate$Circuit" "wellLayer" "I") ∈ nm_T := nm_tb 181 (by decide +kernel) (by decide +kernel)
theorem tw_182 : (Jvm.Cond.fieldLink "RulePlate$Circuit" (44 : Nat) "RulePlate$Circuit" "endLayer" "I") ∈ nm_T := nm_tb 182 (by decide +kernel) (by decide +kernel)
theorem tw_183 : (Jvm.Cond.fieldLink "RulePlate$Circuit" (47 : Nat) "RulePlate$Circuit" "conductorsThen" "I") ∈ nm_T := nm_tb 183 (by decide +kernel) (by decide +kernel)
theorem tw_184 : (Jvm.Cond.fieldLink "RulePlate$Circuit" (50 : Nat) "RulePlate$Circuit" "crossings" "LRulePlate$Groups;") ∈ nm_T := nm_tb 184 (by decide +kernel) (by decide +kernel)
theorem tw_185 : (Jvm.Cond.fieldLink "RulePlate$Circuit" (53 : Nat) "RulePlate$Circuit" "gateNets" "[I") ∈ nm_T := nm_tb 185 (by decide +kernel) (by decide +kernel)
theorem tw_186 : (Jvm.Cond.fieldLink "RulePlate$Circuit" (56 : Nat) "RulePlate$Circuit" "firstEnds" "[I") ∈ nm_T := nm_tb 186 (by decide +kernel) (by decide +kernel)
theorem tw_187 : (Jvm.Cond.fieldLink "RulePlate$Circuit" (59 : Nat) "RulePlate$Circuit" "secondEnds" "[I") ∈ nm_T := nm_tb 187 (by decide +kernel) (by decide +kernel)
theorem tw_223 : (Jvm.Cond.fieldLink "RulePlate$Wish" (9 : Nat) "RulePlate$Wish" "count" "I") ∈ nm_T := nm_tb 223 (by decide +kernel) (by decide +kernel)
theorem tw_224 : (Jvm.Cond.fieldLink "RulePlate" (240 : Nat) "RulePlate$Wish" "count" "I") ∈ nm_T := nm_tb 224 (by decide +kernel) (by decide +kernel)
theorem tw_225 : (Jvm.Cond.fieldLink "RulePlate$Wish" (15 : Nat) "RulePlate$Wish" "tried" "I") ∈ nm_T := nm_tb 225 (by decide +kernel) (by decide +kernel)
theorem tw_226 : (Jvm.Cond.fieldLink "RulePlate" (250 : Nat) "RulePlate$Wish" "tried" "I") ∈ nm_T := nm_tb 226 (by decide +kernel) (by decide +kernel)
theorem tw_227 : (Jvm.Cond.fieldLink "RulePlate$Wish" (18 : Nat) "RulePlate$Wish" "spent" "Z") ∈ nm_T := nm_tb 227 (by decide +kernel) (by decide +kernel)
theorem tw_228 : (Jvm.Cond.fieldLink "RulePlate" (247 : Nat) "RulePlate$Wish" "spent" "Z") ∈ nm_T := nm_tb 228 (by decide +kernel) (by decide +kernel)
theorem tw_229 : (Jvm.Cond.fieldLink "RulePlate$Wish" (22 : Nat) "RulePlate$Wish" "paired" "Z") ∈ nm_T := nm_tb 229 (by decide +kernel) (by decide +kernel)
theorem tw_230 : (Jvm.Cond.fieldLink "RulePlate" (146 : Nat) "RulePlate$Wish" "paired" "Z") ∈ nm_T := nm_tb 230 (by decide +kernel) (by decide +kernel)
theorem tw_231 : (Jvm.Cond.fieldLink "RulePlate$Wish" (25 : Nat) "RulePlate$Wish" "nets" "[I") ∈ nm_T := nm_tb 231 (by decide +kernel) (by decide +kernel)
theorem tw_232 : (Jvm.Cond.fieldLink "RulePlate$Wish" (29 : Nat) "RulePlate$Wish" "sizes" "[I") ∈ nm_T := nm_tb 232 (by decide +kernel) (by decide +kernel)
theorem tw_233 : (Jvm.Cond.fieldLink "RulePlate$Wish" (32 : Nat) "RulePlate$Wish" "things" "[I") ∈ nm_T := nm_tb 233 (by decide +kernel) (by decide +kernel)
theorem tw_234 : (Jvm.Cond.fieldLink "RulePlate$Wish" (35 : Nat) "RulePlate$Wish" "partners" "[I") ∈ nm_T := nm_tb 234 (by decide +kernel) (by decide +kernel)
theorem tw_235 : (Jvm.Cond.fieldLink "RulePlate$Wish" (38 : Nat) "RulePlate$Wish" "taken" "I") ∈ nm_T := nm_tb 235 (by decide +kernel) (by decide +kernel)
theorem tw_262 : (Jvm.Cond.fieldLink "RulePlate$Cell" (11 : Nat) "RulePlate$Cell" "shapes" "[LRulePlate$Shape;") ∈ nm_T := nm_tb 262 (by decide +kernel) (by decide +kernel)
theorem tw_263 : (Jvm.Cond.fieldLink "RulePlate" (102 : Nat) "RulePlate$Cell" "shapes" "[LRulePlate$Shape;") ∈ nm_T := nm_tb 263 (by decide +kernel) (by decide +kernel)
theorem tw_264 : (Jvm.Cond.fieldLink "RulePlate$Cell" (17 : Nat) "RulePlate$Cell" "count" "I") ∈ nm_T := nm_tb 264 (by decide +kernel) (by decide +kernel)
theorem tw_265 : (Jvm.Cond.fieldLink "RulePlate" (68 : Nat) "RulePlate$Cell" "count" "I") ∈ nm_T := nm_tb 265 (by decide +kernel) (by decide +kernel)
theorem tw_267 : (Jvm.Cond.fieldLink "RulePlate" (276 : Nat) "RulePlate$Cell" "settled" "Z") ∈ nm_T := nm_tb 267 (by decide +kernel) (by decide +kernel)
theorem tw_268 : (Jvm.Cond.fieldLink "RulePlate$Cell" (25 : Nat) "RulePlate$Cell" "rows" "[J") ∈ nm_T := nm_tb 268 (by decide +kernel) (by decide +kernel)
theorem tw_270 : (Jvm.Cond.fieldLink "RulePlate$Cell" (29 : Nat) "RulePlate$Cell" "texts" "[I") ∈ nm_T := nm_tb 270 (by decide +kernel) (by decide +kernel)
theorem tw_272 : (Jvm.Cond.fieldLink "RulePlate$Cell" (33 : Nat) "RulePlate$Cell" "textCount" "I") ∈ nm_T := nm_tb 272 (by decide +kernel) (by decide +kernel)
theorem tw_287 : (Jvm.Cond.fieldLink "RulePlate" (11 : Nat) "RulePlate" "cells" "[LRulePlate$Cell;") ∈ nm_T := nm_tb 287 (by decide +kernel) (by decide +kernel)
theorem tw_288 : (Jvm.Cond.fieldLink "RulePlate" (18 : Nat) "RulePlate" "drawing" "LRulePlate$Drawing;") ∈ nm_T := nm_tb 288 (by decide +kernel) (by decide +kernel)
theorem tw_289 : (Jvm.Cond.fieldLink "RulePlate" (25 : Nat) "RulePlate" "book" "LRulePlate$RuleBook;") ∈ nm_T := nm_tb 289 (by decide +kernel) (by decide +kernel)
theorem tw_290 : (Jvm.Cond.fieldLink "RulePlate" (32 : Nat) "RulePlate" "wiring" "LRulePlate$Circuit;") ∈ nm_T := nm_tb 290 (by decide +kernel) (by decide +kernel)
theorem tw_291 : (Jvm.Cond.fieldLink "RulePlate" (39 : Nat) "RulePlate" "wanted" "LRulePlate$Wish;") ∈ nm_T := nm_tb 291 (by decide +kernel) (by decide +kernel)
theorem tw_292 : (Jvm.Cond.fieldLink "RulePlate" (43 : Nat) "RulePlate" "refusals" "[I") ∈ nm_T := nm_tb 292 (by decide +kernel) (by decide +kernel)
theorem tw_294 : (Jvm.Cond.fieldLink "RulePlate" (51 : Nat) "RulePlate" "line" "J") ∈ nm_T := nm_tb 294 (by decide +kernel) (by decide +kernel)
theorem tw_295 : (Jvm.Cond.fieldLink "RulePlate" (55 : Nat) "RulePlate" "lineThere" "Z") ∈ nm_T := nm_tb 295 (by decide +kernel) (by decide +kernel)
theorem tw_319 : (Jvm.Cond.methodLink "RulePlate" (60 : Nat) ({ cls := "RulePlate", name := "outside", desc := "(II)Z" } : Jvm.MethodName)) ∈ nm_T := nm_tb 319 (by decide +kernel) (by decide +kernel)
theorem tw_320 : (Jvm.Cond.static ({ cls := "RulePlate", name := "outside", desc := "(II)Z" } : Jvm.MethodName)) ∈ nm_T := nm_tb 320 (by decide +kernel) (by decide +kernel)
theorem tw_321 : (Jvm.Cond.code ({ cls := "RulePlate", name := "outside", desc := "(II)Z" } : Jvm.MethodName) prog_1_method_35_code (2 : Nat) (Option.some Jvm.ClassFile.FieldType.boolean)) ∈ nm_T := nm_tb 321 (by decide +kernel) (by decide +kernel)
theorem tw_322 : (Jvm.Cond.methodLink "RulePlate" (64 : Nat) ({ cls := "RulePlate", name := "refuse", desc := "(I)I" } : Jvm.MethodName)) ∈ nm_T := nm_tb 322 (by decide +kernel) (by decide +kernel)
theorem tw_324 : (Jvm.Cond.instanceMethod ({ cls := "RulePlate", name := "refuse", desc := "(I)I" } : Jvm.MethodName)) ∈ nm_T := nm_tb 324 (by decide +kernel) (by decide +kernel)
theorem tw_325 : (Jvm.Cond.code ({ cls := "RulePlate", name := "refuse", desc := "(I)I" } : Jvm.MethodName) prog_1_method_36_code (2 : Nat) (Option.some Jvm.ClassFile.FieldType.int)) ∈ nm_T := nm_tb 325 (by decide +kernel) (by decide +kernel)
theorem tw_335 : (Jvm.Cond.fieldLink "RulePlate$Patch" (18 : Nat) "RulePlate$Patch" "top" "I") ∈ nm_T := nm_tb 335 (by decide +kernel) (by decide +kernel)
theorem tw_336 : (Jvm.Cond.fieldLink "RulePlate$Patch" (24 : Nat) "RulePlate$Patch" "bottom" "I") ∈ nm_T := nm_tb 336 (by decide +kernel) (by decide +kernel)
theorem tw_337 : (Jvm.Cond.fieldLink "RulePlate$Patch" (33 : Nat) "RulePlate$Patch" "columns" "J") ∈ nm_T := nm_tb 337 (by decide +kernel) (by decide +kernel)
theorem tw_339 : (Jvm.Cond.fieldLink "RulePlate$Patch" (40 : Nat) "RulePlate$Patch" "kind" "I") ∈ nm_T := nm_tb 339 (by decide +kernel) (by decide +kernel)
theorem tw_340 : (Jvm.Cond.sameField "RulePlate$Patch" "RulePlate$Shape" "kind" "I") ∈ nm_T := nm_tb 340 (by decide +kernel) (by decide +kernel)
theorem tw_341 : (Jvm.Cond.fieldLink "RulePlate$Cell" (66 : Nat) "RulePlate$Patch" "kind" "I") ∈ nm_T := nm_tb 341 (by decide +kernel) (by decide +kernel)
theorem tw_342 : (Jvm.Cond.fieldLink "RulePlate" (118 : Nat) "RulePlate$Shape" "kind" "I") ∈ nm_T := nm_tb 342 (by decide +kernel) (by decide +kernel)
theorem tw_344 : (Jvm.Cond.fieldLink "RulePlate$Patch" (37 : Nat) "RulePlate$Patch" "layer" "I") ∈ nm_T := nm_tb 344 (by decide +kernel) (by decide +kernel)
theorem tw_345 : (Jvm.Cond.sameField "RulePlate$Patch" "RulePlate$Shape" "layer" "I") ∈ nm_T := nm_tb 345 (by decide +kernel) (by decide +kernel)
theorem tw_346 : (Jvm.Cond.fieldLink "RulePlate$Cell" (38 : Nat) "RulePlate$Put" "layer" "I") ∈ nm_T := nm_tb 346 (by decide +kernel) (by decide +kernel)
theorem tw_347 : (Jvm.Cond.sameField "RulePlate$Put" "RulePlate$Shape" "layer" "I") ∈ nm_T := nm_tb 347 (by decide +kernel) (by decide +kernel)
theorem tw_348 : (Jvm.Cond.fieldLink "RulePlate" (123 : Nat) "RulePlate$Shape" "layer" "I") ∈ nm_T := nm_tb 348 (by decide +kernel) (by decide +kernel)
theorem tw_350 : (Jvm.Cond.fieldLink "RulePlate$Put" (31 : Nat) "RulePlate$Put" "square" "I") ∈ nm_T := nm_tb 350 (by decide +kernel) (by decide +kernel)
theorem tw_351 : (Jvm.Cond.sameField "RulePlate$Put" "RulePlate$Shape" "square" "I") ∈ nm_T := nm_tb 351 (by decide +kernel) (by decide +kernel)
theorem tw_352 : (Jvm.Cond.fieldLink "RulePlate" (126 : Nat) "RulePlate$Shape" "square" "I") ∈ nm_T := nm_tb 352 (by decide +kernel) (by decide +kernel)
theorem tw_377 : (Jvm.Cond.static ({ cls := "RulePlate$Bits", name := "span", desc := "(II)J" } : Jvm.MethodName)) ∈ nm_T := nm_tb 377 (by decide +kernel) (by decide +kernel)
theorem tw_378 : (Jvm.Cond.code ({ cls := "RulePlate$Bits", name := "span", desc := "(II)J" } : Jvm.MethodName) prog_2_method_2_code (2 : Nat) (Option.some Jvm.ClassFile.FieldType.long)) ∈ nm_T := nm_tb 378 (by decide +kernel) (by decide +kernel)
theorem tw_379 : (Jvm.Cond.constantLong "RulePlate$Bits" (9 : Nat) (-1 : Int64)) ∈ nm_T := nm_tb 379 (by decide +kernel) (by decide +kernel)
theorem tw_384 : (Jvm.Cond.methodLink "RulePlate" (114 : Nat) ({ cls := "RulePlate", name := "outdate", desc := "(I)V" } : Jvm.MethodName)) ∈ nm_T := nm_tb 384 (by decide +kernel) (by decide +kernel)
theorem tw_386 : (Jvm.Cond.instanceMethod ({ cls := "RulePlate", name := "outdate", desc := "(I)V" } : Jvm.MethodName)) ∈ nm_T := nm_tb 386 (by decide +kernel) (by decide +kernel)
theorem tw_387 : (Jvm.Cond.code ({ cls := "RulePlate", name := "outdate", desc := "(I)V" } : Jvm.MethodName) prog_1_method_38_code (3 : Nat) (Option.none : Option Jvm.ClassFile.FieldType)) ∈ nm_T := nm_tb 387 (by decide +kernel) (by decide +kernel)
theorem tw_396 : (Jvm.Cond.methodLink "RulePlate" (85 : Nat) ({ cls := "java/lang/Math", name := "min", desc := "(II)I" } : Jvm.MethodName)) ∈ nm_T := nm_tb 396 (by decide +kernel) (by decide +kernel)
theorem tw_409 : (Jvm.Cond.static ({ cls := "RulePlate$Label", name := "pack", desc := "(III)I" } : Jvm.MethodName)) ∈ nm_T := nm_tb 409 (by decide +kernel) (by decide +kernel)
theorem tw_410 : (Jvm.Cond.code ({ cls := "RulePlate$Label", name := "pack", desc := "(III)I" } : Jvm.MethodName) prog_7_method_2_code (3 : Nat) (Option.some Jvm.ClassFile.FieldType.int)) ∈ nm_T := nm_tb 410 (by decide +kernel) (by decide +kernel)
theorem tw_423 : (Jvm.Cond.classLink "RulePlate" (97 : Nat) "RulePlate$Put") ∈ nm_T := nm_tb 423 (by decide +kernel) (by decide +kernel)
theorem tw_429 : (Jvm.Cond.fieldLink "RulePlate$Put" (24 : Nat) "RulePlate$Put" "turned" "I") ∈ nm_T := nm_tb 429 (by decide +kernel) (by decide +kernel)
theorem tw_430 : (Jvm.Cond.fieldLink "RulePlate$Put" (27 : Nat) "RulePlate$Put" "mirrored" "Z") ∈ nm_T := nm_tb 430 (by decide +kernel) (by decide +kernel)
theorem tw_431 : (Jvm.Cond.fieldLink "RulePlate$Put" (9 : Nat) "RulePlate$Put" "farAcross" "I") ∈ nm_T := nm_tb 431 (by decide +kernel) (by decide +kernel)
theorem tw_432 : (Jvm.Cond.fieldLink "RulePlate$Put" (15 : Nat) "RulePlate$Put" "farDown" "I") ∈ nm_T := nm_tb 432 (by decide +kernel) (by decide +kernel)
theorem tw_433 : (Jvm.Cond.fieldLink "RulePlate$Put" (18 : Nat) "RulePlate$Put" "manyAcross" "I") ∈ nm_T := nm_tb 433 (by decide +kernel) (by decide +kernel)
theorem tw_434 : (Jvm.Cond.fieldLink "RulePlate$Cell" (93 : Nat) "RulePlate$Put" "manyAcross" "I") ∈ nm_T := nm_tb 434 (by decide +kernel) (by decide +kernel)
theorem tw_435 : (Jvm.Cond.fieldLink "RulePlate$Put" (21 : Nat) "RulePlate$Put" "manyDown" "I") ∈ nm_T := nm_tb 435 (by decide +kernel) (by decide +kernel)
theorem tw_436 : (Jvm.Cond.fieldLink "RulePlate$Cell" (90 : Nat) "RulePlate$Put" "manyDown" "I") ∈ nm_T := nm_tb 436 (by decide +kernel) (by decide +kernel)
theorem tw_457 : (Jvm.Cond.methodLink "RulePlate" (106 : Nat) ({ cls := "RulePlate$Put", name := "canBeTold", desc := "(I)Z" } : Jvm.MethodName)) ∈ nm_T := nm_tb 457 (by decide +kernel) (by decide +kernel)
theorem tw_458 : (Jvm.Cond.static ({ cls := "RulePlate$Put", name := "canBeTold", desc := "(I)Z" } : Jvm.MethodName)) ∈ nm_T := nm_tb 458 (by decide +kernel) (by decide +kernel)
theorem tw_459 : (Jvm.Cond.code ({ cls := "RulePlate$Put", name := "canBeTold", desc := "(I)Z" } : Jvm.MethodName) prog_9_method_2_code (3 : Nat) (Option.some Jvm.ClassFile.FieldType.boolean)) ∈ nm_T := nm_tb 459 (by decide +kernel) (by decide +kernel)
theorem tw_460 : (Jvm.Cond.methodLink "RulePlate" (110 : Nat) ({ cls := "RulePlate$Put", name := "repeat", desc := "(II)V" } : Jvm.MethodName)) ∈ nm_T := nm_tb 460 (by decide +kernel) (by decide +kernel)
theorem tw_461 : (Jvm.Cond.instanceMethod ({ cls := "RulePlate$Put", name := "repeat", desc := "(II)V" } : Jvm.MethodName)) ∈ nm_T := nm_tb 461 (by decide +kernel) (by decide +kernel)
theorem tw_463 : (Jvm.Cond.code ({ cls := "RulePlate$Put", name := "repeat", desc := "(II)V" } : Jvm.MethodName) prog_9_method_3_code (3 : Nat) (Option.none : Option Jvm.ClassFile.FieldType)) ∈ nm_T := nm_tb 463 (by decide +kernel) (by decide +kernel)
theorem tw_476 : (Jvm.Cond.methodLink "RulePlate" (129 : Nat) ({ cls := "RulePlate$Drawing", name := "tell", desc := "(IIII)V" } : Jvm.MethodName)) ∈ nm_T := nm_tb 476 (by decide +kernel) (by decide +kernel)
theorem tw_477 : (Jvm.Cond.instanceMethod ({ cls := "RulePlate$Drawing", name := "tell", desc := "(IIII)V" } : Jvm.MethodName)) ∈ nm_T := nm_tb 477 (by decide +kernel) (by decide +kernel)
theorem tw_479 : (Jvm.Cond.code ({ cls := "RulePlate$Drawing", name := "tell", desc := "(IIII)V" } : Jvm.MethodName) prog_5_method_2_code (5 : Nat) (Option.none : Option Jvm.ClassFile.FieldType)) ∈ nm_T := nm_tb 479 (by decide +kernel) (by decide +kernel)
theorem tw_488 : (Jvm.Cond.classLink "RulePlate$Cell" (36 : Nat) "RulePlate$Put") ∈ nm_T := nm_tb 488 (by decide +kernel) (by decide +kernel)
theorem tw_500 : (Jvm.Cond.classLink "RulePlate$Cell" (64 : Nat) "RulePlate$Patch") ∈ nm_T := nm_tb 500 (by decide +kernel) (by decide +kernel)
theorem tw_501 : (Jvm.Cond.methodLink "RulePlate$Cell" (69 : Nat) ({ cls := "RulePlate$Patch", name := "mark", desc := "([J)V" } : Jvm.MethodName)) ∈ nm_T := nm_tb 501 (by decide +kernel) (by decide +kernel)
theorem tw_502 : (Jvm.Cond.instanceMethod ({ cls := "RulePlate$Patch", name := "mark", desc := "([J)V" } : Jvm.MethodName)) ∈ nm_T := nm_tb 502 (by decide +kernel) (by decide +kernel)
theorem tw_504 : (Jvm.Cond.code ({ cls := "RulePlate$Patch", name := "mark", desc := "([J)V" } : Jvm.MethodName) prog_8_method_3_code (4 : Nat) (Option.none : Option Jvm.ClassFile.FieldType)) ∈ nm_T := nm_tb 504 (by decide +kernel) (by decide +kernel)
theorem tw_505 : (Jvm.Cond.constantLong "RulePlate$Patch" (43 : Nat) (-1 : Int64)) ∈ nm_T := nm_tb 505 (by decide +kernel) (by decide +kernel)
theorem tw_507 : (Jvm.Cond.methodLink "RulePlate$Cell" (56 : Nat) ({ cls := "RulePlate$Cell", name := "addText", desc := "(I)V" } : Jvm.MethodName)) ∈ nm_T := nm_tb 507 (by decide +kernel) (by decide +kernel)
theorem tw_509 : (Jvm.Cond.instanceMethod ({ cls := "RulePlate$Cell", name := "addText", desc := "(I)V" } : Jvm.MethodName)) ∈ nm_T := nm_tb 509 (by decide +kernel) (by decide +kernel)
theorem tw_510 : (Jvm.Cond.code ({ cls := "RulePlate$Cell", name := "addText", desc := "(I)V" } : Jvm.MethodName) prog_3_method_6_code (2 : Nat) (Option.none : Option Jvm.ClassFile.FieldType)) ∈ nm_T := nm_tb 510 (by decide +kernel) (by decide +kernel)
theorem tw_515 : (Jvm.Cond.methodLink "RulePlate$Cell" (73 : Nat) ({ cls := "RulePlate$Cell", name := "hasLayer", desc := "(I)Z" } : Jvm.MethodName)) ∈ nm_T := nm_tb 515 (by decide +kernel) (by decide +kernel)
theorem tw_517 : (Jvm.Cond.instanceMethod ({ cls := "RulePlate$Cell", name := "hasLayer", desc := "(I)Z" } : Jvm.MethodName)) ∈ nm_T := nm_tb 517 (by decide +kernel) (by decide +kernel)
theorem tw_518 : (Jvm.Cond.code ({ cls := "RulePlate$Cell", name := "hasLayer", desc := "(I)Z" } : Jvm.MethodName) prog_3_method_7_code (3 : Nat) (Option.some Jvm.ClassFile.FieldType.boolean)) ∈ nm_T := nm_tb 518 (by decide +kernel) (by decide +kernel)
theorem tw_519 : (Jvm.Cond.methodLink "RulePlate$Cell" (77 : Nat) ({ cls := "java/lang/System", name := "arraycopy", desc := "(Ljava/lang/Object;ILjava/lang/Object;II)V" } : Jvm.MethodName)) ∈ nm_T := nm_tb 519 (by decide +kernel) (by decide +kernel)
theorem tw_522 : (Jvm.Cond.methodLink "RulePlate$Cell" (83 : Nat) ({ cls := "RulePlate$Put", name := "turn", desc := "([J)V" } : Jvm.MethodName)) ∈ nm_T := nm_tb 522 (by decide +kernel) (by decide +kernel)
theorem tw_523 : (Jvm.Cond.instanceMethod ({ cls := "RulePlate$Put", name := "turn", desc := "([J)V" } : Jvm.MethodName)) ∈ nm_T := nm_tb 523 (by decide +kernel) (by decide +kernel)
theorem tw_525 : (Jvm.Cond.code ({ cls := "RulePlate$Put", name := "turn", desc := "([J)V" } : Jvm.MethodName) prog_9_method_6_code (3 : Nat) (Option.none : Option Jvm.ClassFile.FieldType)) ∈ nm_T := nm_tb 525 (by decide +kernel) (by decide +kernel)
theorem tw_526 : (Jvm.Cond.methodLink "RulePlate$Put" (34 : Nat) ({ cls := "RulePlate$Put", name := "reverseRows", desc := "([J)V" } : Jvm.MethodName)) ∈ nm_T := nm_tb 526 (by decide +kernel) (by decide +kernel)
theorem tw_527 : (Jvm.Cond.static ({ cls := "RulePlate$Put", name := "reverseRows", desc := "([J)V" } : Jvm.MethodName)) ∈ nm_T := nm_tb 527 (by decide +kernel) (by decide +kernel)
theorem tw_528 : (Jvm.Cond.code ({ cls := "RulePlate$Put", name := "reverseRows", desc := "([J)V" } : Jvm.MethodName) prog_9_method_7_code (2 : Nat) (Option.none : Option Jvm.ClassFile.FieldType)) ∈ nm_T := nm_tb 528 (by decide +kernel) (by decide +kernel)
theorem tw_529 : (Jvm.Cond.methodLink "RulePlate$Put" (43 : Nat) ({ cls := "RulePlate$Bits", name := "reversed", desc := "(J)J" } : Jvm.MethodName)) ∈ nm_T := nm_tb 529 (by decide +kernel) (by decide +kernel)
theorem tw_530 : (Jvm.Cond.static ({ cls := "RulePlate$Bits", name := "reversed", desc := "(J)J" } : Jvm.MethodName)) ∈ nm_T := nm_tb 530 (by decide +kernel) (by decide +kernel)
theorem tw_531 : (Jvm.Cond.code ({ cls := "RulePlate$Bits", name := "reversed", desc := "(J)J" } : Jvm.MethodName) prog_2_method_8_code (4 : Nat) (Option.some Jvm.ClassFile.FieldType.long)) ∈ nm_T := nm_tb 531 (by decide +kernel) (by decide +kernel)
theorem tw_532 : (Jvm.Cond.constantLong "RulePlate$Bits" (22 : Nat) (6148914691236517205 : Int64)) ∈ nm_T := nm_tb 532 (by decide +kernel) (by decide +kernel)
theorem tw_533 : (Jvm.Cond.constantLong "RulePlate$Bits" (24 : Nat) (3689348814741910323 : Int64)) ∈ nm_T := nm_tb 533 (by decide +kernel) (by decide +kernel)
theorem tw_534 : (Jvm.Cond.constantLong "RulePlate$Bits" (26 : Nat) (1085102592571150095 : Int64)) ∈ nm_T := nm_tb 534 (by decide +kernel) (by decide +kernel)
theorem tw_535 : (Jvm.Cond.constantLong "RulePlate$Bits" (28 : Nat) (71777214294589695 : Int64)) ∈ nm_T := nm_tb 535 (by decide +kernel) (by decide +kernel)
theorem tw_536 : (Jvm.Cond.constantLong "RulePlate$Bits" (30 : Nat) (281470681808895 : Int64)) ∈ nm_T := nm_tb 536 (by decide +kernel) (by decide +kernel)
theorem tw_537 : (Jvm.Cond.methodLink "RulePlate$Put" (38 : Nat) ({ cls := "RulePlate$Bits", name := "transpose", desc := "([J)V" } : Jvm.MethodName)) ∈ nm_T := nm_tb 537 (by decide +kernel) (by decide +kernel)
theorem tw_538 : (Jvm.Cond.static ({ cls := "RulePlate$Bits", name := "transpose", desc := "([J)V" } : Jvm.MethodName)) ∈ nm_T := nm_tb 538 (by decide +kernel) (by decide +kernel)
theorem tw_539 : (Jvm.Cond.code ({ cls := "RulePlate$Bits", name := "transpose", desc := "([J)V" } : Jvm.MethodName) prog_2_method_9_code (7 : Nat) (Option.none : Option Jvm.ClassFile.FieldType)) ∈ nm_T := nm_tb 539 (by decide +kernel) (by decide +kernel)
theorem tw_540 : (Jvm.Cond.constantLong "RulePlate$Bits" (32 : Nat) (4294967295 : Int64)) ∈ nm_T := nm_tb 540 (by decide +kernel) (by decide +kernel)
theorem tw_541 : (Jvm.Cond.methodLink "RulePlate$Cell" (86 : Nat) ({ cls := "RulePlate$Cell", name := "bringMap", desc := "([JILRulePlate$Put;)V" } : Jvm.MethodName)) ∈ nm_T := nm_tb 541 (by decide +kernel) (by decide +kernel)
theorem tw_543 : (Jvm.Cond.instanceMethod ({ cls := "RulePlate$Cell", name := "bringMap", desc := "([JILRulePlate$Put;)V" } : Jvm.MethodName)) ∈ nm_T := nm_tb 543 (by decide +kernel) (by decide +kernel)
theorem tw_544 : (Jvm.Cond.code ({ cls := "RulePlate$Cell", name := "bringMap", desc := "([JILRulePlate$Put;)V" } : Jvm.MethodName) prog_3_method_9_code (8 : Nat) (Option.none : Option Jvm.ClassFile.FieldType)) ∈ nm_T := nm_tb 544 (by decide +kernel) (by decide +kernel)
theorem tw_545 : (Jvm.Cond.methodLink "RulePlate$Cell" (100 : Nat) ({ cls := "RulePlate$Put", name := "turnedX", desc := "(II)I" } : Jvm.MethodName)) ∈ nm_T := nm_tb 545 (by decide +kernel) (by decide +kernel)
theorem tw_546 : (Jvm.Cond.instanceMethod ({ cls := "RulePlate$Put", name := "turnedX", desc := "(II)I" } : Jvm.MethodName)) ∈ nm_T := nm_tb 546 (by decide +kernel) (by decide +kernel)
theorem tw_548 : (Jvm.Cond.code ({ cls := "RulePlate$Put", name := "turnedX", desc := "(II)I" } : Jvm.MethodName) prog_9_method_8_code (4 : Nat) (Option.some Jvm.ClassFile.FieldType.int)) ∈ nm_T := nm_tb 548 (by decide +kernel) (by decide +kernel)
theorem tw_549 : (Jvm.Cond.methodLink "RulePlate$Cell" (104 : Nat) ({ cls := "java/lang/Math", name := "min", desc := "(II)I" } : Jvm.MethodName)) ∈ nm_T := nm_tb 549 (by decide +kernel) (by decide +kernel)
theorem tw_550 : (Jvm.Cond.methodLink "RulePlate$Cell" (109 : Nat) ({ cls := "RulePlate$Put", name := "turnedY", desc := "(II)I" } : Jvm.MethodName)) ∈ nm_T := nm_tb 550 (by decide +kernel) (by decide +kernel)
theorem tw_551 : (Jvm.Cond.instanceMethod ({ cls := "RulePlate$Put", name := "turnedY", desc := "(II)I" } : Jvm.MethodName)) ∈ nm_T := nm_tb 551 (by decide +kernel) (by decide +kernel)
theorem tw_553 : (Jvm.Cond.code ({ cls := "RulePlate$Put", name := "turnedY", desc := "(II)I" } : Jvm.MethodName) prog_9_method_9_code (4 : Nat) (Option.some Jvm.ClassFile.FieldType.int)) ∈ nm_T := nm_tb 553 (by decide +kernel) (by decide +kernel)
theorem tw_554 : (Jvm.Cond.methodLink "RulePlate$Cell" (112 : Nat) ({ cls := "RulePlate$Put", name := "xOf", desc := "(I)I" } : Jvm.MethodName)) ∈ nm_T := nm_tb 554 (by decide +kernel) (by decide +kernel)
theorem tw_555 : (Jvm.Cond.instanceMethod ({ cls := "RulePlate$Put", name := "xOf", desc := "(I)I" } : Jvm.MethodName)) ∈ nm_T := nm_tb 555 (by decide +kernel) (by decide +kernel)
theorem tw_557 : (Jvm.Cond.code ({ cls := "RulePlate$Put", name := "xOf", desc := "(I)I" } : Jvm.MethodName) prog_9_method_4_code (2 : Nat) (Option.some Jvm.ClassFile.FieldType.int)) ∈ nm_T := nm_tb 557 (by decide +kernel) (by decide +kernel)
theorem tw_558 : (Jvm.Cond.methodLink "RulePlate$Cell" (116 : Nat) ({ cls := "RulePlate$Put", name := "yOf", desc := "(I)I" } : Jvm.MethodName)) ∈ nm_T := nm_tb 558 (by decide +kernel) (by decide +kernel)
theorem tw_559 : (Jvm.Cond.instanceMethod ({ cls := "RulePlate$Put", name := "yOf", desc := "(I)I" } : Jvm.MethodName)) ∈ nm_T := nm_tb 559 (by decide +kernel) (by decide +kernel)
theorem tw_561 : (Jvm.Cond.code ({ cls := "RulePlate$Put", name := "yOf", desc := "(I)I" } : Jvm.MethodName) prog_9_method_5_code (2 : Nat) (Option.some Jvm.ClassFile.FieldType.int)) ∈ nm_T := nm_tb 561 (by decide +kernel) (by decide +kernel)
theorem tw_562 : (Jvm.Cond.methodLink "RulePlate$Cell" (119 : Nat) ({ cls := "RulePlate$Cell", name := "addMap", desc := "([JIII)V" } : Jvm.MethodName)) ∈ nm_T := nm_tb 562 (by decide +kernel) (by decide +kernel)
theorem tw_564 : (Jvm.Cond.instanceMethod ({ cls := "RulePlate$Cell", name := "addMap", desc := "([JIII)V" } : Jvm.MethodName)) ∈ nm_T := nm_tb 564 (by decide +kernel) (by decide +kernel)
theorem tw_565 : (Jvm.Cond.code ({ cls := "RulePlate$Cell", name := "addMap", desc := "([JIII)V" } : Jvm.MethodName) prog_3_method_10_code (6 : Nat) (Option.none : Option Jvm.ClassFile.FieldType)) ∈ nm_T := nm_tb 565 (by decide +kernel) (by decide +kernel)
theorem tw_566 : (Jvm.Cond.methodLink "RulePlate$Cell" (123 : Nat) ({ cls := "java/lang/Math", name := "max", desc := "(II)I" } : Jvm.MethodName)) ∈ nm_T := nm_tb 566 (by decide +kernel) (by decide +kernel)
theorem tw_567 : (Jvm.Cond.methodLink "RulePlate$Cell" (126 : Nat) ({ cls := "RulePlate$Bits", name := "moved", desc := "(JI)J" } : Jvm.MethodName)) ∈ nm_T := nm_tb 567 (by decide +kernel) (by decide +kernel)
theorem tw_568 : (Jvm.Cond.static ({ cls := "RulePlate$Bits", name := "moved", desc := "(JI)J" } : Jvm.MethodName)) ∈ nm_T := nm_tb 568 (by decide +kernel) (by decide +kernel)
theorem tw_569 : (Jvm.Cond.code ({ cls := "RulePlate$Bits", name := "moved", desc := "(JI)J" } : Jvm.MethodName) prog_2_method_6_code (3 : Nat) (Option.some Jvm.ClassFile.FieldType.long)) ∈ nm_T := nm_tb 569 (by decide +kernel) (by decide +kernel)
theorem tw_570 : (Jvm.Cond.methodLink "RulePlate$Cell" (96 : Nat) ({ cls := "RulePlate$Cell", name := "bringTexts", desc := "(LRulePlate$Cell;LRulePlate$Put;II)V" } : Jvm.MethodName)) ∈ nm_T := nm_tb 570 (by decide +kernel) (by decide +kernel)
theorem tw_572 : (Jvm.Cond.instanceMethod ({ cls := "RulePlate$Cell", name := "bringTexts", desc := "(LRulePlate$Cell;LRulePlate$Put;II)V" } : Jvm.MethodName)) ∈ nm_T := nm_tb 572 (by decide +kernel) (by decide +kernel)
theorem tw_573 : (Jvm.Cond.code ({ cls := "RulePlate$Cell", name := "bringTexts", desc := "(LRulePlate$Cell;LRulePlate$Put;II)V" } : Jvm.MethodName) prog_3_method_11_code (10 : Nat) (Option.none : Option Jvm.ClassFile.FieldType)) ∈ nm_T := nm_tb 573 (by decide +kernel) (by decide +kernel)
theorem tw_574 : (Jvm.Cond.methodLink "RulePlate$Cell" (132 : Nat) ({ cls := "RulePlate$Label", name := "squareOf", desc := "(I)I" } : Jvm.MethodName)) ∈ nm_T := nm_tb 574 (by decide +kernel) (by decide +kernel)
theorem tw_575 : (Jvm.Cond.static ({ cls := "RulePlate$Label", name := "squareOf", desc := "(I)I" } : Jvm.MethodName)) ∈ nm_T := nm_tb 575 (by decide +kernel) (by decide +kernel)
theorem tw_576 : (Jvm.Cond.code ({ cls := "RulePlate$Label", name := "squareOf", desc := "(I)I" } : Jvm.MethodName) prog_7_method_4_code (1 : Nat) (Option.some Jvm.ClassFile.FieldType.int)) ∈ nm_T := nm_tb 576 (by decide +kernel) (by decide +kernel)
theorem tw_578 : (Jvm.Cond.methodLink "RulePlate$Cell" (139 : Nat) ({ cls := "RulePlate$Label", name := "layerOf", desc := "(I)I" } : Jvm.MethodName)) ∈ nm_T := nm_tb 578 (by decide +kernel) (by decide +kernel)
theorem tw_579 : (Jvm.Cond.static ({ cls := "RulePlate$Label", name := "layerOf", desc := "(I)I" } : Jvm.MethodName)) ∈ nm_T := nm_tb 579 (by decide +kernel) (by decide +kernel)
theorem tw_580 : (Jvm.Cond.code ({ cls := "RulePlate$Label", name := "layerOf", desc := "(I)I" } : Jvm.MethodName) prog_7_method_3_code (1 : Nat) (Option.some Jvm.ClassFile.FieldType.int)) ∈ nm_T := nm_tb 580 (by decide +kernel) (by decide +kernel)
theorem tw_581 : (Jvm.Cond.methodLink "RulePlate$Cell" (142 : Nat) ({ cls := "RulePlate$Label", name := "nameOf", desc := "(I)I" } : Jvm.MethodName)) ∈ nm_T := nm_tb 581 (by decide +kernel) (by decide +kernel)
theorem tw_582 : (Jvm.Cond.static ({ cls := "RulePlate$Label", name := "nameOf", desc := "(I)I" } : Jvm.MethodName)) ∈ nm_T := nm_tb 582 (by decide +kernel) (by decide +kernel)
theorem tw_583 : (Jvm.Cond.code ({ cls := "RulePlate$Label", name := "nameOf", desc := "(I)I" } : Jvm.MethodName) prog_7_method_5_code (1 : Nat) (Option.some Jvm.ClassFile.FieldType.int)) ∈ nm_T := nm_tb 583 (by decide +kernel) (by decide +kernel)
theorem tw_584 : (Jvm.Cond.methodLink "RulePlate$Cell" (145 : Nat) ({ cls := "RulePlate$Label", name := "pack", desc := "(III)I" } : Jvm.MethodName)) ∈ nm_T := nm_tb 584 (by decide +kernel) (by decide +kernel)
theorem tw_595 : (Jvm.Cond.static ({ cls := "RulePlate$Bits", name := "spread", desc := "([JI[JIIZ)V" } : Jvm.MethodName)) ∈ nm_T := nm_tb 595 (by decide +kernel) (by decide +kernel)
theorem tw_596 : (Jvm.Cond.code ({ cls := "RulePlate$Bits", name := "spread", desc := "([JI[JIIZ)V" } : Jvm.MethodName) prog_2_method_10_code (14 : Nat) (Option.none : Option Jvm.ClassFile.FieldType)) ∈ nm_T := nm_tb 596 (by decide +kernel) (by decide +kernel)
theorem tw_606 : (Jvm.Cond.methodLink "RulePlate$Groups" (56 : Nat) ({ cls := "RulePlate$Bits", name := "heads", desc := "(J)J" } : Jvm.MethodName)) ∈ nm_T := nm_tb 606 (by decide +kernel) (by decide +kernel)
theorem tw_607 : (Jvm.Cond.static ({ cls := "RulePlate$Bits", name := "heads", desc := "(J)J" } : Jvm.MethodName)) ∈ nm_T := nm_tb 607 (by decide +kernel) (by decide +kernel)
theorem tw_608 : (Jvm.Cond.code ({ cls := "RulePlate$Bits", name := "heads", desc := "(J)J" } : Jvm.MethodName) prog_2_method_3_code (2 : Nat) (Option.some Jvm.ClassFile.FieldType.long)) ∈ nm_T := nm_tb 608 (by decide +kernel) (by decide +kernel)
theorem tw_609 : (Jvm.Cond.methodLink "RulePlate$Groups" (62 : Nat) ({ cls := "java/lang/Long", name := "bitCount", desc := "(J)I" } : Jvm.MethodName)) ∈ nm_T := nm_tb 609 (by decide +kernel) (by decide +kernel)
theorem tw_610 : (Jvm.Cond.static ({ cls := "java/lang/Long", name := "bitCount", desc := "(J)I" } : Jvm.MethodName)) ∈ nm_T := nm_tb 610 (by decide +kernel) (by decide +kernel)
theorem tw_611 : (Jvm.Cond.code ({ cls := "java/lang/Long", name := "bitCount", desc := "(J)I" } : Jvm.MethodName) prog_15_method_50_code (2 : Nat) (Option.some Jvm.ClassFile.FieldType.int)) ∈ nm_T := nm_tb 611 (by decide +kernel) (by decide +kernel)
theorem tw_612 : (Jvm.Cond.constantLong "java/lang/Long" (314 : Nat) (6148914691236517205 : Int64)) ∈ nm_T := nm_tb 612 (by decide +kernel) (by decide +kernel)
theorem tw_613 : (Jvm.Cond.constantLong "java/lang/Long" (316 : Nat) (3689348814741910323 : Int64)) ∈ nm_T := nm_tb 613 (by decide +kernel) (by decide +kernel)
theorem tw_614 : (Jvm.Cond.constantLong "java/lang/Long" (318 : Nat) (1085102592571150095 : Int64)) ∈ nm_T := nm_tb 614 (by decide +kernel) (by decide +kernel)
theorem tw_620 : (Jvm.Cond.instanceMethod ({ cls := "RulePlate$Groups", name := "unite", desc := "(IIJ)V" } : Jvm.MethodName)) ∈ nm_T := nm_tb 620 (by decide +kernel) (by decide +kernel)
theorem tw_622 : (Jvm.Cond.code ({ cls := "RulePlate$Groups", name := "unite", desc := "(IIJ)V" } : Jvm.MethodName) prog_6_method_5_code (12 : Nat) (Option.none : Option Jvm.ClassFile.FieldType)) ∈ nm_T := nm_tb 622 (by decide +kernel) (by decide +kernel)
theorem tw_623 : (Jvm.Cond.methodLink "RulePlate$Groups" (76 : Nat) ({ cls := "RulePlate$Bits", name := "lowest", desc := "(J)I" } : Jvm.MethodName)) ∈ nm_T := nm_tb 623 (by decide +kernel) (by decide +kernel)
theorem tw_624 : (Jvm.Cond.static ({ cls := "RulePlate$Bits", name := "lowest", desc := "(J)I" } : Jvm.MethodName)) ∈ nm_T := nm_tb 624 (by decide +kernel) (by decide +kernel)
theorem tw_625 : (Jvm.Cond.code ({ cls := "RulePlate$Bits", name := "lowest", desc := "(J)I" } : Jvm.MethodName) prog_2_method_4_code (2 : Nat) (Option.some Jvm.ClassFile.FieldType.int)) ∈ nm_T := nm_tb 625 (by decide +kernel) (by decide +kernel)
theorem tw_626 : (Jvm.Cond.methodLink "RulePlate$Bits" (11 : Nat) ({ cls := "java/lang/Long", name := "bitCount", desc := "(J)I" } : Jvm.MethodName)) ∈ nm_T := nm_tb 626 (by decide +kernel) (by decide +kernel)
theorem tw_627 : (Jvm.Cond.methodLink "RulePlate$Groups" (79 : Nat) ({ cls := "RulePlate$Groups", name := "stretchAt", desc := "(II)I" } : Jvm.MethodName)) ∈ nm_T := nm_tb 627 (by decide +kernel) (by decide +kernel)
theorem tw_629 : (Jvm.Cond.instanceMethod ({ cls := "RulePlate$Groups", name := "stretchAt", desc := "(II)I" } : Jvm.MethodName)) ∈ nm_T := nm_tb 629 (by decide +kernel) (by decide +kernel)
theorem tw_630 : (Jvm.Cond.code ({ cls := "RulePlate$Groups", name := "stretchAt", desc := "(II)I" } : Jvm.MethodName) prog_6_method_6_code (5 : Nat) (Option.some Jvm.ClassFile.FieldType.int)) ∈ nm_T := nm_tb 630 (by decide +kernel) (by decide +kernel)
theorem tw_631 : (Jvm.Cond.constantLong "RulePlate$Groups" (95 : Nat) (-1 : Int64)) ∈ nm_T := nm_tb 631 (by decide +kernel) (by decide +kernel)
theorem tw_632 : (Jvm.Cond.methodLink "RulePlate$Groups" (83 : Nat) ({ cls := "RulePlate$Groups", name := "root", desc := "(I)I" } : Jvm.MethodName)) ∈ nm_T := nm_tb 632 (by decide +kernel) (by decide +kernel)
theorem tw_634 : (Jvm.Cond.instanceMethod ({ cls := "RulePlate$Groups", name := "root", desc := "(I)I" } : Jvm.MethodName)) ∈ nm_T := nm_tb 634 (by decide +kernel) (by decide +kernel)
theorem tw_635 : (Jvm.Cond.code ({ cls := "RulePlate$Groups", name := "root", desc := "(I)I" } : Jvm.MethodName) prog_6_method_7_code (4 : Nat) (Option.some Jvm.ClassFile.FieldType.int)) ∈ nm_T := nm_tb 635 (by decide +kernel) (by decide +kernel)
theorem tw_636 : (Jvm.Cond.methodLink "RulePlate$Groups" (87 : Nat) ({ cls := "java/lang/Math", name := "max", desc := "(II)I" } : Jvm.MethodName)) ∈ nm_T := nm_tb 636 (by decide +kernel) (by decide +kernel)
theorem tw_637 : (Jvm.Cond.methodLink "RulePlate$Groups" (92 : Nat) ({ cls := "java/lang/Math", name := "min", desc := "(II)I" } : Jvm.MethodName)) ∈ nm_T := nm_tb 637 (by decide +kernel) (by decide +kernel)
theorem tw_647 : (Jvm.Cond.methodLink "RulePlate$Groups" (103 : Nat) ({ cls := "RulePlate$Bits", name := "stretch", desc := "(JI)I" } : Jvm.MethodName)) ∈ nm_T := nm_tb 647 (by decide +kernel) (by decide +kernel)
theorem tw_648 : (Jvm.Cond.static ({ cls := "RulePlate$Bits", name := "stretch", desc := "(JI)I" } : Jvm.MethodName)) ∈ nm_T := nm_tb 648 (by decide +kernel) (by decide +kernel)
theorem tw_649 : (Jvm.Cond.code ({ cls := "RulePlate$Bits", name := "stretch", desc := "(JI)I" } : Jvm.MethodName) prog_2_method_5_code (3 : Nat) (Option.some Jvm.ClassFile.FieldType.int)) ∈ nm_T := nm_tb 649 (by decide +kernel) (by decide +kernel)
theorem tw_650 : (Jvm.Cond.methodLink "RulePlate$Bits" (17 : Nat) ({ cls := "RulePlate$Bits", name := "lowest", desc := "(J)I" } : Jvm.MethodName)) ∈ nm_T := nm_tb 650 (by decide +kernel) (by decide +kernel)
theorem tw_663 : (Jvm.Cond.methodLink "RulePlate$Groups" (111 : Nat) ({ cls := "RulePlate$Bits", name := "span", desc := "(II)J" } : Jvm.MethodName)) ∈ nm_T := nm_tb 663 (by decide +kernel) (by decide +kernel)
theorem tw_667 : (Jvm.Cond.constantLong "RulePlate$Drawing" (91 : Nat) (-1 : Int64)) ∈ nm_T := nm_tb 667 (by decide +kernel) (by decide +kernel)
theorem tw_669 : (Jvm.Cond.instanceMethod ({ cls := "RulePlate$Drawing", name := "squaresOf", desc := "(I)I" } : Jvm.MethodName)) ∈ nm_T := nm_tb 669 (by decide +kernel) (by decide +kernel)
theorem tw_671 : (Jvm.Cond.code ({ cls := "RulePlate$Drawing", name := "squaresOf", desc := "(I)I" } : Jvm.MethodName) prog_5_method_6_code (4 : Nat) (Option.some Jvm.ClassFile.FieldType.int)) ∈ nm_T := nm_tb 671 (by decide +kernel) (by decide +kernel)
theorem tw_672 : (Jvm.Cond.methodLink "RulePlate$Drawing" (93 : Nat) ({ cls := "java/lang/Long", name := "bitCount", desc := "(J)I" } : Jvm.MethodName)) ∈ nm_T := nm_tb 672 (by decide +kernel) (by decide +kernel)
theorem tw_677 : (Jvm.Cond.methodLink "RulePlate" (156 : Nat) ({ cls := "RulePlate$Drawing", name := "squaresOf", desc := "(I)I" } : Jvm.MethodName)) ∈ nm_T := nm_tb 677 (by decide +kernel) (by decide +kernel)
theorem tw_694 : (Jvm.Cond.methodLink "RulePlate" (172 : Nat) ({ cls := "RulePlate$RuleBook", name := "greatest", desc := "(I)I" } : Jvm.MethodName)) ∈ nm_T := nm_tb 694 (by decide +kernel) (by decide +kernel)
theorem tw_695 : (Jvm.Cond.static ({ cls := "RulePlate$RuleBook", name := "greatest", desc := "(I)I" } : Jvm.MethodName)) ∈ nm_T := nm_tb 695 (by decide +kernel) (by decide +kernel)
theorem tw_696 : (Jvm.Cond.code ({ cls := "RulePlate$RuleBook", name := "greatest", desc := "(I)I" } : Jvm.MethodName) prog_10_method_2_code (1 : Nat) (Option.some Jvm.ClassFile.FieldType.int)) ∈ nm_T := nm_tb 696 (by decide +kernel) (by decide +kernel)
theorem tw_697 : (Jvm.Cond.methodLink "RulePlate" (176 : Nat) ({ cls := "RulePlate$RuleBook", name := "add", desc := "(IIII)I" } : Jvm.MethodName)) ∈ nm_T := nm_tb 697 (by decide +kernel) (by decide +kernel)
theorem tw_698 : (Jvm.Cond.instanceMethod ({ cls := "RulePlate$RuleBook", name := "add", desc := "(IIII)I" } : Jvm.MethodName)) ∈ nm_T := nm_tb 698 (by decide +kernel) (by decide +kernel)
theorem tw_700 : (Jvm.Cond.code ({ cls := "RulePlate$RuleBook", name := "add", desc := "(IIII)I" } : Jvm.MethodName) prog_10_method_3_code (5 : Nat) (Option.some Jvm.ClassFile.FieldType.int)) ∈ nm_T := nm_tb 700 (by decide +kernel) (by decide +kernel)
theorem tw_715 : (Jvm.Cond.methodLink "RulePlate$RuleBook" (121 : Nat) ({ cls := "RulePlate$Bits", name := "spread", desc := "([JI[JIIZ)V" } : Jvm.MethodName)) ∈ nm_T := nm_tb 715 (by decide +kernel) (by decide +kernel)
theorem tw_716 : (Jvm.Cond.constantLong "RulePlate$RuleBook" (125 : Nat) (-1 : Int64)) ∈ nm_T := nm_tb 716 (by decide +kernel) (by decide +kernel)
theorem tw_717 : (Jvm.Cond.methodLink "RulePlate$RuleBook" (104 : Nat) ({ cls := "java/lang/Long", name := "bitCount", desc := "(J)I" } : Jvm.MethodName)) ∈ nm_T := nm_tb 717 (by decide +kernel) (by decide +kernel)
theorem tw_718 : (Jvm.Cond.methodLink "RulePlate$RuleBook" (110 : Nat) ({ cls := "RulePlate$Bits", name := "lowest", desc := "(J)I" } : Jvm.MethodName)) ∈ nm_T := nm_tb 718 (by decide +kernel) (by decide +kernel)
theorem tw_719 : (Jvm.Cond.methodLink "RulePlate$RuleBook" (127 : Nat) ({ cls := "RulePlate$RuleBook", name := "leastLacking", desc := "([JIII)I" } : Jvm.MethodName)) ∈ nm_T := nm_tb 719 (by decide +kernel) (by decide +kernel)
theorem tw_720 : (Jvm.Cond.static ({ cls := "RulePlate$RuleBook", name := "leastLacking", desc := "([JIII)I" } : Jvm.MethodName)) ∈ nm_T := nm_tb 720 (by decide +kernel) (by decide +kernel)
theorem tw_721 : (Jvm.Cond.code ({ cls := "RulePlate$RuleBook", name := "leastLacking", desc := "([JIII)I" } : Jvm.MethodName) prog_10_method_9_code (12 : Nat) (Option.some Jvm.ClassFile.FieldType.int)) ∈ nm_T := nm_tb 721 (by decide +kernel) (by decide +kernel)
theorem tw_722 : (Jvm.Cond.methodLink "RulePlate$RuleBook" (131 : Nat) ({ cls := "java/lang/Math", name := "max", desc := "(II)I" } : Jvm.MethodName)) ∈ nm_T := nm_tb 722 (by decide +kernel) (by decide +kernel)
theorem tw_723 : (Jvm.Cond.methodLink "RulePlate$RuleBook" (137 : Nat) ({ cls := "java/lang/Math", name := "min", desc := "(II)I" } : Jvm.MethodName)) ∈ nm_T := nm_tb 723 (by decide +kernel) (by decide +kernel)
theorem tw_724 : (Jvm.Cond.methodLink "RulePlate$RuleBook" (140 : Nat) ({ cls := "RulePlate$Bits", name := "span", desc := "(II)J" } : Jvm.MethodName)) ∈ nm_T := nm_tb 724 (by decide +kernel) (by decide +kernel)
theorem tw_725 : (Jvm.Cond.methodLink "RulePlate$RuleBook" (117 : Nat) ({ cls := "RulePlate$RuleBook", name := "note", desc := "(IIII)V" } : Jvm.MethodName)) ∈ nm_T := nm_tb 725 (by decide +kernel) (by decide +kernel)
theorem tw_727 : (Jvm.Cond.instanceMethod ({ cls := "RulePlate$RuleBook", name := "note", desc := "(IIII)V" } : Jvm.MethodName)) ∈ nm_T := nm_tb 727 (by decide +kernel) (by decide +kernel)
theorem tw_728 : (Jvm.Cond.code ({ cls := "RulePlate$RuleBook", name := "note", desc := "(IIII)V" } : Jvm.MethodName) prog_10_method_5_code (5 : Nat) (Option.none : Option Jvm.ClassFile.FieldType)) ∈ nm_T := nm_tb 728 (by decide +kernel) (by decide +kernel)
theorem tw_742 : (Jvm.Cond.methodLink "RulePlate$RuleBook" (83 : Nat) ({ cls := "java/lang/System", name := "arraycopy", desc := "(Ljava/lang/Object;ILjava/lang/Object;II)V" } : Jvm.MethodName)) ∈ nm_T := nm_tb 742 (by decide +kernel) (by decide +kernel)
theorem tw_743 : (Jvm.Cond.methodLink "RulePlate$RuleBook" (89 : Nat) ({ cls := "RulePlate$RuleBook", name := "holdMap", desc := "(III)V" } : Jvm.MethodName)) ∈ nm_T := nm_tb 743 (by decide +kernel) (by decide +kernel)
theorem tw_745 : (Jvm.Cond.instanceMethod ({ cls := "RulePlate$RuleBook", name := "holdMap", desc := "(III)V" } : Jvm.MethodName)) ∈ nm_T := nm_tb 745 (by decide +kernel) (by decide +kernel)
theorem tw_746 : (Jvm.Cond.code ({ cls := "RulePlate$RuleBook", name := "holdMap", desc := "(III)V" } : Jvm.MethodName) prog_10_method_7_code (14 : Nat) (Option.none : Option Jvm.ClassFile.FieldType)) ∈ nm_T := nm_tb 746 (by decide +kernel) (by decide +kernel)
theorem tw_747 : (Jvm.Cond.methodLink "RulePlate$RuleBook" (97 : Nat) ({ cls := "RulePlate$Bits", name := "gaps", desc := "(J)J" } : Jvm.MethodName)) ∈ nm_T := nm_tb 747 (by decide +kernel) (by decide +kernel)
theorem tw_748 : (Jvm.Cond.static ({ cls := "RulePlate$Bits", name := "gaps", desc := "(J)J" } : Jvm.MethodName)) ∈ nm_T := nm_tb 748 (by decide +kernel) (by decide +kernel)
theorem tw_749 : (Jvm.Cond.code ({ cls := "RulePlate$Bits", name := "gaps", desc := "(J)J" } : Jvm.MethodName) prog_2_method_7_code (7 : Nat) (Option.some Jvm.ClassFile.FieldType.long)) ∈ nm_T := nm_tb 749 (by decide +kernel) (by decide +kernel)
theorem tw_750 : (Jvm.Cond.methodLink "RulePlate$RuleBook" (101 : Nat) ({ cls := "RulePlate$Bits", name := "heads", desc := "(J)J" } : Jvm.MethodName)) ∈ nm_T := nm_tb 750 (by decide +kernel) (by decide +kernel)
theorem tw_751 : (Jvm.Cond.methodLink "RulePlate$RuleBook" (113 : Nat) ({ cls := "RulePlate$Bits", name := "stretch", desc := "(JI)I" } : Jvm.MethodName)) ∈ nm_T := nm_tb 751 (by decide +kernel) (by decide +kernel)
theorem tw_752 : (Jvm.Cond.methodLink "RulePlate$RuleBook" (93 : Nat) ({ cls := "RulePlate$Bits", name := "transpose", desc := "([J)V" } : Jvm.MethodName)) ∈ nm_T := nm_tb 752 (by decide +kernel) (by decide +kernel)
theorem tw_769 : (Jvm.Cond.methodLink "RulePlate" (202 : Nat) ({ cls := "RulePlate$Circuit", name := "addJoint", desc := "(III)I" } : Jvm.MethodName)) ∈ nm_T := nm_tb 769 (by decide +kernel) (by decide +kernel)
theorem tw_770 : (Jvm.Cond.instanceMethod ({ cls := "RulePlate$Circuit", name := "addJoint", desc := "(III)I" } : Jvm.MethodName)) ∈ nm_T := nm_tb 770 (by decide +kernel) (by decide +kernel)
theorem tw_772 : (Jvm.Cond.code ({ cls := "RulePlate$Circuit", name := "addJoint", desc := "(III)I" } : Jvm.MethodName) prog_4_method_2_code (4 : Nat) (Option.some Jvm.ClassFile.FieldType.int)) ∈ nm_T := nm_tb 772 (by decide +kernel) (by decide +kernel)
theorem tw_777 : (Jvm.Cond.methodLink "RulePlate" (206 : Nat) ({ cls := "RulePlate$Circuit", name := "tellGates", desc := "(III)V" } : Jvm.MethodName)) ∈ nm_T := nm_tb 777 (by decide +kernel) (by decide +kernel)
theorem tw_778 : (Jvm.Cond.instanceMethod ({ cls := "RulePlate$Circuit", name := "tellGates", desc := "(III)V" } : Jvm.MethodName)) ∈ nm_T := nm_tb 778 (by decide +kernel) (by decide +kernel)
theorem tw_780 : (Jvm.Cond.code ({ cls := "RulePlate$Circuit", name := "tellGates", desc := "(III)V" } : Jvm.MethodName) prog_4_method_3_code (4 : Nat) (Option.none : Option Jvm.ClassFile.FieldType)) ∈ nm_T := nm_tb 780 (by decide +kernel) (by decide +kernel)
theorem tw_800 : (Jvm.Cond.methodLink "RulePlate$Circuit" (91 : Nat) ({ cls := "RulePlate$Groups", name := "unite", desc := "(IIJ)V" } : Jvm.MethodName)) ∈ nm_T := nm_tb 800 (by decide +kernel) (by decide +kernel)
theorem tw_811 : (Jvm.Cond.methodLink "RulePlate$Circuit" (111 : Nat) ({ cls := "RulePlate$Circuit", name := "netAt", desc := "(II)I" } : Jvm.MethodName)) ∈ nm_T := nm_tb 811 (by decide +kernel) (by decide +kernel)
theorem tw_812 : (Jvm.Cond.instanceMethod ({ cls := "RulePlate$Circuit", name := "netAt", desc := "(II)I" } : Jvm.MethodName)) ∈ nm_T := nm_tb 812 (by decide +kernel) (by decide +kernel)
theorem tw_814 : (Jvm.Cond.code ({ cls := "RulePlate$Circuit", name := "netAt", desc := "(II)I" } : Jvm.MethodName) prog_4_method_12_code (3 : Nat) (Option.some Jvm.ClassFile.FieldType.int)) ∈ nm_T := nm_tb 814 (by decide +kernel) (by decide +kernel)
theorem tw_815 : (Jvm.Cond.methodLink "RulePlate$Circuit" (131 : Nat) ({ cls := "RulePlate$Groups", name := "groupAt", desc := "(II)I" } : Jvm.MethodName)) ∈ nm_T := nm_tb 815 (by decide +kernel) (by decide +kernel)
theorem tw_816 : (Jvm.Cond.instanceMethod ({ cls := "RulePlate$Groups", name := "groupAt", desc := "(II)I" } : Jvm.MethodName)) ∈ nm_T := nm_tb 816 (by decide +kernel) (by decide +kernel)
theorem tw_818 : (Jvm.Cond.code ({ cls := "RulePlate$Groups", name := "groupAt", desc := "(II)I" } : Jvm.MethodName) prog_6_method_11_code (3 : Nat) (Option.some Jvm.ClassFile.FieldType.int)) ∈ nm_T := nm_tb 818 (by decide +kernel) (by decide +kernel)
theorem tw_823 : (Jvm.Cond.methodLink "RulePlate$Circuit" (118 : Nat) ({ cls := "RulePlate$Bits", name := "heads", desc := "(J)J" } : Jvm.MethodName)) ∈ nm_T := nm_tb 823 (by decide +kernel) (by decide +kernel)
theorem tw_824 : (Jvm.Cond.methodLink "RulePlate$Circuit" (122 : Nat) ({ cls := "java/lang/Long", name := "bitCount", desc := "(J)I" } : Jvm.MethodName)) ∈ nm_T := nm_tb 824 (by decide +kernel) (by decide +kernel)
theorem tw_825 : (Jvm.Cond.methodLink "RulePlate$Circuit" (128 : Nat) ({ cls := "RulePlate$Bits", name := "lowest", desc := "(J)I" } : Jvm.MethodName)) ∈ nm_T := nm_tb 825 (by decide +kernel) (by decide +kernel)
theorem tw_826 : (Jvm.Cond.methodLink "RulePlate$Circuit" (134 : Nat) ({ cls := "RulePlate$Bits", name := "stretch", desc := "(JI)I" } : Jvm.MethodName)) ∈ nm_T := nm_tb 826 (by decide +kernel) (by decide +kernel)
theorem tw_827 : (Jvm.Cond.methodLink "RulePlate$Circuit" (138 : Nat) ({ cls := "RulePlate$Bits", name := "span", desc := "(II)J" } : Jvm.MethodName)) ∈ nm_T := nm_tb 827 (by decide +kernel) (by decide +kernel)
theorem tw_828 : (Jvm.Cond.methodLink "RulePlate$Circuit" (142 : Nat) ({ cls := "RulePlate$Circuit", name := "meet", desc := "(IIJ)V" } : Jvm.MethodName)) ∈ nm_T := nm_tb 828 (by decide +kernel) (by decide +kernel)
theorem tw_830 : (Jvm.Cond.instanceMethod ({ cls := "RulePlate$Circuit", name := "meet", desc := "(IIJ)V" } : Jvm.MethodName)) ∈ nm_T := nm_tb 830 (by decide +kernel) (by decide +kernel)
theorem tw_831 : (Jvm.Cond.code ({ cls := "RulePlate$Circuit", name := "meet", desc := "(IIJ)V" } : Jvm.MethodName) prog_4_method_9_code (10 : Nat) (Option.none : Option Jvm.ClassFile.FieldType)) ∈ nm_T := nm_tb 831 (by decide +kernel) (by decide +kernel)
theorem tw_833 : (Jvm.Cond.methodLink "RulePlate$Circuit" (149 : Nat) ({ cls := "RulePlate$Circuit", name := "addEnd", desc := "(II)V" } : Jvm.MethodName)) ∈ nm_T := nm_tb 833 (by decide +kernel) (by decide +kernel)
theorem tw_835 : (Jvm.Cond.instanceMethod ({ cls := "RulePlate$Circuit", name := "addEnd", desc := "(II)V" } : Jvm.MethodName)) ∈ nm_T := nm_tb 835 (by decide +kernel) (by decide +kernel)
theorem tw_836 : (Jvm.Cond.code ({ cls := "RulePlate$Circuit", name := "addEnd", desc := "(II)V" } : Jvm.MethodName) prog_4_method_10_code (5 : Nat) (Option.none : Option Jvm.ClassFile.FieldType)) ∈ nm_T := nm_tb 836 (by decide +kernel) (by decide +kernel)
theorem tw_841 : (Jvm.Cond.methodLink "RulePlate" (224 : Nat) ({ cls := "RulePlate$Circuit", name := "conducted", desc := "(I)Z" } : Jvm.MethodName)) ∈ nm_T := nm_tb 841 (by decide +kernel) (by decide +kernel)
theorem tw_842 : (Jvm.Cond.instanceMethod ({ cls := "RulePlate$Circuit", name := "conducted", desc := "(I)Z" } : Jvm.MethodName)) ∈ nm_T := nm_tb 842 (by decide +kernel) (by decide +kernel)
theorem tw_844 : (Jvm.Cond.code ({ cls := "RulePlate$Circuit", name := "conducted", desc := "(I)Z" } : Jvm.MethodName) prog_4_method_11_code (2 : Nat) (Option.some Jvm.ClassFile.FieldType.boolean)) ∈ nm_T := nm_tb 844 (by decide +kernel) (by decide +kernel)
theorem tw_845 : (Jvm.Cond.methodLink "RulePlate" (227 : Nat) ({ cls := "RulePlate$Circuit", name := "netAt", desc := "(II)I" } : Jvm.MethodName)) ∈ nm_T := nm_tb 845 (by decide +kernel) (by decide +kernel)
theorem tw_850 : (Jvm.Cond.methodLink "RulePlate" (230 : Nat) ({ cls := "RulePlate$Circuit", name := "nameOf", desc := "(LRulePlate$Drawing;II)I" } : Jvm.MethodName)) ∈ nm_T := nm_tb 850 (by decide +kernel) (by decide +kernel)
theorem tw_851 : (Jvm.Cond.instanceMethod ({ cls := "RulePlate$Circuit", name := "nameOf", desc := "(LRulePlate$Drawing;II)I" } : Jvm.MethodName)) ∈ nm_T := nm_tb 851 (by decide +kernel) (by decide +kernel)
theorem tw_853 : (Jvm.Cond.code ({ cls := "RulePlate$Circuit", name := "nameOf", desc := "(LRulePlate$Drawing;II)I" } : Jvm.MethodName) prog_4_method_13_code (7 : Nat) (Option.some Jvm.ClassFile.FieldType.int)) ∈ nm_T := nm_tb 853 (by decide +kernel) (by decide +kernel)
theorem tw_854 : (Jvm.Cond.methodLink "RulePlate$Circuit" (159 : Nat) ({ cls := "RulePlate$Label", name := "layerOf", desc := "(I)I" } : Jvm.MethodName)) ∈ nm_T := nm_tb 854 (by decide +kernel) (by decide +kernel)
theorem tw_855 : (Jvm.Cond.methodLink "RulePlate$Circuit" (165 : Nat) ({ cls := "RulePlate$Label", name := "squareOf", desc := "(I)I" } : Jvm.MethodName)) ∈ nm_T := nm_tb 855 (by decide +kernel) (by decide +kernel)
theorem tw_856 : (Jvm.Cond.methodLink "RulePlate$Circuit" (168 : Nat) ({ cls := "RulePlate$Label", name := "nameOf", desc := "(I)I" } : Jvm.MethodName)) ∈ nm_T := nm_tb 856 (by decide +kernel) (by decide +kernel)
theorem tw_861 : (Jvm.Cond.methodLink "RulePlate" (237 : Nat) ({ cls := "RulePlate$Circuit", name := "ofDevice", desc := "(II)I" } : Jvm.MethodName)) ∈ nm_T := nm_tb 861 (by decide +kernel) (by decide +kernel)
theorem tw_862 : (Jvm.Cond.instanceMethod ({ cls := "RulePlate$Circuit", name := "ofDevice", desc := "(II)I" } : Jvm.MethodName)) ∈ nm_T := nm_tb 862 (by decide +kernel) (by decide +kernel)
theorem tw_864 : (Jvm.Cond.code ({ cls := "RulePlate$Circuit", name := "ofDevice", desc := "(II)I" } : Jvm.MethodName) prog_4_method_14_code (3 : Nat) (Option.some Jvm.ClassFile.FieldType.int)) ∈ nm_T := nm_tb 864 (by decide +kernel) (by decide +kernel)
theorem tw_869 : (Jvm.Cond.methodLink "RulePlate" (241 : Nat) ({ cls := "RulePlate$Wish", name := "add", desc := "(II)I" } : Jvm.MethodName)) ∈ nm_T := nm_tb 869 (by decide +kernel) (by decide +kernel)
theorem tw_870 : (Jvm.Cond.instanceMethod ({ cls := "RulePlate$Wish", name := "add", desc := "(II)I" } : Jvm.MethodName)) ∈ nm_T := nm_tb 870 (by decide +kernel) (by decide +kernel)
theorem tw_872 : (Jvm.Cond.code ({ cls := "RulePlate$Wish", name := "add", desc := "(II)I" } : Jvm.MethodName) prog_12_method_2_code (3 : Nat) (Option.some Jvm.ClassFile.FieldType.int)) ∈ nm_T := nm_tb 872 (by decide +kernel) (by decide +kernel)
theorem tw_881 : (Jvm.Cond.methodLink "RulePlate" (243 : Nat) ({ cls := "RulePlate$Wish", name := "match", desc := "(LRulePlate$Circuit;)V" } : Jvm.MethodName)) ∈ nm_T := nm_tb 881 (by decide +kernel) (by decide +kernel)
theorem tw_882 : (Jvm.Cond.instanceMethod ({ cls := "RulePlate$Wish", name := "match", desc := "(LRulePlate$Circuit;)V" } : Jvm.MethodName)) ∈ nm_T := nm_tb 882 (by decide +kernel) (by decide +kernel)
theorem tw_884 : (Jvm.Cond.code ({ cls := "RulePlate$Wish", name := "match", desc := "(LRulePlate$Circuit;)V" } : Jvm.MethodName) prog_12_method_3_code (3 : Nat) (Option.none : Option Jvm.ClassFile.FieldType)) ∈ nm_T := nm_tb 884 (by decide +kernel) (by decide +kernel)
theorem tw_885 : (Jvm.Cond.methodLink "RulePlate$Wish" (41 : Nat) ({ cls := "java/util/Arrays", name := "fill", desc := "([II)V" } : Jvm.MethodName)) ∈ nm_T := nm_tb 885 (by decide +kernel) (by decide +kernel)
theorem tw_886 : (Jvm.Cond.methodLink "RulePlate$Wish" (52 : Nat) ({ cls := "RulePlate$Circuit", name := "isWhole", desc := "(I)Z" } : Jvm.MethodName)) ∈ nm_T := nm_tb 886 (by decide +kernel) (by decide +kernel)
theorem tw_887 : (Jvm.Cond.instanceMethod ({ cls := "RulePlate$Circuit", name := "isWhole", desc := "(I)Z" } : Jvm.MethodName)) ∈ nm_T := nm_tb 887 (by decide +kernel) (by decide +kernel)
theorem tw_889 : (Jvm.Cond.code ({ cls := "RulePlate$Circuit", name := "isWhole", desc := "(I)Z" } : Jvm.MethodName) prog_4_method_15_code (2 : Nat) (Option.some Jvm.ClassFile.FieldType.boolean)) ∈ nm_T := nm_tb 889 (by decide +kernel) (by decide +kernel)
theorem tw_890 : (Jvm.Cond.methodLink "RulePlate$Wish" (56 : Nat) ({ cls := "RulePlate$Wish", name := "search", desc := "(LRulePlate$Circuit;I)Z" } : Jvm.MethodName)) ∈ nm_T := nm_tb 890 (by decide +kernel) (by decide +kernel)
theorem tw_892 : (Jvm.Cond.instanceMethod ({ cls := "RulePlate$Wish", name := "search", desc := "(LRulePlate$Circuit;I)Z" } : Jvm.MethodName)) ∈ nm_T := nm_tb 892 (by decide +kernel) (by decide +kernel)
theorem tw_893 : (Jvm.Cond.code ({ cls := "RulePlate$Wish", name := "search", desc := "(LRulePlate$Circuit;I)Z" } : Jvm.MethodName) prog_12_method_4_code (6 : Nat) (Option.some Jvm.ClassFile.FieldType.boolean)) ∈ nm_T := nm_tb 893 (by decide +kernel) (by decide +kernel)
theorem tw_894 : (Jvm.Cond.methodLink "RulePlate$Wish" (60 : Nat) ({ cls := "RulePlate$Wish", name := "fit", desc := "(LRulePlate$Circuit;IIZ)I" } : Jvm.MethodName)) ∈ nm_T := nm_tb 894 (by decide +kernel) (by decide +kernel)
theorem tw_896 : (Jvm.Cond.instanceMethod ({ cls := "RulePlate$Wish", name := "fit", desc := "(LRulePlate$Circuit;IIZ)I" } : Jvm.MethodName)) ∈ nm_T := nm_tb 896 (by decide +kernel) (by decide +kernel)
theorem tw_897 : (Jvm.Cond.code ({ cls := "RulePlate$Wish", name := "fit", desc := "(LRulePlate$Circuit;IIZ)I" } : Jvm.MethodName) prog_12_method_5_code (8 : Nat) (Option.some Jvm.ClassFile.FieldType.int)) ∈ nm_T := nm_tb 897 (by decide +kernel) (by decide +kernel)
theorem tw_898 : (Jvm.Cond.methodLink "RulePlate$Wish" (68 : Nat) ({ cls := "RulePlate$Circuit", name := "ofDevice", desc := "(II)I" } : Jvm.MethodName)) ∈ nm_T := nm_tb 898 (by decide +kernel) (by decide +kernel)
theorem tw_899 : (Jvm.Cond.methodLink "RulePlate$Wish" (72 : Nat) ({ cls := "RulePlate$Wish", name := "bind", desc := "(III)I" } : Jvm.MethodName)) ∈ nm_T := nm_tb 899 (by decide +kernel) (by decide +kernel)
theorem tw_901 : (Jvm.Cond.instanceMethod ({ cls := "RulePlate$Wish", name := "bind", desc := "(III)I" } : Jvm.MethodName)) ∈ nm_T := nm_tb 901 (by decide +kernel) (by decide +kernel)
theorem tw_902 : (Jvm.Cond.code ({ cls := "RulePlate$Wish", name := "bind", desc := "(III)I" } : Jvm.MethodName) prog_12_method_6_code (4 : Nat) (Option.some Jvm.ClassFile.FieldType.int)) ∈ nm_T := nm_tb 902 (by decide +kernel) (by decide +kernel)
theorem tw_903 : (Jvm.Cond.methodLink "RulePlate$Wish" (76 : Nat) ({ cls := "RulePlate$Wish", name := "wishedOf", desc := "(I)I" } : Jvm.MethodName)) ∈ nm_T := nm_tb 903 (by decide +kernel) (by decide +kernel)
theorem tw_904 : (Jvm.Cond.instanceMethod ({ cls := "RulePlate$Wish", name := "wishedOf", desc := "(I)I" } : Jvm.MethodName)) ∈ nm_T := nm_tb 904 (by decide +kernel) (by decide +kernel)
theorem tw_906 : (Jvm.Cond.code ({ cls := "RulePlate$Wish", name := "wishedOf", desc := "(I)I" } : Jvm.MethodName) prog_12_method_8_code (3 : Nat) (Option.some Jvm.ClassFile.FieldType.int)) ∈ nm_T := nm_tb 906 (by decide +kernel) (by decide +kernel)
theorem tw_907 : (Jvm.Cond.methodLink "RulePlate$Wish" (64 : Nat) ({ cls := "RulePlate$Wish", name := "part", desc := "(I)V" } : Jvm.MethodName)) ∈ nm_T := nm_tb 907 (by decide +kernel) (by decide +kernel)
theorem tw_909 : (Jvm.Cond.instanceMethod ({ cls := "RulePlate$Wish", name := "part", desc := "(I)V" } : Jvm.MethodName)) ∈ nm_T := nm_tb 909 (by decide +kernel) (by decide +kernel)
theorem tw_910 : (Jvm.Cond.code ({ cls := "RulePlate$Wish", name := "part", desc := "(I)V" } : Jvm.MethodName) prog_12_method_7_code (3 : Nat) (Option.none : Option Jvm.ClassFile.FieldType)) ∈ nm_T := nm_tb 910 (by decide +kernel) (by decide +kernel)
theorem tw_919 : (Jvm.Cond.methodLink "RulePlate" (253 : Nat) ({ cls := "RulePlate$Wish", name := "wishedOf", desc := "(I)I" } : Jvm.MethodName)) ∈ nm_T := nm_tb 919 (by decide +kernel) (by decide +kernel)
theorem tw_920 : (Jvm.Cond.methodLink "RulePlate" (256 : Nat) ({ cls := "RulePlate$Wish", name := "thingOf", desc := "(I)I" } : Jvm.MethodName)) ∈ nm_T := nm_tb 920 (by decide +kernel) (by decide +kernel)
theorem tw_921 : (Jvm.Cond.instanceMethod ({ cls := "RulePlate$Wish", name := "thingOf", desc := "(I)I" } : Jvm.MethodName)) ∈ nm_T := nm_tb 921 (by decide +kernel) (by decide +kernel)
theorem tw_923 : (Jvm.Cond.code ({ cls := "RulePlate$Wish", name := "thingOf", desc := "(I)I" } : Jvm.MethodName) prog_12_method_9_code (2 : Nat) (Option.some Jvm.ClassFile.FieldType.int)) ∈ nm_T := nm_tb 923 (by decide +kernel) (by decide +kernel)
theorem tw_929 : (Jvm.Cond.methodLink "RulePlate" (259 : Nat) ({ cls := "java/lang/Long", name := "bitCount", desc := "(J)I" } : Jvm.MethodName)) ∈ nm_T := nm_tb 929 (by decide +kernel) (by decide +kernel)
theorem tw_942 : (Jvm.Cond.methodLink "RulePlate" (265 : Nat) ({ cls := "RulePlate$Bits", name := "span", desc := "(II)J" } : Jvm.MethodName)) ∈ nm_T := nm_tb 942 (by decide +kernel) (by decide +kernel)
theorem tw_943 : (Jvm.Cond.constantLong "RulePlate" (271 : Nat) (-1 : Int64)) ∈ nm_T := nm_tb 943 (by decide +kernel) (by decide +kernel)
