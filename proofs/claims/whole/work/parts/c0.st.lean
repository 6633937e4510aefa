/-! the worlds that the constructors leave, read as named memory -/
def c_nl : List Nat := [0, 1, 100, 101, 102, 103, 104, 105, 110, 112, 113, 114, 116, 117, 111, 115, 200, 201, 202, 203, 204, 205, 206, 207, 208, 300, 310, 312, 313, 314, 316, 317, 311, 315, 301, 320, 322, 323, 324, 326, 327, 321, 325, 302, 303, 304, 400, 401, 402, 403, 404, 2, 3, 1000, 1001, 1002, 1003, 1100, 1101, 1102, 1103, 1200, 1201, 1202, 1203, 1300, 1301, 1302, 1303, 1400, 1401, 1402, 1403, 1500, 1501, 1502, 1503, 1600, 1601, 1602, 1603, 1700, 1701, 1702, 1703]
def c_ad (q : Nat) (u : Nat → Nat) (n : Nat) : Nat := if n = 0 then q else u (c_nl.idxOf n)
def m_ad (q : Nat) (u : Nat → Nat) (n : Nat) : Nat := if n = 0 then q else u (moN.idxOf n)
def c_I : Nat → Nat → Int32 := fun n k => if n = 103 then rw_m 8 k else if n = 300 ∧ (k = 6 ∨ k = 7 ∨ k = 8) then -1 else 0
def m_I : Nat → Nat → Int32 := fun n k => if n = 9 then rw_m 16 k else if n = 0 ∧ k = 54 then -1 else 0
def c_ln : List (Nat × Nat) := [(1, 8), (101, 1024), (102, 200), (103, 8), (104, 8), (105, 8), (112, 0), (113, 0), (114, 0), (116, 0), (117, 0), (111, 64), (115, 64), (201, 0), (202, 16), (203, 16), (204, 16), (205, 16), (206, 16), (207, 16), (208, 64), (312, 0), (313, 0), (314, 0), (316, 0), (317, 0), (311, 1024), (315, 1024), (301, 24), (322, 0), (323, 0), (324, 0), (326, 0), (327, 0), (321, 64), (325, 64), (302, 0), (303, 0), (304, 0), (401, 12), (402, 12), (403, 12), (404, 24), (2, 8), (3, 64), (1001, 16), (1002, 0), (1003, 0), (1101, 16), (1102, 0), (1103, 0), (1201, 16), (1202, 0), (1203, 0), (1301, 16), (1302, 0), (1303, 0), (1401, 16), (1402, 0), (1403, 0), (1501, 16), (1502, 0), (1503, 0), (1601, 16), (1602, 0), (1603, 0), (1701, 16), (1702, 0), (1703, 0)]
def c_N (n : Nat) : Nat := (c_ln.lookup n).getD 0
def c_K (n : Nat) : Nat := (cl_st.lookup n).getD 0
abbrev c_C : nm_M := (c_I, nJ0, c_N, c_K)
abbrev m_C : nm_M := (m_I, nJ0, moZ)
theorem c_a1 {q : Nat} {u : Nat → Nat} : c_ad q u 1 = u 1 := congrArg u (show c_nl.idxOf 1 = 1 by decide +kernel)
theorem c_a100 {q : Nat} {u : Nat → Nat} : c_ad q u 100 = u 2 := congrArg u (show c_nl.idxOf 100 = 2 by decide +kernel)
theorem c_a101 {q : Nat} {u : Nat → Nat} : c_ad q u 101 = u 3 := congrArg u (show c_nl.idxOf 101 = 3 by decide +kernel)
theorem c_a102 {q : Nat} {u : Nat → Nat} : c_ad q u 102 = u 4 := congrArg u (show c_nl.idxOf 102 = 4 by decide +kernel)
theorem c_a103 {q : Nat} {u : Nat → Nat} : c_ad q u 103 = u 5 := congrArg u (show c_nl.idxOf 103 = 5 by decide +kernel)
theorem c_a104 {q : Nat} {u : Nat → Nat} : c_ad q u 104 = u 6 := congrArg u (show c_nl.idxOf 104 = 6 by decide +kernel)
theorem c_a105 {q : Nat} {u : Nat → Nat} : c_ad q u 105 = u 7 := congrArg u (show c_nl.idxOf 105 = 7 by decide +kernel)
theorem c_a110 {q : Nat} {u : Nat → Nat} : c_ad q u 110 = u 8 := congrArg u (show c_nl.idxOf 110 = 8 by decide +kernel)
theorem c_a112 {q : Nat} {u : Nat → Nat} : c_ad q u 112 = u 9 := congrArg u (show c_nl.idxOf 112 = 9 by decide +kernel)
theorem c_a113 {q : Nat} {u : Nat → Nat} : c_ad q u 113 = u 10 := congrArg u (show c_nl.idxOf 113 = 10 by decide +kernel)
theorem c_a114 {q : Nat} {u : Nat → Nat} : c_ad q u 114 = u 11 := congrArg u (show c_nl.idxOf 114 = 11 by decide +kernel)
theorem c_a116 {q : Nat} {u : Nat → Nat} : c_ad q u 116 = u 12 := congrArg u (show c_nl.idxOf 116 = 12 by decide +kernel)
theorem c_a117 {q : Nat} {u : Nat → Nat} : c_ad q u 117 = u 13 := congrArg u (show c_nl.idxOf 117 = 13 by decide +kernel)
theorem c_a111 {q : Nat} {u : Nat → Nat} : c_ad q u 111 = u 14 := congrArg u (show c_nl.idxOf 111 = 14 by decide +kernel)
theorem c_a115 {q : Nat} {u : Nat → Nat} : c_ad q u 115 = u 15 := congrArg u (show c_nl.idxOf 115 = 15 by decide +kernel)
theorem c_a200 {q : Nat} {u : Nat → Nat} : c_ad q u 200 = u 16 := congrArg u (show c_nl.idxOf 200 = 16 by decide +kernel)
theorem c_a201 {q : Nat} {u : Nat → Nat} : c_ad q u 201 = u 17 := congrArg u (show c_nl.idxOf 201 = 17 by decide +kernel)
theorem c_a202 {q : Nat} {u : Nat → Nat} : c_ad q u 202 = u 18 := congrArg u (show c_nl.idxOf 202 = 18 by decide +kernel)
theorem c_a203 {q : Nat} {u : Nat → Nat} : c_ad q u 203 = u 19 := congrArg u (show c_nl.idxOf 203 = 19 by decide +kernel)
theorem c_a204 {q : Nat} {u : Nat → Nat} : c_ad q u 204 = u 20 := congrArg u (show c_nl.idxOf 204 = 20 by decide +kernel)
theorem c_a205 {q : Nat} {u : Nat → Nat} : c_ad q u 205 = u 21 := congrArg u (show c_nl.idxOf 205 = 21 by decide +kernel)
theorem c_a206 {q : Nat} {u : Nat → Nat} : c_ad q u 206 = u 22 := congrArg u (show c_nl.idxOf 206 = 22 by decide +kernel)
theorem c_a207 {q : Nat} {u : Nat → Nat} : c_ad q u 207 = u 23 := congrArg u (show c_nl.idxOf 207 = 23 by decide +kernel)
theorem c_a208 {q : Nat} {u : Nat → Nat} : c_ad q u 208 = u 24 := congrArg u (show c_nl.idxOf 208 = 24 by decide +kernel)
theorem c_a300 {q : Nat} {u : Nat → Nat} : c_ad q u 300 = u 25 := congrArg u (show c_nl.idxOf 300 = 25 by decide +kernel)
theorem c_a310 {q : Nat} {u : Nat → Nat} : c_ad q u 310 = u 26 := congrArg u (show c_nl.idxOf 310 = 26 by decide +kernel)
theorem c_a312 {q : Nat} {u : Nat → Nat} : c_ad q u 312 = u 27 := congrArg u (show c_nl.idxOf 312 = 27 by decide +kernel)
theorem c_a313 {q : Nat} {u : Nat → Nat} : c_ad q u 313 = u 28 := congrArg u (show c_nl.idxOf 313 = 28 by decide +kernel)
theorem c_a314 {q : Nat} {u : Nat → Nat} : c_ad q u 314 = u 29 := congrArg u (show c_nl.idxOf 314 = 29 by decide +kernel)
theorem c_a316 {q : Nat} {u : Nat → Nat} : c_ad q u 316 = u 30 := congrArg u (show c_nl.idxOf 316 = 30 by decide +kernel)
theorem c_a317 {q : Nat} {u : Nat → Nat} : c_ad q u 317 = u 31 := congrArg u (show c_nl.idxOf 317 = 31 by decide +kernel)
theorem c_a311 {q : Nat} {u : Nat → Nat} : c_ad q u 311 = u 32 := congrArg u (show c_nl.idxOf 311 = 32 by decide +kernel)
theorem c_a315 {q : Nat} {u : Nat → Nat} : c_ad q u 315 = u 33 := congrArg u (show c_nl.idxOf 315 = 33 by decide +kernel)
theorem c_a301 {q : Nat} {u : Nat → Nat} : c_ad q u 301 = u 34 := congrArg u (show c_nl.idxOf 301 = 34 by decide +kernel)
theorem c_a320 {q : Nat} {u : Nat → Nat} : c_ad q u 320 = u 35 := congrArg u (show c_nl.idxOf 320 = 35 by decide +kernel)
theorem c_a322 {q : Nat} {u : Nat → Nat} : c_ad q u 322 = u 36 := congrArg u (show c_nl.idxOf 322 = 36 by decide +kernel)
theorem c_a323 {q : Nat} {u : Nat → Nat} : c_ad q u 323 = u 37 := congrArg u (show c_nl.idxOf 323 = 37 by decide +kernel)
theorem c_a324 {q : Nat} {u : Nat → Nat} : c_ad q u 324 = u 38 := congrArg u (show c_nl.idxOf 324 = 38 by decide +kernel)
theorem c_a326 {q : Nat} {u : Nat → Nat} : c_ad q u 326 = u 39 := congrArg u (show c_nl.idxOf 326 = 39 by decide +kernel)
theorem c_a327 {q : Nat} {u : Nat → Nat} : c_ad q u 327 = u 40 := congrArg u (show c_nl.idxOf 327 = 40 by decide +kernel)
theorem c_a321 {q : Nat} {u : Nat → Nat} : c_ad q u 321 = u 41 := congrArg u (show c_nl.idxOf 321 = 41 by decide +kernel)
theorem c_a325 {q : Nat} {u : Nat → Nat} : c_ad q u 325 = u 42 := congrArg u (show c_nl.idxOf 325 = 42 by decide +kernel)
theorem c_a302 {q : Nat} {u : Nat → Nat} : c_ad q u 302 = u 43 := congrArg u (show c_nl.idxOf 302 = 43 by decide +kernel)
theorem c_a303 {q : Nat} {u : Nat → Nat} : c_ad q u 303 = u 44 := congrArg u (show c_nl.idxOf 303 = 44 by decide +kernel)
theorem c_a304 {q : Nat} {u : Nat → Nat} : c_ad q u 304 = u 45 := congrArg u (show c_nl.idxOf 304 = 45 by decide +kernel)
theorem c_a400 {q : Nat} {u : Nat → Nat} : c_ad q u 400 = u 46 := congrArg u (show c_nl.idxOf 400 = 46 by decide +kernel)
theorem c_a401 {q : Nat} {u : Nat → Nat} : c_ad q u 401 = u 47 := congrArg u (show c_nl.idxOf 401 = 47 by decide +kernel)
theorem c_a402 {q : Nat} {u : Nat → Nat} : c_ad q u 402 = u 48 := congrArg u (show c_nl.idxOf 402 = 48 by decide +kernel)
theorem c_a403 {q : Nat} {u : Nat → Nat} : c_ad q u 403 = u 49 := congrArg u (show c_nl.idxOf 403 = 49 by decide +kernel)
theorem c_a404 {q : Nat} {u : Nat → Nat} : c_ad q u 404 = u 50 := congrArg u (show c_nl.idxOf 404 = 50 by decide +kernel)
theorem c_a2 {q : Nat} {u : Nat → Nat} : c_ad q u 2 = u 51 := congrArg u (show c_nl.idxOf 2 = 51 by decide +kernel)
theorem c_a3 {q : Nat} {u : Nat → Nat} : c_ad q u 3 = u 52 := congrArg u (show c_nl.idxOf 3 = 52 by decide +kernel)
theorem c_a1000 {q : Nat} {u : Nat → Nat} : c_ad q u 1000 = u 53 := congrArg u (show c_nl.idxOf 1000 = 53 by decide +kernel)
theorem c_a1001 {q : Nat} {u : Nat → Nat} : c_ad q u 1001 = u 54 := congrArg u (show c_nl.idxOf 1001 = 54 by decide +kernel)
theorem c_a1002 {q : Nat} {u : Nat → Nat} : c_ad q u 1002 = u 55 := congrArg u (show c_nl.idxOf 1002 = 55 by decide +kernel)
theorem c_a1003 {q : Nat} {u : Nat → Nat} : c_ad q u 1003 = u 56 := congrArg u (show c_nl.idxOf 1003 = 56 by decide +kernel)
theorem c_a1100 {q : Nat} {u : Nat → Nat} : c_ad q u 1100 = u 57 := congrArg u (show c_nl.idxOf 1100 = 57 by decide +kernel)
theorem c_a1101 {q : Nat} {u : Nat → Nat} : c_ad q u 1101 = u 58 := congrArg u (show c_nl.idxOf 1101 = 58 by decide +kernel)
theorem c_a1102 {q : Nat} {u : Nat → Nat} : c_ad q u 1102 = u 59 := congrArg u (show c_nl.idxOf 1102 = 59 by decide +kernel)
theorem c_a1103 {q : Nat} {u : Nat → Nat} : c_ad q u 1103 = u 60 := congrArg u (show c_nl.idxOf 1103 = 60 by decide +kernel)
theorem c_a1200 {q : Nat} {u : Nat → Nat} : c_ad q u 1200 = u 61 := congrArg u (show c_nl.idxOf 1200 = 61 by decide +kernel)
theorem c_a1201 {q : Nat} {u : Nat → Nat} : c_ad q u 1201 = u 62 := congrArg u (show c_nl.idxOf 1201 = 62 by decide +kernel)
theorem c_a1202 {q : Nat} {u : Nat → Nat} : c_ad q u 1202 = u 63 := congrArg u (show c_nl.idxOf 1202 = 63 by decide +kernel)
theorem c_a1203 {q : Nat} {u : Nat → Nat} : c_ad q u 1203 = u 64 := congrArg u (show c_nl.idxOf 1203 = 64 by decide +kernel)
theorem c_a1300 {q : Nat} {u : Nat → Nat} : c_ad q u 1300 = u 65 := congrArg u (show c_nl.idxOf 1300 = 65 by decide +kernel)
theorem c_a1301 {q : Nat} {u : Nat → Nat} : c_ad q u 1301 = u 66 := congrArg u (show c_nl.idxOf 1301 = 66 by decide +kernel)
theorem c_a1302 {q : Nat} {u : Nat → Nat} : c_ad q u 1302 = u 67 := congrArg u (show c_nl.idxOf 1302 = 67 by decide +kernel)
theorem c_a1303 {q : Nat} {u : Nat → Nat} : c_ad q u 1303 = u 68 := congrArg u (show c_nl.idxOf 1303 = 68 by decide +kernel)
theorem c_a1400 {q : Nat} {u : Nat → Nat} : c_ad q u 1400 = u 69 := congrArg u (show c_nl.idxOf 1400 = 69 by decide +kernel)
theorem c_a1401 {q : Nat} {u : Nat → Nat} : c_ad q u 1401 = u 70 := congrArg u (show c_nl.idxOf 1401 = 70 by decide +kernel)
theorem c_a1402 {q : Nat} {u : Nat → Nat} : c_ad q u 1402 = u 71 := congrArg u (show c_nl.idxOf 1402 = 71 by decide +kernel)
theorem c_a1403 {q : Nat} {u : Nat → Nat} : c_ad q u 1403 = u 72 := congrArg u (show c_nl.idxOf 1403 = 72 by decide +kernel)
theorem c_a1500 {q : Nat} {u : Nat → Nat} : c_ad q u 1500 = u 73 := congrArg u (show c_nl.idxOf 1500 = 73 by decide +kernel)
theorem c_a1501 {q : Nat} {u : Nat → Nat} : c_ad q u 1501 = u 74 := congrArg u (show c_nl.idxOf 1501 = 74 by decide +kernel)
theorem c_a1502 {q : Nat} {u : Nat → Nat} : c_ad q u 1502 = u 75 := congrArg u (show c_nl.idxOf 1502 = 75 by decide +kernel)
theorem c_a1503 {q : Nat} {u : Nat → Nat} : c_ad q u 1503 = u 76 := congrArg u (show c_nl.idxOf 1503 = 76 by decide +kernel)
theorem c_a1600 {q : Nat} {u : Nat → Nat} : c_ad q u 1600 = u 77 := congrArg u (show c_nl.idxOf 1600 = 77 by decide +kernel)
theorem c_a1601 {q : Nat} {u : Nat → Nat} : c_ad q u 1601 = u 78 := congrArg u (show c_nl.idxOf 1601 = 78 by decide +kernel)
theorem c_a1602 {q : Nat} {u : Nat → Nat} : c_ad q u 1602 = u 79 := congrArg u (show c_nl.idxOf 1602 = 79 by decide +kernel)
theorem c_a1603 {q : Nat} {u : Nat → Nat} : c_ad q u 1603 = u 80 := congrArg u (show c_nl.idxOf 1603 = 80 by decide +kernel)
theorem c_a1700 {q : Nat} {u : Nat → Nat} : c_ad q u 1700 = u 81 := congrArg u (show c_nl.idxOf 1700 = 81 by decide +kernel)
theorem c_a1701 {q : Nat} {u : Nat → Nat} : c_ad q u 1701 = u 82 := congrArg u (show c_nl.idxOf 1701 = 82 by decide +kernel)
theorem c_a1702 {q : Nat} {u : Nat → Nat} : c_ad q u 1702 = u 83 := congrArg u (show c_nl.idxOf 1702 = 83 by decide +kernel)
theorem c_a1703 {q : Nat} {u : Nat → Nat} : c_ad q u 1703 = u 84 := congrArg u (show c_nl.idxOf 1703 = 84 by decide +kernel)
theorem m_a1 {q : Nat} {u : Nat → Nat} : m_ad q u 1 = u 1 := congrArg u (show moN.idxOf 1 = 1 by decide +kernel)
theorem m_a2 {q : Nat} {u : Nat → Nat} : m_ad q u 2 = u 2 := congrArg u (show moN.idxOf 2 = 2 by decide +kernel)
theorem m_a3 {q : Nat} {u : Nat → Nat} : m_ad q u 3 = u 3 := congrArg u (show moN.idxOf 3 = 3 by decide +kernel)
theorem m_a4 {q : Nat} {u : Nat → Nat} : m_ad q u 4 = u 4 := congrArg u (show moN.idxOf 4 = 4 by decide +kernel)
theorem m_a5 {q : Nat} {u : Nat → Nat} : m_ad q u 5 = u 5 := congrArg u (show moN.idxOf 5 = 5 by decide +kernel)
theorem m_a6 {q : Nat} {u : Nat → Nat} : m_ad q u 6 = u 6 := congrArg u (show moN.idxOf 6 = 6 by decide +kernel)
theorem m_a7 {q : Nat} {u : Nat → Nat} : m_ad q u 7 = u 7 := congrArg u (show moN.idxOf 7 = 7 by decide +kernel)
theorem m_a8 {q : Nat} {u : Nat → Nat} : m_ad q u 8 = u 8 := congrArg u (show moN.idxOf 8 = 8 by decide +kernel)
theorem m_a9 {q : Nat} {u : Nat → Nat} : m_ad q u 9 = u 9 := congrArg u (show moN.idxOf 9 = 9 by decide +kernel)
theorem m_a10 {q : Nat} {u : Nat → Nat} : m_ad q u 10 = u 10 := congrArg u (show moN.idxOf 10 = 10 by decide +kernel)
theorem m_a11 {q : Nat} {u : Nat → Nat} : m_ad q u 11 = u 11 := congrArg u (show moN.idxOf 11 = 11 by decide +kernel)
theorem m_a12 {q : Nat} {u : Nat → Nat} : m_ad q u 12 = u 12 := congrArg u (show moN.idxOf 12 = 12 by decide +kernel)
theorem m_a13 {q : Nat} {u : Nat → Nat} : m_ad q u 13 = u 13 := congrArg u (show moN.idxOf 13 = 13 by decide +kernel)
theorem m_a14 {q : Nat} {u : Nat → Nat} : m_ad q u 14 = u 14 := congrArg u (show moN.idxOf 14 = 14 by decide +kernel)
theorem m_a15 {q : Nat} {u : Nat → Nat} : m_ad q u 15 = u 15 := congrArg u (show moN.idxOf 15 = 15 by decide +kernel)
theorem m_a16 {q : Nat} {u : Nat → Nat} : m_ad q u 16 = u 16 := congrArg u (show moN.idxOf 16 = 16 by decide +kernel)
theorem m_a17 {q : Nat} {u : Nat → Nat} : m_ad q u 17 = u 17 := congrArg u (show moN.idxOf 17 = 17 by decide +kernel)
theorem m_a20 {q : Nat} {u : Nat → Nat} : m_ad q u 20 = u 18 := congrArg u (show moN.idxOf 20 = 18 by decide +kernel)
theorem m_a24 {q : Nat} {u : Nat → Nat} : m_ad q u 24 = u 19 := congrArg u (show moN.idxOf 24 = 19 by decide +kernel)
theorem m_a25 {q : Nat} {u : Nat → Nat} : m_ad q u 25 = u 20 := congrArg u (show moN.idxOf 25 = 20 by decide +kernel)
theorem m_a26 {q : Nat} {u : Nat → Nat} : m_ad q u 26 = u 21 := congrArg u (show moN.idxOf 26 = 21 by decide +kernel)
theorem m_a28 {q : Nat} {u : Nat → Nat} : m_ad q u 28 = u 22 := congrArg u (show moN.idxOf 28 = 22 by decide +kernel)
theorem m_a29 {q : Nat} {u : Nat → Nat} : m_ad q u 29 = u 23 := congrArg u (show moN.idxOf 29 = 23 by decide +kernel)
theorem m_a30 {q : Nat} {u : Nat → Nat} : m_ad q u 30 = u 24 := congrArg u (show moN.idxOf 30 = 24 by decide +kernel)
theorem m_a31 {q : Nat} {u : Nat → Nat} : m_ad q u 31 = u 25 := congrArg u (show moN.idxOf 31 = 25 by decide +kernel)
theorem m_a32 {q : Nat} {u : Nat → Nat} : m_ad q u 32 = u 26 := congrArg u (show moN.idxOf 32 = 26 by decide +kernel)
theorem m_a33 {q : Nat} {u : Nat → Nat} : m_ad q u 33 = u 27 := congrArg u (show moN.idxOf 33 = 27 by decide +kernel)
theorem m_a36 {q : Nat} {u : Nat → Nat} : m_ad q u 36 = u 28 := congrArg u (show moN.idxOf 36 = 28 by decide +kernel)
theorem m_a37 {q : Nat} {u : Nat → Nat} : m_ad q u 37 = u 29 := congrArg u (show moN.idxOf 37 = 29 by decide +kernel)
theorem m_a38 {q : Nat} {u : Nat → Nat} : m_ad q u 38 = u 30 := congrArg u (show moN.idxOf 38 = 30 by decide +kernel)
theorem m_a39 {q : Nat} {u : Nat → Nat} : m_ad q u 39 = u 31 := congrArg u (show moN.idxOf 39 = 31 by decide +kernel)
theorem m_a41 {q : Nat} {u : Nat → Nat} : m_ad q u 41 = u 32 := congrArg u (show moN.idxOf 41 = 32 by decide +kernel)
theorem m_a42 {q : Nat} {u : Nat → Nat} : m_ad q u 42 = u 33 := congrArg u (show moN.idxOf 42 = 33 by decide +kernel)
theorem m_a43 {q : Nat} {u : Nat → Nat} : m_ad q u 43 = u 34 := congrArg u (show moN.idxOf 43 = 34 by decide +kernel)
theorem m_a44 {q : Nat} {u : Nat → Nat} : m_ad q u 44 = u 35 := congrArg u (show moN.idxOf 44 = 35 by decide +kernel)
theorem m_a45 {q : Nat} {u : Nat → Nat} : m_ad q u 45 = u 36 := congrArg u (show moN.idxOf 45 = 36 by decide +kernel)
theorem m_a46 {q : Nat} {u : Nat → Nat} : m_ad q u 46 = u 37 := congrArg u (show moN.idxOf 46 = 37 by decide +kernel)
theorem m_a49 {q : Nat} {u : Nat → Nat} : m_ad q u 49 = u 38 := congrArg u (show moN.idxOf 49 = 38 by decide +kernel)
theorem m_a50 {q : Nat} {u : Nat → Nat} : m_ad q u 50 = u 39 := congrArg u (show moN.idxOf 50 = 39 by decide +kernel)
theorem m_a51 {q : Nat} {u : Nat → Nat} : m_ad q u 51 = u 40 := congrArg u (show moN.idxOf 51 = 40 by decide +kernel)
theorem m_a52 {q : Nat} {u : Nat → Nat} : m_ad q u 52 = u 41 := congrArg u (show moN.idxOf 52 = 41 by decide +kernel)
theorem m_a53 {q : Nat} {u : Nat → Nat} : m_ad q u 53 = u 42 := congrArg u (show moN.idxOf 53 = 42 by decide +kernel)
theorem m_a59 {q : Nat} {u : Nat → Nat} : m_ad q u 59 = u 43 := congrArg u (show moN.idxOf 59 = 43 by decide +kernel)
theorem m_a60 {q : Nat} {u : Nat → Nat} : m_ad q u 60 = u 44 := congrArg u (show moN.idxOf 60 = 44 by decide +kernel)
theorem m_a62 {q : Nat} {u : Nat → Nat} : m_ad q u 62 = u 45 := congrArg u (show moN.idxOf 62 = 45 by decide +kernel)
theorem m_a63 {q : Nat} {u : Nat → Nat} : m_ad q u 63 = u 46 := congrArg u (show moN.idxOf 63 = 46 by decide +kernel)
theorem m_a64 {q : Nat} {u : Nat → Nat} : m_ad q u 64 = u 47 := congrArg u (show moN.idxOf 64 = 47 by decide +kernel)
theorem m_a65 {q : Nat} {u : Nat → Nat} : m_ad q u 65 = u 48 := congrArg u (show moN.idxOf 65 = 48 by decide +kernel)
theorem m_a67 {q : Nat} {u : Nat → Nat} : m_ad q u 67 = u 49 := congrArg u (show moN.idxOf 67 = 49 by decide +kernel)
theorem m_a68 {q : Nat} {u : Nat → Nat} : m_ad q u 68 = u 50 := congrArg u (show moN.idxOf 68 = 50 by decide +kernel)
theorem m_a69 {q : Nat} {u : Nat → Nat} : m_ad q u 69 = u 51 := congrArg u (show moN.idxOf 69 = 51 by decide +kernel)
theorem m_a70 {q : Nat} {u : Nat → Nat} : m_ad q u 70 = u 52 := congrArg u (show moN.idxOf 70 = 52 by decide +kernel)
theorem m_a74 {q : Nat} {u : Nat → Nat} : m_ad q u 74 = u 53 := congrArg u (show moN.idxOf 74 = 53 by decide +kernel)
theorem m_a75 {q : Nat} {u : Nat → Nat} : m_ad q u 75 = u 54 := congrArg u (show moN.idxOf 75 = 54 by decide +kernel)
theorem m_a76 {q : Nat} {u : Nat → Nat} : m_ad q u 76 = u 55 := congrArg u (show moN.idxOf 76 = 55 by decide +kernel)
theorem m_a77 {q : Nat} {u : Nat → Nat} : m_ad q u 77 = u 56 := congrArg u (show moN.idxOf 77 = 56 by decide +kernel)
theorem m_a78 {q : Nat} {u : Nat → Nat} : m_ad q u 78 = u 57 := congrArg u (show moN.idxOf 78 = 57 by decide +kernel)
theorem m_a79 {q : Nat} {u : Nat → Nat} : m_ad q u 79 = u 58 := congrArg u (show moN.idxOf 79 = 58 by decide +kernel)
set_option maxRecDepth 100000 in
theorem c_e0 {Y : nm_Y} {q : Nat} {u : Nat → Nat} : nm_E Y (c_ad q u) c_C 0 = .inr (9, [.ref (u 1), .ref (u 2), .ref (u 16), .ref (u 25), .ref (u 46), .ref (u 51), .ref (u 52), .long 0, .int 0]) := by
  rw [nm_E_obj (ci := 9) (by decide +kernel) (by decide)]
  rw [show nm_fs (c_ad q u) c_C 0 9 = [.ref (c_ad q u 1), .ref (c_ad q u 100), .ref (c_ad q u 200), .ref (c_ad q u 300), .ref (c_ad q u 400), .ref (c_ad q u 2), .ref (c_ad q u 3), .long 0, .int 0] from rfl]
  rw [c_a1, c_a100, c_a200, c_a300, c_a400, c_a2, c_a3]
set_option maxRecDepth 100000 in
theorem c_e1 {Y : nm_Y} {q : Nat} {u : Nat → Nat} : nm_E Y (c_ad q u) c_C 1 = rw_C Y 8 (va_up (va_up (va_up (va_up (va_up (va_up (va_up (va_up (fun _ => none) 0 (some (u 53))) 1 (some (u 57))) 2 (some (u 61))) 3 (some (u 65))) 4 (some (u 69))) 5 (some (u 73))) 6 (some (u 77))) 7 (some (u 81))) := by
  rw [nm_E_C (by decide +kernel), show c_C.2.2.1 1 = 8 by decide +kernel]
  unfold rw_C
  congr 7
  funext k
  by_cases h : k < 8
  · rw [if_pos h]
    have h8 : k = 0 ∨ k = 1 ∨ k = 2 ∨ k = 3 ∨ k = 4 ∨ k = 5 ∨ k = 6 ∨ k = 7 := by omega
    rcases h8 with rfl | rfl | rfl | rfl | rfl | rfl | rfl | rfl
    · exact congrArg some c_a1000
    · exact congrArg some c_a1100
    · exact congrArg some c_a1200
    · exact congrArg some c_a1300
    · exact congrArg some c_a1400
    · exact congrArg some c_a1500
    · exact congrArg some c_a1600
    · exact congrArg some c_a1700
  · rw [if_neg h]
    unfold va_up
    rw [if_neg (show ¬ k = 7 by omega), if_neg (show ¬ k = 6 by omega), if_neg (show ¬ k = 5 by omega), if_neg (show ¬ k = 4 by omega), if_neg (show ¬ k = 3 by omega), if_neg (show ¬ k = 2 by omega), if_neg (show ¬ k = 1 by omega), if_neg (show ¬ k = 0 by omega)]
set_option maxRecDepth 100000 in
theorem c_e100 {Y : nm_Y} {q : Nat} {u : Nat → Nat} : nm_E Y (c_ad q u) c_C 100 = .inr (2, [.int 0, .ref (u 3), .ref (u 4), .int 0, .ref (u 5), .ref (u 6), .ref (u 7), .ref (u 8)]) := by
  rw [nm_E_obj (ci := 2) (by decide +kernel) (by decide)]
  rw [show nm_fs (c_ad q u) c_C 100 2 = [.int 0, .ref (c_ad q u 101), .ref (c_ad q u 102), .int 0, .ref (c_ad q u 103), .ref (c_ad q u 104), .ref (c_ad q u 105), .ref (c_ad q u 110)] from rfl]
  rw [c_a101, c_a102, c_a103, c_a104, c_a105, c_a110]
set_option maxRecDepth 100000 in
theorem c_e101 {Y : nm_Y} {q : Nat} {u : Nat → Nat} : nm_E Y (c_ad q u) c_C 101 = rw_J Y 1024 := by
  rw [nm_E_J (by decide +kernel), show c_C.2.2.1 101 = 1024 by decide +kernel, show c_C.2.1 101 = fun _ => 0 from rfl]
set_option maxRecDepth 100000 in
theorem c_e102 {Y : nm_Y} {q : Nat} {u : Nat → Nat} : nm_E Y (c_ad q u) c_C 102 = rw_I Y 200 := by
  rw [nm_E_I (by decide +kernel), show c_C.2.2.1 102 = 200 by decide +kernel, show c_C.1 102 = fun _ => 0 from rfl]
set_option maxRecDepth 100000 in
theorem c_e103 {Y : nm_Y} {q : Nat} {u : Nat → Nat} : nm_E Y (c_ad q u) c_C 103 = rw_M Y 8 := by
  rw [nm_E_I (by decide +kernel), show c_C.2.2.1 103 = 8 by decide +kernel, show c_C.1 103 = rw_m 8 from rfl]
set_option maxRecDepth 100000 in
theorem c_e104 {Y : nm_Y} {q : Nat} {u : Nat → Nat} : nm_E Y (c_ad q u) c_C 104 = rw_I Y 8 := by
  rw [nm_E_I (by decide +kernel), show c_C.2.2.1 104 = 8 by decide +kernel, show c_C.1 104 = fun _ => 0 from rfl]
set_option maxRecDepth 100000 in
theorem c_e105 {Y : nm_Y} {q : Nat} {u : Nat → Nat} : nm_E Y (c_ad q u) c_C 105 = rw_I Y 8 := by
  rw [nm_E_I (by decide +kernel), show c_C.2.2.1 105 = 8 by decide +kernel, show c_C.1 105 = fun _ => 0 from rfl]
set_option maxRecDepth 100000 in
theorem c_e110 {Y : nm_Y} {q : Nat} {u : Nat → Nat} : nm_E Y (c_ad q u) c_C 110 = .inr (3, [.ref (u 14), .int 0, .ref (u 9), .ref (u 10), .ref (u 11), .ref (u 15), .ref (u 12), .int 0, .ref (u 13)]) := by
  rw [nm_E_obj (ci := 3) (by decide +kernel) (by decide)]
  rw [show nm_fs (c_ad q u) c_C 110 3 = [.ref (c_ad q u 111), .int 0, .ref (c_ad q u 112), .ref (c_ad q u 113), .ref (c_ad q u 114), .ref (c_ad q u 115), .ref (c_ad q u 116), .int 0, .ref (c_ad q u 117)] from rfl]
  rw [c_a111, c_a112, c_a113, c_a114, c_a115, c_a116, c_a117]
set_option maxRecDepth 100000 in
theorem c_e112 {Y : nm_Y} {q : Nat} {u : Nat → Nat} : nm_E Y (c_ad q u) c_C 112 = rw_I Y 0 := by
  rw [nm_E_I (by decide +kernel), show c_C.2.2.1 112 = 0 by decide +kernel, show c_C.1 112 = fun _ => 0 from rfl]
set_option maxRecDepth 100000 in
theorem c_e113 {Y : nm_Y} {q : Nat} {u : Nat → Nat} : nm_E Y (c_ad q u) c_C 113 = rw_I Y 0 := by
  rw [nm_E_I (by decide +kernel), show c_C.2.2.1 113 = 0 by decide +kernel, show c_C.1 113 = fun _ => 0 from rfl]
set_option maxRecDepth 100000 in
theorem c_e114 {Y : nm_Y} {q : Nat} {u : Nat → Nat} : nm_E Y (c_ad q u) c_C 114 = rw_I Y 0 := by
  rw [nm_E_I (by decide +kernel), show c_C.2.2.1 114 = 0 by decide +kernel, show c_C.1 114 = fun _ => 0 from rfl]
set_option maxRecDepth 100000 in
theorem c_e116 {Y : nm_Y} {q : Nat} {u : Nat → Nat} : nm_E Y (c_ad q u) c_C 116 = rw_I Y 0 := by
  rw [nm_E_I (by decide +kernel), show c_C.2.2.1 116 = 0 by decide +kernel, show c_C.1 116 = fun _ => 0 from rfl]
set_option maxRecDepth 100000 in
theorem c_e117 {Y : nm_Y} {q : Nat} {u : Nat → Nat} : nm_E Y (c_ad q u) c_C 117 = rw_I Y 0 := by
  rw [nm_E_I (by decide +kernel), show c_C.2.2.1 117 = 0 by decide +kernel, show c_C.1 117 = fun _ => 0 from rfl]
set_option maxRecDepth 100000 in
theorem c_e111 {Y : nm_Y} {q : Nat} {u : Nat → Nat} : nm_E Y (c_ad q u) c_C 111 = rw_J Y 64 := by
  rw [nm_E_J (by decide +kernel), show c_C.2.2.1 111 = 64 by decide +kernel, show c_C.2.1 111 = fun _ => 0 from rfl]
set_option maxRecDepth 100000 in
theorem c_e115 {Y : nm_Y} {q : Nat} {u : Nat → Nat} : nm_E Y (c_ad q u) c_C 115 = rw_I Y 64 := by
  rw [nm_E_I (by decide +kernel), show c_C.2.2.1 115 = 64 by decide +kernel, show c_C.1 115 = fun _ => 0 from rfl]
set_option maxRecDepth 100000 in
theorem c_e200 {Y : nm_Y} {q : Nat} {u : Nat → Nat} : nm_E Y (c_ad q u) c_C 200 = .inr (7, [.int 0, .int 0, .int 0, .ref (u 17), .ref (u 18), .ref (u 19), .ref (u 20), .ref (u 21), .ref (u 22), .ref (u 23), .ref (u 24)]) := by
  rw [nm_E_obj (ci := 7) (by decide +kernel) (by decide)]
  rw [show nm_fs (c_ad q u) c_C 200 7 = [.int 0, .int 0, .int 0, .ref (c_ad q u 201), .ref (c_ad q u 202), .ref (c_ad q u 203), .ref (c_ad q u 204), .ref (c_ad q u 205), .ref (c_ad q u 206), .ref (c_ad q u 207), .ref (c_ad q u 208)] from rfl]
  rw [c_a201, c_a202, c_a203, c_a204, c_a205, c_a206, c_a207, c_a208]
set_option maxRecDepth 100000 in
theorem c_e201 {Y : nm_Y} {q : Nat} {u : Nat → Nat} : nm_E Y (c_ad q u) c_C 201 = rw_I Y 0 := by
  rw [nm_E_I (by decide +kernel), show c_C.2.2.1 201 = 0 by decide +kernel, show c_C.1 201 = fun _ => 0 from rfl]
set_option maxRecDepth 100000 in
theorem c_e202 {Y : nm_Y} {q : Nat} {u : Nat → Nat} : nm_E Y (c_ad q u) c_C 202 = rw_I Y 16 := by
  rw [nm_E_I (by decide +kernel), show c_C.2.2.1 202 = 16 by decide +kernel, show c_C.1 202 = fun _ => 0 from rfl]
set_option maxRecDepth 100000 in
theorem c_e203 {Y : nm_Y} {q : Nat} {u : Nat → Nat} : nm_E Y (c_ad q u) c_C 203 = rw_I Y 16 := by
  rw [nm_E_I (by decide +kernel), show c_C.2.2.1 203 = 16 by decide +kernel, show c_C.1 203 = fun _ => 0 from rfl]
set_option maxRecDepth 100000 in
theorem c_e204 {Y : nm_Y} {q : Nat} {u : Nat → Nat} : nm_E Y (c_ad q u) c_C 204 = rw_I Y 16 := by
  rw [nm_E_I (by decide +kernel), show c_C.2.2.1 204 = 16 by decide +kernel, show c_C.1 204 = fun _ => 0 from rfl]
set_option maxRecDepth 100000 in
theorem c_e205 {Y : nm_Y} {q : Nat} {u : Nat → Nat} : nm_E Y (c_ad q u) c_C 205 = rw_I Y 16 := by
  rw [nm_E_I (by decide +kernel), show c_C.2.2.1 205 = 16 by decide +kernel, show c_C.1 205 = fun _ => 0 from rfl]
set_option maxRecDepth 100000 in
theorem c_e206 {Y : nm_Y} {q : Nat} {u : Nat → Nat} : nm_E Y (c_ad q u) c_C 206 = rw_I Y 16 := by
  rw [nm_E_I (by decide +kernel), show c_C.2.2.1 206 = 16 by decide +kernel, show c_C.1 206 = fun _ => 0 from rfl]
set_option maxRecDepth 100000 in
theorem c_e207 {Y : nm_Y} {q : Nat} {u : Nat → Nat} : nm_E Y (c_ad q u) c_C 207 = rw_I Y 16 := by
  rw [nm_E_I (by decide +kernel), show c_C.2.2.1 207 = 16 by decide +kernel, show c_C.1 207 = fun _ => 0 from rfl]
set_option maxRecDepth 100000 in
theorem c_e208 {Y : nm_Y} {q : Nat} {u : Nat → Nat} : nm_E Y (c_ad q u) c_C 208 = rw_J Y 64 := by
  rw [nm_E_J (by decide +kernel), show c_C.2.2.1 208 = 64 by decide +kernel, show c_C.2.1 208 = fun _ => 0 from rfl]
set_option maxRecDepth 100000 in
theorem c_e300 {Y : nm_Y} {q : Nat} {u : Nat → Nat} : nm_E Y (c_ad q u) c_C 300 = .inr (1, [.int 0, .int 0, .int 0, .int 0, .ref (u 26), .ref (u 34), .int (-1), .int (-1), .int (-1), .int 0, .ref (u 35), .ref (u 43), .ref (u 44), .ref (u 45)]) := by
  rw [nm_E_obj (ci := 1) (by decide +kernel) (by decide)]
  rw [show nm_fs (c_ad q u) c_C 300 1 = [.int 0, .int 0, .int 0, .int 0, .ref (c_ad q u 310), .ref (c_ad q u 301), .int (-1), .int (-1), .int (-1), .int 0, .ref (c_ad q u 320), .ref (c_ad q u 302), .ref (c_ad q u 303), .ref (c_ad q u 304)] from rfl]
  rw [c_a310, c_a301, c_a320, c_a302, c_a303, c_a304]
set_option maxRecDepth 100000 in
theorem c_e310 {Y : nm_Y} {q : Nat} {u : Nat → Nat} : nm_E Y (c_ad q u) c_C 310 = .inr (3, [.ref (u 32), .int 0, .ref (u 27), .ref (u 28), .ref (u 29), .ref (u 33), .ref (u 30), .int 0, .ref (u 31)]) := by
  rw [nm_E_obj (ci := 3) (by decide +kernel) (by decide)]
  rw [show nm_fs (c_ad q u) c_C 310 3 = [.ref (c_ad q u 311), .int 0, .ref (c_ad q u 312), .ref (c_ad q u 313), .ref (c_ad q u 314), .ref (c_ad q u 315), .ref (c_ad q u 316), .int 0, .ref (c_ad q u 317)] from rfl]
  rw [c_a311, c_a312, c_a313, c_a314, c_a315, c_a316, c_a317]
set_option maxRecDepth 100000 in
theorem c_e312 {Y : nm_Y} {q : Nat} {u : Nat → Nat} : nm_E Y (c_ad q u) c_C 312 = rw_I Y 0 := by
  rw [nm_E_I (by decide +kernel), show c_C.2.2.1 312 = 0 by decide +kernel, show c_C.1 312 = fun _ => 0 from rfl]
set_option maxRecDepth 100000 in
theorem c_e313 {Y : nm_Y} {q : Nat} {u : Nat → Nat} : nm_E Y (c_ad q u) c_C 313 = rw_I Y 0 := by
  rw [nm_E_I (by decide +kernel), show c_C.2.2.1 313 = 0 by decide +kernel, show c_C.1 313 = fun _ => 0 from rfl]
set_option maxRecDepth 100000 in
theorem c_e314 {Y : nm_Y} {q : Nat} {u : Nat → Nat} : nm_E Y (c_ad q u) c_C 314 = rw_I Y 0 := by
  rw [nm_E_I (by decide +kernel), show c_C.2.2.1 314 = 0 by decide +kernel, show c_C.1 314 = fun _ => 0 from rfl]
set_option maxRecDepth 100000 in
theorem c_e316 {Y : nm_Y} {q : Nat} {u : Nat → Nat} : nm_E Y (c_ad q u) c_C 316 = rw_I Y 0 := by
  rw [nm_E_I (by decide +kernel), show c_C.2.2.1 316 = 0 by decide +kernel, show c_C.1 316 = fun _ => 0 from rfl]
set_option maxRecDepth 100000 in
theorem c_e317 {Y : nm_Y} {q : Nat} {u : Nat → Nat} : nm_E Y (c_ad q u) c_C 317 = rw_I Y 0 := by
  rw [nm_E_I (by decide +kernel), show c_C.2.2.1 317 = 0 by decide +kernel, show c_C.1 317 = fun _ => 0 from rfl]
set_option maxRecDepth 100000 in
theorem c_e311 {Y : nm_Y} {q : Nat} {u : Nat → Nat} : nm_E Y (c_ad q u) c_C 311 = rw_J Y 1024 := by
  rw [nm_E_J (by decide +kernel), show c_C.2.2.1 311 = 1024 by decide +kernel, show c_C.2.1 311 = fun _ => 0 from rfl]
set_option maxRecDepth 100000 in
theorem c_e315 {Y : nm_Y} {q : Nat} {u : Nat → Nat} : nm_E Y (c_ad q u) c_C 315 = rw_I Y 1024 := by
  rw [nm_E_I (by decide +kernel), show c_C.2.2.1 315 = 1024 by decide +kernel, show c_C.1 315 = fun _ => 0 from rfl]
set_option maxRecDepth 100000 in
theorem c_e301 {Y : nm_Y} {q : Nat} {u : Nat → Nat} : nm_E Y (c_ad q u) c_C 301 = rw_I Y 24 := by
  rw [nm_E_I (by decide +kernel), show c_C.2.2.1 301 = 24 by decide +kernel, show c_C.1 301 = fun _ => 0 from rfl]
set_option maxRecDepth 100000 in
theorem c_e320 {Y : nm_Y} {q : Nat} {u : Nat → Nat} : nm_E Y (c_ad q u) c_C 320 = .inr (3, [.ref (u 41), .int 0, .ref (u 36), .ref (u 37), .ref (u 38), .ref (u 42), .ref (u 39), .int 0, .ref (u 40)]) := by
  rw [nm_E_obj (ci := 3) (by decide +kernel) (by decide)]
  rw [show nm_fs (c_ad q u) c_C 320 3 = [.ref (c_ad q u 321), .int 0, .ref (c_ad q u 322), .ref (c_ad q u 323), .ref (c_ad q u 324), .ref (c_ad q u 325), .ref (c_ad q u 326), .int 0, .ref (c_ad q u 327)] from rfl]
  rw [c_a321, c_a322, c_a323, c_a324, c_a325, c_a326, c_a327]
set_option maxRecDepth 100000 in
theorem c_e322 {Y : nm_Y} {q : Nat} {u : Nat → Nat} : nm_E Y (c_ad q u) c_C 322 = rw_I Y 0 := by
  rw [nm_E_I (by decide +kernel), show c_C.2.2.1 322 = 0 by decide +kernel, show c_C.1 322 = fun _ => 0 from rfl]
set_option maxRecDepth 100000 in
theorem c_e323 {Y : nm_Y} {q : Nat} {u : Nat → Nat} : nm_E Y (c_ad q u) c_C 323 = rw_I Y 0 := by
  rw [nm_E_I (by decide +kernel), show c_C.2.2.1 323 = 0 by decide +kernel, show c_C.1 323 = fun _ => 0 from rfl]
set_option maxRecDepth 100000 in
theorem c_e324 {Y : nm_Y} {q : Nat} {u : Nat → Nat} : nm_E Y (c_ad q u) c_C 324 = rw_I Y 0 := by
  rw [nm_E_I (by decide +kernel), show c_C.2.2.1 324 = 0 by decide +kernel, show c_C.1 324 = fun _ => 0 from rfl]
set_option maxRecDepth 100000 in
theorem c_e326 {Y : nm_Y} {q : Nat} {u : Nat → Nat} : nm_E Y (c_ad q u) c_C 326 = rw_I Y 0 := by
  rw [nm_E_I (by decide +kernel), show c_C.2.2.1 326 = 0 by decide +kernel, show c_C.1 326 = fun _ => 0 from rfl]
set_option maxRecDepth 100000 in
theorem c_e327 {Y : nm_Y} {q : Nat} {u : Nat → Nat} : nm_E Y (c_ad q u) c_C 327 = rw_I Y 0 := by
  rw [nm_E_I (by decide +kernel), show c_C.2.2.1 327 = 0 by decide +kernel, show c_C.1 327 = fun _ => 0 from rfl]
set_option maxRecDepth 100000 in
theorem c_e321 {Y : nm_Y} {q : Nat} {u : Nat → Nat} : nm_E Y (c_ad q u) c_C 321 = rw_J Y 64 := by
  rw [nm_E_J (by decide +kernel), show c_C.2.2.1 321 = 64 by decide +kernel, show c_C.2.1 321 = fun _ => 0 from rfl]
set_option maxRecDepth 100000 in
theorem c_e325 {Y : nm_Y} {q : Nat} {u : Nat → Nat} : nm_E Y (c_ad q u) c_C 325 = rw_I Y 64 := by
  rw [nm_E_I (by decide +kernel), show c_C.2.2.1 325 = 64 by decide +kernel, show c_C.1 325 = fun _ => 0 from rfl]
set_option maxRecDepth 100000 in
theorem c_e302 {Y : nm_Y} {q : Nat} {u : Nat → Nat} : nm_E Y (c_ad q u) c_C 302 = rw_I Y 0 := by
  rw [nm_E_I (by decide +kernel), show c_C.2.2.1 302 = 0 by decide +kernel, show c_C.1 302 = fun _ => 0 from rfl]
set_option maxRecDepth 100000 in
theorem c_e303 {Y : nm_Y} {q : Nat} {u : Nat → Nat} : nm_E Y (c_ad q u) c_C 303 = rw_I Y 0 := by
  rw [nm_E_I (by decide +kernel), show c_C.2.2.1 303 = 0 by decide +kernel, show c_C.1 303 = fun _ => 0 from rfl]
set_option maxRecDepth 100000 in
theorem c_e304 {Y : nm_Y} {q : Nat} {u : Nat → Nat} : nm_E Y (c_ad q u) c_C 304 = rw_I Y 0 := by
  rw [nm_E_I (by decide +kernel), show c_C.2.2.1 304 = 0 by decide +kernel, show c_C.1 304 = fun _ => 0 from rfl]
set_option maxRecDepth 100000 in
theorem c_e400 {Y : nm_Y} {q : Nat} {u : Nat → Nat} : nm_E Y (c_ad q u) c_C 400 = .inr (8, [.int 0, .int 0, .int 0, .int 0, .ref (u 47), .ref (u 48), .ref (u 49), .ref (u 50), .int 0]) := by
  rw [nm_E_obj (ci := 8) (by decide +kernel) (by decide)]
  rw [show nm_fs (c_ad q u) c_C 400 8 = [.int 0, .int 0, .int 0, .int 0, .ref (c_ad q u 401), .ref (c_ad q u 402), .ref (c_ad q u 403), .ref (c_ad q u 404), .int 0] from rfl]
  rw [c_a401, c_a402, c_a403, c_a404]
set_option maxRecDepth 100000 in
theorem c_e401 {Y : nm_Y} {q : Nat} {u : Nat → Nat} : nm_E Y (c_ad q u) c_C 401 = rw_I Y 12 := by
  rw [nm_E_I (by decide +kernel), show c_C.2.2.1 401 = 12 by decide +kernel, show c_C.1 401 = fun _ => 0 from rfl]
set_option maxRecDepth 100000 in
theorem c_e402 {Y : nm_Y} {q : Nat} {u : Nat → Nat} : nm_E Y (c_ad q u) c_C 402 = rw_I Y 12 := by
  rw [nm_E_I (by decide +kernel), show c_C.2.2.1 402 = 12 by decide +kernel, show c_C.1 402 = fun _ => 0 from rfl]
set_option maxRecDepth 100000 in
theorem c_e403 {Y : nm_Y} {q : Nat} {u : Nat → Nat} : nm_E Y (c_ad q u) c_C 403 = rw_I Y 12 := by
  rw [nm_E_I (by decide +kernel), show c_C.2.2.1 403 = 12 by decide +kernel, show c_C.1 403 = fun _ => 0 from rfl]
set_option maxRecDepth 100000 in
theorem c_e404 {Y : nm_Y} {q : Nat} {u : Nat → Nat} : nm_E Y (c_ad q u) c_C 404 = rw_I Y 24 := by
  rw [nm_E_I (by decide +kernel), show c_C.2.2.1 404 = 24 by decide +kernel, show c_C.1 404 = fun _ => 0 from rfl]
set_option maxRecDepth 100000 in
theorem c_e2 {Y : nm_Y} {q : Nat} {u : Nat → Nat} : nm_E Y (c_ad q u) c_C 2 = rw_I Y 8 := by
  rw [nm_E_I (by decide +kernel), show c_C.2.2.1 2 = 8 by decide +kernel, show c_C.1 2 = fun _ => 0 from rfl]
set_option maxRecDepth 100000 in
theorem c_e3 {Y : nm_Y} {q : Nat} {u : Nat → Nat} : nm_E Y (c_ad q u) c_C 3 = rw_J Y 64 := by
  rw [nm_E_J (by decide +kernel), show c_C.2.2.1 3 = 64 by decide +kernel, show c_C.2.1 3 = fun _ => 0 from rfl]
set_option maxRecDepth 100000 in
theorem c_e1000 {Y : nm_Y} {q : Nat} {u : Nat → Nat} : nm_E Y (c_ad q u) c_C 1000 = .inr (0, [.ref (u 54), .int 0, .int 0, .ref (u 55), .ref (u 56), .int 0]) := by
  rw [nm_E_obj (ci := 0) (by decide +kernel) (by decide)]
  rw [show nm_fs (c_ad q u) c_C 1000 0 = [.ref (c_ad q u 1001), .int 0, .int 0, .ref (c_ad q u 1002), .ref (c_ad q u 1003), .int 0] from rfl]
  rw [c_a1001, c_a1002, c_a1003]
set_option maxRecDepth 100000 in
theorem c_e1001 {Y : nm_Y} {q : Nat} {u : Nat → Nat} : nm_E Y (c_ad q u) c_C 1001 = rw_S Y 16 (fun _ => none) := by
  rw [nm_E_S (by decide +kernel), show c_C.2.2.1 1001 = 16 by decide +kernel]
  unfold rw_S
  congr 7
  funext k
  rw [if_neg]
  rintro ⟨h1, h2⟩
  exact h2 ((show ∀ k, k < 16 → c_K (1001 + 9 + k) = 0 by decide +kernel) k h1)
set_option maxRecDepth 100000 in
theorem c_e1002 {Y : nm_Y} {q : Nat} {u : Nat → Nat} : nm_E Y (c_ad q u) c_C 1002 = rw_J Y 0 := by
  rw [nm_E_J (by decide +kernel), show c_C.2.2.1 1002 = 0 by decide +kernel, show c_C.2.1 1002 = fun _ => 0 from rfl]
set_option maxRecDepth 100000 in
theorem c_e1003 {Y : nm_Y} {q : Nat} {u : Nat → Nat} : nm_E Y (c_ad q u) c_C 1003 = rw_I Y 0 := by
  rw [nm_E_I (by decide +kernel), show c_C.2.2.1 1003 = 0 by decide +kernel, show c_C.1 1003 = fun _ => 0 from rfl]
set_option maxRecDepth 100000 in
theorem c_e1100 {Y : nm_Y} {q : Nat} {u : Nat → Nat} : nm_E Y (c_ad q u) c_C 1100 = .inr (0, [.ref (u 58), .int 0, .int 0, .ref (u 59), .ref (u 60), .int 0]) := by
  rw [nm_E_obj (ci := 0) (by decide +kernel) (by decide)]
  rw [show nm_fs (c_ad q u) c_C 1100 0 = [.ref (c_ad q u 1101), .int 0, .int 0, .ref (c_ad q u 1102), .ref (c_ad q u 1103), .int 0] from rfl]
  rw [c_a1101, c_a1102, c_a1103]
set_option maxRecDepth 100000 in
theorem c_e1101 {Y : nm_Y} {q : Nat} {u : Nat → Nat} : nm_E Y (c_ad q u) c_C 1101 = rw_S Y 16 (fun _ => none) := by
  rw [nm_E_S (by decide +kernel), show c_C.2.2.1 1101 = 16 by decide +kernel]
  unfold rw_S
  congr 7
  funext k
  rw [if_neg]
  rintro ⟨h1, h2⟩
  exact h2 ((show ∀ k, k < 16 → c_K (1101 + 9 + k) = 0 by decide +kernel) k h1)
set_option maxRecDepth 100000 in
theorem c_e1102 {Y : nm_Y} {q : Nat} {u : Nat → Nat} : nm_E Y (c_ad q u) c_C 1102 = rw_J Y 0 := by
  rw [nm_E_J (by decide +kernel), show c_C.2.2.1 1102 = 0 by decide +kernel, show c_C.2.1 1102 = fun _ => 0 from rfl]
set_option maxRecDepth 100000 in
theorem c_e1103 {Y : nm_Y} {q : Nat} {u : Nat → Nat} : nm_E Y (c_ad q u) c_C 1103 = rw_I Y 0 := by
  rw [nm_E_I (by decide +kernel), show c_C.2.2.1 1103 = 0 by decide +kernel, show c_C.1 1103 = fun _ => 0 from rfl]
set_option maxRecDepth 100000 in
theorem c_e1200 {Y : nm_Y} {q : Nat} {u : Nat → Nat} : nm_E Y (c_ad q u) c_C 1200 = .inr (0, [.ref (u 62), .int 0, .int 0, .ref (u 63), .ref (u 64), .int 0]) := by
  rw [nm_E_obj (ci := 0) (by decide +kernel) (by decide)]
  rw [show nm_fs (c_ad q u) c_C 1200 0 = [.ref (c_ad q u 1201), .int 0, .int 0, .ref (c_ad q u 1202), .ref (c_ad q u 1203), .int 0] from rfl]
  rw [c_a1201, c_a1202, c_a1203]
set_option maxRecDepth 100000 in
theorem c_e1201 {Y : nm_Y} {q : Nat} {u : Nat → Nat} : nm_E Y (c_ad q u) c_C 1201 = rw_S Y 16 (fun _ => none) := by
  rw [nm_E_S (by decide +kernel), show c_C.2.2.1 1201 = 16 by decide +kernel]
  unfold rw_S
  congr 7
  funext k
  rw [if_neg]
  rintro ⟨h1, h2⟩
  exact h2 ((show ∀ k, k < 16 → c_K (1201 + 9 + k) = 0 by decide +kernel) k h1)
set_option maxRecDepth 100000 in
theorem c_e1202 {Y : nm_Y} {q : Nat} {u : Nat → Nat} : nm_E Y (c_ad q u) c_C 1202 = rw_J Y 0 := by
  rw [nm_E_J (by decide +kernel), show c_C.2.2.1 1202 = 0 by decide +kernel, show c_C.2.1 1202 = fun _ => 0 from rfl]
set_option maxRecDepth 100000 in
theorem c_e1203 {Y : nm_Y} {q : Nat} {u : Nat → Nat} : nm_E Y (c_ad q u) c_C 1203 = rw_I Y 0 := by
  rw [nm_E_I (by decide +kernel), show c_C.2.2.1 1203 = 0 by decide +kernel, show c_C.1 1203 = fun _ => 0 from rfl]
set_option maxRecDepth 100000 in
theorem c_e1300 {Y : nm_Y} {q : Nat} {u : Nat → Nat} : nm_E Y (c_ad q u) c_C 1300 = .inr (0, [.ref (u 66), .int 0, .int 0, .ref (u 67), .ref (u 68), .int 0]) := by
  rw [nm_E_obj (ci := 0) (by decide +kernel) (by decide)]
  rw [show nm_fs (c_ad q u) c_C 1300 0 = [.ref (c_ad q u 1301), .int 0, .int 0, .ref (c_ad q u 1302), .ref (c_ad q u 1303), .int 0] from rfl]
  rw [c_a1301, c_a1302, c_a1303]
set_option maxRecDepth 100000 in
theorem c_e1301 {Y : nm_Y} {q : Nat} {u : Nat → Nat} : nm_E Y (c_ad q u) c_C 1301 = rw_S Y 16 (fun _ => none) := by
  rw [nm_E_S (by decide +kernel), show c_C.2.2.1 1301 = 16 by decide +kernel]
  unfold rw_S
  congr 7
  funext k
  rw [if_neg]
  rintro ⟨h1, h2⟩
  exact h2 ((show ∀ k, k < 16 → c_K (1301 + 9 + k) = 0 by decide +kernel) k h1)
set_option maxRecDepth 100000 in
theorem c_e1302 {Y : nm_Y} {q : Nat} {u : Nat → Nat} : nm_E Y (c_ad q u) c_C 1302 = rw_J Y 0 := by
  rw [nm_E_J (by decide +kernel), show c_C.2.2.1 1302 = 0 by decide +kernel, show c_C.2.1 1302 = fun _ => 0 from rfl]
set_option maxRecDepth 100000 in
theorem c_e1303 {Y : nm_Y} {q : Nat} {u : Nat → Nat} : nm_E Y (c_ad q u) c_C 1303 = rw_I Y 0 := by
  rw [nm_E_I (by decide +kernel), show c_C.2.2.1 1303 = 0 by decide +kernel, show c_C.1 1303 = fun _ => 0 from rfl]
set_option maxRecDepth 100000 in
theorem c_e1400 {Y : nm_Y} {q : Nat} {u : Nat → Nat} : nm_E Y (c_ad q u) c_C 1400 = .inr (0, [.ref (u 70), .int 0, .int 0, .ref (u 71), .ref (u 72), .int 0]) := by
  rw [nm_E_obj (ci := 0) (by decide +kernel) (by decide)]
  rw [show nm_fs (c_ad q u) c_C 1400 0 = [.ref (c_ad q u 1401), .int 0, .int 0, .ref (c_ad q u 1402), .ref (c_ad q u 1403), .int 0] from rfl]
  rw [c_a1401, c_a1402, c_a1403]
set_option maxRecDepth 100000 in
theorem c_e1401 {Y : nm_Y} {q : Nat} {u : Nat → Nat} : nm_E Y (c_ad q u) c_C 1401 = rw_S Y 16 (fun _ => none) := by
  rw [nm_E_S (by decide +kernel), show c_C.2.2.1 1401 = 16 by decide +kernel]
  unfold rw_S
  congr 7
  funext k
  rw [if_neg]
  rintro ⟨h1, h2⟩
  exact h2 ((show ∀ k, k < 16 → c_K (1401 + 9 + k) = 0 by decide +kernel) k h1)
set_option maxRecDepth 100000 in
theorem c_e1402 {Y : nm_Y} {q : Nat} {u : Nat → Nat} : nm_E Y (c_ad q u) c_C 1402 = rw_J Y 0 := by
  rw [nm_E_J (by decide +kernel), show c_C.2.2.1 1402 = 0 by decide +kernel, show c_C.2.1 1402 = fun _ => 0 from rfl]
set_option maxRecDepth 100000 in
theorem c_e1403 {Y : nm_Y} {q : Nat} {u : Nat → Nat} : nm_E Y (c_ad q u) c_C 1403 = rw_I Y 0 := by
  rw [nm_E_I (by decide +kernel), show c_C.2.2.1 1403 = 0 by decide +kernel, show c_C.1 1403 = fun _ => 0 from rfl]
set_option maxRecDepth 100000 in
theorem c_e1500 {Y : nm_Y} {q : Nat} {u : Nat → Nat} : nm_E Y (c_ad q u) c_C 1500 = .inr (0, [.ref (u 74), .int 0, .int 0, .ref (u 75), .ref (u 76), .int 0]) := by
  rw [nm_E_obj (ci := 0) (by decide +kernel) (by decide)]
  rw [show nm_fs (c_ad q u) c_C 1500 0 = [.ref (c_ad q u 1501), .int 0, .int 0, .ref (c_ad q u 1502), .ref (c_ad q u 1503), .int 0] from rfl]
  rw [c_a1501, c_a1502, c_a1503]
set_option maxRecDepth 100000 in
theorem c_e1501 {Y : nm_Y} {q : Nat} {u : Nat → Nat} : nm_E Y (c_ad q u) c_C 1501 = rw_S Y 16 (fun _ => none) := by
  rw [nm_E_S (by decide +kernel), show c_C.2.2.1 1501 = 16 by decide +kernel]
  unfold rw_S
  congr 7
  funext k
  rw [if_neg]
  rintro ⟨h1, h2⟩
  exact h2 ((show ∀ k, k < 16 → c_K (1501 + 9 + k) = 0 by decide +kernel) k h1)
set_option maxRecDepth 100000 in
theorem c_e1502 {Y : nm_Y} {q : Nat} {u : Nat → Nat} : nm_E Y (c_ad q u) c_C 1502 = rw_J Y 0 := by
  rw [nm_E_J (by decide +kernel), show c_C.2.2.1 1502 = 0 by decide +kernel, show c_C.2.1 1502 = fun _ => 0 from rfl]
set_option maxRecDepth 100000 in
theorem c_e1503 {Y : nm_Y} {q : Nat} {u : Nat → Nat} : nm_E Y (c_ad q u) c_C 1503 = rw_I Y 0 := by
  rw [nm_E_I (by decide +kernel), show c_C.2.2.1 1503 = 0 by decide +kernel, show c_C.1 1503 = fun _ => 0 from rfl]
set_option maxRecDepth 100000 in
theorem c_e1600 {Y : nm_Y} {q : Nat} {u : Nat → Nat} : nm_E Y (c_ad q u) c_C 1600 = .inr (0, [.ref (u 78), .int 0, .int 0, .ref (u 79), .ref (u 80), .int 0]) := by
  rw [nm_E_obj (ci := 0) (by decide +kernel) (by decide)]
  rw [show nm_fs (c_ad q u) c_C 1600 0 = [.ref (c_ad q u 1601), .int 0, .int 0, .ref (c_ad q u 1602), .ref (c_ad q u 1603), .int 0] from rfl]
  rw [c_a1601, c_a1602, c_a1603]
set_option maxRecDepth 100000 in
theorem c_e1601 {Y : nm_Y} {q : Nat} {u : Nat → Nat} : nm_E Y (c_ad q u) c_C 1601 = rw_S Y 16 (fun _ => none) := by
  rw [nm_E_S (by decide +kernel), show c_C.2.2.1 1601 = 16 by decide +kernel]
  unfold rw_S
  congr 7
  funext k
  rw [if_neg]
  rintro ⟨h1, h2⟩
  exact h2 ((show ∀ k, k < 16 → c_K (1601 + 9 + k) = 0 by decide +kernel) k h1)
set_option maxRecDepth 100000 in
theorem c_e1602 {Y : nm_Y} {q : Nat} {u : Nat → Nat} : nm_E Y (c_ad q u) c_C 1602 = rw_J Y 0 := by
  rw [nm_E_J (by decide +kernel), show c_C.2.2.1 1602 = 0 by decide +kernel, show c_C.2.1 1602 = fun _ => 0 from rfl]
set_option maxRecDepth 100000 in
theorem c_e1603 {Y : nm_Y} {q : Nat} {u : Nat → Nat} : nm_E Y (c_ad q u) c_C 1603 = rw_I Y 0 := by
  rw [nm_E_I (by decide +kernel), show c_C.2.2.1 1603 = 0 by decide +kernel, show c_C.1 1603 = fun _ => 0 from rfl]
set_option maxRecDepth 100000 in
theorem c_e1700 {Y : nm_Y} {q : Nat} {u : Nat → Nat} : nm_E Y (c_ad q u) c_C 1700 = .inr (0, [.ref (u 82), .int 0, .int 0, .ref (u 83), .ref (u 84), .int 0]) := by
  rw [nm_E_obj (ci := 0) (by decide +kernel) (by decide)]
  rw [show nm_fs (c_ad q u) c_C 1700 0 = [.ref (c_ad q u 1701), .int 0, .int 0, .ref (c_ad q u 1702), .ref (c_ad q u 1703), .int 0] from rfl]
  rw [c_a1701, c_a1702, c_a1703]
set_option maxRecDepth 100000 in
theorem c_e1701 {Y : nm_Y} {q : Nat} {u : Nat → Nat} : nm_E Y (c_ad q u) c_C 1701 = rw_S Y 16 (fun _ => none) := by
  rw [nm_E_S (by decide +kernel), show c_C.2.2.1 1701 = 16 by decide +kernel]
  unfold rw_S
  congr 7
  funext k
  rw [if_neg]
  rintro ⟨h1, h2⟩
  exact h2 ((show ∀ k, k < 16 → c_K (1701 + 9 + k) = 0 by decide +kernel) k h1)
set_option maxRecDepth 100000 in
theorem c_e1702 {Y : nm_Y} {q : Nat} {u : Nat → Nat} : nm_E Y (c_ad q u) c_C 1702 = rw_J Y 0 := by
  rw [nm_E_J (by decide +kernel), show c_C.2.2.1 1702 = 0 by decide +kernel, show c_C.2.1 1702 = fun _ => 0 from rfl]
set_option maxRecDepth 100000 in
theorem c_e1703 {Y : nm_Y} {q : Nat} {u : Nat → Nat} : nm_E Y (c_ad q u) c_C 1703 = rw_I Y 0 := by
  rw [nm_E_I (by decide +kernel), show c_C.2.2.1 1703 = 0 by decide +kernel, show c_C.1 1703 = fun _ => 0 from rfl]
set_option maxRecDepth 100000 in
theorem c_world {Y : nm_Y} {q : Nat} {u : Nat → Nat} : ([(q, .inr (9, [.ref (u 1), .ref (u 2), .ref (u 16), .ref (u 25), .ref (u 46), .ref (u 51), .ref (u 52), .long 0, .int 0])), ((u 1), rw_C Y 8 (va_up (va_up (va_up (va_up (va_up (va_up (va_up (va_up (fun _ => none) 0 (some (u 53))) 1 (some (u 57))) 2 (some (u 61))) 3 (some (u 65))) 4 (some (u 69))) 5 (some (u 73))) 6 (some (u 77))) 7 (some (u 81)))), ((u 2), .inr (2, [.int 0, .ref (u 3), .ref (u 4), .int 0, .ref (u 5), .ref (u 6), .ref (u 7), .ref (u 8)])), ((u 3), rw_J Y 1024), ((u 4), rw_I Y 200), ((u 5), rw_M Y 8), ((u 6), rw_I Y 8), ((u 7), rw_I Y 8), ((u 8), .inr (3, [.ref (u 14), .int 0, .ref (u 9), .ref (u 10), .ref (u 11), .ref (u 15), .ref (u 12), .int 0, .ref (u 13)])), ((u 9), rw_I Y 0), ((u 10), rw_I Y 0), ((u 11), rw_I Y 0), ((u 12), rw_I Y 0), ((u 13), rw_I Y 0), ((u 14), rw_J Y 64), ((u 15), rw_I Y 64), ((u 16), .inr (7, [.int 0, .int 0, .int 0, .ref (u 17), .ref (u 18), .ref (u 19), .ref (u 20), .ref (u 21), .ref (u 22), .ref (u 23), .ref (u 24)])), ((u 17), rw_I Y 0), ((u 18), rw_I Y 16), ((u 19), rw_I Y 16), ((u 20), rw_I Y 16), ((u 21), rw_I Y 16), ((u 22), rw_I Y 16), ((u 23), rw_I Y 16), ((u 24), rw_J Y 64), ((u 25), .inr (1, [.int 0, .int 0, .int 0, .int 0, .ref (u 26), .ref (u 34), .int (-1), .int (-1), .int (-1), .int 0, .ref (u 35), .ref (u 43), .ref (u 44), .ref (u 45)])), ((u 26), .inr (3, [.ref (u 32), .int 0, .ref (u 27), .ref (u 28), .ref (u 29), .ref (u 33), .ref (u 30), .int 0, .ref (u 31)])), ((u 27), rw_I Y 0), ((u 28), rw_I Y 0), ((u 29), rw_I Y 0), ((u 30), rw_I Y 0), ((u 31), rw_I Y 0), ((u 32), rw_J Y 1024), ((u 33), rw_I Y 1024), ((u 34), rw_I Y 24), ((u 35), .inr (3, [.ref (u 41), .int 0, .ref (u 36), .ref (u 37), .ref (u 38), .ref (u 42), .ref (u 39), .int 0, .ref (u 40)])), ((u 36), rw_I Y 0), ((u 37), rw_I Y 0), ((u 38), rw_I Y 0), ((u 39), rw_I Y 0), ((u 40), rw_I Y 0), ((u 41), rw_J Y 64), ((u 42), rw_I Y 64), ((u 43), rw_I Y 0), ((u 44), rw_I Y 0), ((u 45), rw_I Y 0), ((u 46), .inr (8, [.int 0, .int 0, .int 0, .int 0, .ref (u 47), .ref (u 48), .ref (u 49), .ref (u 50), .int 0])), ((u 47), rw_I Y 12), ((u 48), rw_I Y 12), ((u 49), rw_I Y 12), ((u 50), rw_I Y 24), ((u 51), rw_I Y 8), ((u 52), rw_J Y 64), ((u 53), .inr (0, [.ref (u 54), .int 0, .int 0, .ref (u 55), .ref (u 56), .int 0])), ((u 54), rw_S Y 16 (fun _ => none)), ((u 55), rw_J Y 0), ((u 56), rw_I Y 0), ((u 57), .inr (0, [.ref (u 58), .int 0, .int 0, .ref (u 59), .ref (u 60), .int 0])), ((u 58), rw_S Y 16 (fun _ => none)), ((u 59), rw_J Y 0), ((u 60), rw_I Y 0), ((u 61), .inr (0, [.ref (u 62), .int 0, .int 0, .ref (u 63), .ref (u 64), .int 0])), ((u 62), rw_S Y 16 (fun _ => none)), ((u 63), rw_J Y 0), ((u 64), rw_I Y 0), ((u 65), .inr (0, [.ref (u 66), .int 0, .int 0, .ref (u 67), .ref (u 68), .int 0])), ((u 66), rw_S Y 16 (fun _ => none)), ((u 67), rw_J Y 0), ((u 68), rw_I Y 0), ((u 69), .inr (0, [.ref (u 70), .int 0, .int 0, .ref (u 71), .ref (u 72), .int 0])), ((u 70), rw_S Y 16 (fun _ => none)), ((u 71), rw_J Y 0), ((u 72), rw_I Y 0), ((u 73), .inr (0, [.ref (u 74), .int 0, .int 0, .ref (u 75), .ref (u 76), .int 0])), ((u 74), rw_S Y 16 (fun _ => none)), ((u 75), rw_J Y 0), ((u 76), rw_I Y 0), ((u 77), .inr (0, [.ref (u 78), .int 0, .int 0, .ref (u 79), .ref (u 80), .int 0])), ((u 78), rw_S Y 16 (fun _ => none)), ((u 79), rw_J Y 0), ((u 80), rw_I Y 0), ((u 81), .inr (0, [.ref (u 82), .int 0, .int 0, .ref (u 83), .ref (u 84), .int 0])), ((u 82), rw_S Y 16 (fun _ => none)), ((u 83), rw_J Y 0), ((u 84), rw_I Y 0)] : va_W) = nm_w c_nl (c_ad q u) (nm_E Y (c_ad q u) c_C) := by
  show _ = [(c_ad q u 0, nm_E Y (c_ad q u) c_C 0), (c_ad q u 1, nm_E Y (c_ad q u) c_C 1), (c_ad q u 100, nm_E Y (c_ad q u) c_C 100), (c_ad q u 101, nm_E Y (c_ad q u) c_C 101), (c_ad q u 102, nm_E Y (c_ad q u) c_C 102), (c_ad q u 103, nm_E Y (c_ad q u) c_C 103), (c_ad q u 104, nm_E Y (c_ad q u) c_C 104), (c_ad q u 105, nm_E Y (c_ad q u) c_C 105), (c_ad q u 110, nm_E Y (c_ad q u) c_C 110), (c_ad q u 112, nm_E Y (c_ad q u) c_C 112), (c_ad q u 113, nm_E Y (c_ad q u) c_C 113), (c_ad q u 114, nm_E Y (c_ad q u) c_C 114), (c_ad q u 116, nm_E Y (c_ad q u) c_C 116), (c_ad q u 117, nm_E Y (c_ad q u) c_C 117), (c_ad q u 111, nm_E Y (c_ad q u) c_C 111), (c_ad q u 115, nm_E Y (c_ad q u) c_C 115), (c_ad q u 200, nm_E Y (c_ad q u) c_C 200), (c_ad q u 201, nm_E Y (c_ad q u) c_C 201), (c_ad q u 202, nm_E Y (c_ad q u) c_C 202), (c_ad q u 203, nm_E Y (c_ad q u) c_C 203), (c_ad q u 204, nm_E Y (c_ad q u) c_C 204), (c_ad q u 205, nm_E Y (c_ad q u) c_C 205), (c_ad q u 206, nm_E Y (c_ad q u) c_C 206), (c_ad q u 207, nm_E Y (c_ad q u) c_C 207), (c_ad q u 208, nm_E Y (c_ad q u) c_C 208), (c_ad q u 300, nm_E Y (c_ad q u) c_C 300), (c_ad q u 310, nm_E Y (c_ad q u) c_C 310), (c_ad q u 312, nm_E Y (c_ad q u) c_C 312), (c_ad q u 313, nm_E Y (c_ad q u) c_C 313), (c_ad q u 314, nm_E Y (c_ad q u) c_C 314), (c_ad q u 316, nm_E Y (c_ad q u) c_C 316), (c_ad q u 317, nm_E Y (c_ad q u) c_C 317), (c_ad q u 311, nm_E Y (c_ad q u) c_C 311), (c_ad q u 315, nm_E Y (c_ad q u) c_C 315), (c_ad q u 301, nm_E Y (c_ad q u) c_C 301), (c_ad q u 320, nm_E Y (c_ad q u) c_C 320), (c_ad q u 322, nm_E Y (c_ad q u) c_C 322), (c_ad q u 323, nm_E Y (c_ad q u) c_C 323), (c_ad q u 324, nm_E Y (c_ad q u) c_C 324), (c_ad q u 326, nm_E Y (c_ad q u) c_C 326), (c_ad q u 327, nm_E Y (c_ad q u) c_C 327), (c_ad q u 321, nm_E Y (c_ad q u) c_C 321), (c_ad q u 325, nm_E Y (c_ad q u) c_C 325), (c_ad q u 302, nm_E Y (c_ad q u) c_C 302), (c_ad q u 303, nm_E Y (c_ad q u) c_C 303), (c_ad q u 304, nm_E Y (c_ad q u) c_C 304), (c_ad q u 400, nm_E Y (c_ad q u) c_C 400), (c_ad q u 401, nm_E Y (c_ad q u) c_C 401), (c_ad q u 402, nm_E Y (c_ad q u) c_C 402), (c_ad q u 403, nm_E Y (c_ad q u) c_C 403), (c_ad q u 404, nm_E Y (c_ad q u) c_C 404), (c_ad q u 2, nm_E Y (c_ad q u) c_C 2), (c_ad q u 3, nm_E Y (c_ad q u) c_C 3), (c_ad q u 1000, nm_E Y (c_ad q u) c_C 1000), (c_ad q u 1001, nm_E Y (c_ad q u) c_C 1001), (c_ad q u 1002, nm_E Y (c_ad q u) c_C 1002), (c_ad q u 1003, nm_E Y (c_ad q u) c_C 1003), (c_ad q u 1100, nm_E Y (c_ad q u) c_C 1100), (c_ad q u 1101, nm_E Y (c_ad q u) c_C 1101), (c_ad q u 1102, nm_E Y (c_ad q u) c_C 1102), (c_ad q u 1103, nm_E Y (c_ad q u) c_C 1103), (c_ad q u 1200, nm_E Y (c_ad q u) c_C 1200), (c_ad q u 1201, nm_E Y (c_ad q u) c_C 1201), (c_ad q u 1202, nm_E Y (c_ad q u) c_C 1202), (c_ad q u 1203, nm_E Y (c_ad q u) c_C 1203), (c_ad q u 1300, nm_E Y (c_ad q u) c_C 1300), (c_ad q u 1301, nm_E Y (c_ad q u) c_C 1301), (c_ad q u 1302, nm_E Y (c_ad q u) c_C 1302), (c_ad q u 1303, nm_E Y (c_ad q u) c_C 1303), (c_ad q u 1400, nm_E Y (c_ad q u) c_C 1400), (c_ad q u 1401, nm_E Y (c_ad q u) c_C 1401), (c_ad q u 1402, nm_E Y (c_ad q u) c_C 1402), (c_ad q u 1403, nm_E Y (c_ad q u) c_C 1403), (c_ad q u 1500, nm_E Y (c_ad q u) c_C 1500), (c_ad q u 1501, nm_E Y (c_ad q u) c_C 1501), (c_ad q u 1502, nm_E Y (c_ad q u) c_C 1502), (c_ad q u 1503, nm_E Y (c_ad q u) c_C 1503), (c_ad q u 1600, nm_E Y (c_ad q u) c_C 1600), (c_ad q u 1601, nm_E Y (c_ad q u) c_C 1601), (c_ad q u 1602, nm_E Y (c_ad q u) c_C 1602), (c_ad q u 1603, nm_E Y (c_ad q u) c_C 1603), (c_ad q u 1700, nm_E Y (c_ad q u) c_C 1700), (c_ad q u 1701, nm_E Y (c_ad q u) c_C 1701), (c_ad q u 1702, nm_E Y (c_ad q u) c_C 1702), (c_ad q u 1703, nm_E Y (c_ad q u) c_C 1703)]
  rw [c_e0, c_e1, c_e100, c_e101, c_e102, c_e103, c_e104, c_e105, c_e110, c_e112, c_e113, c_e114, c_e116, c_e117, c_e111, c_e115, c_e200, c_e201, c_e202, c_e203, c_e204, c_e205, c_e206, c_e207, c_e208, c_e300, c_e310, c_e312, c_e313, c_e314, c_e316, c_e317, c_e311, c_e315, c_e301, c_e320, c_e322, c_e323, c_e324, c_e326, c_e327, c_e321, c_e325, c_e302, c_e303, c_e304, c_e400, c_e401, c_e402, c_e403, c_e404, c_e2, c_e3, c_e1000, c_e1001, c_e1002, c_e1003, c_e1100, c_e1101, c_e1102, c_e1103, c_e1200, c_e1201, c_e1202, c_e1203, c_e1300, c_e1301, c_e1302, c_e1303, c_e1400, c_e1401, c_e1402, c_e1403, c_e1500, c_e1501, c_e1502, c_e1503, c_e1600, c_e1601, c_e1602, c_e1603, c_e1700, c_e1701, c_e1702, c_e1703]
  rw [c_a1, c_a100, c_a101, c_a102, c_a103, c_a104, c_a105, c_a110, c_a112, c_a113, c_a114, c_a116, c_a117, c_a111, c_a115, c_a200, c_a201, c_a202, c_a203, c_a204, c_a205, c_a206, c_a207, c_a208, c_a300, c_a310, c_a312, c_a313, c_a314, c_a316, c_a317, c_a311, c_a315, c_a301, c_a320, c_a322, c_a323, c_a324, c_a326, c_a327, c_a321, c_a325, c_a302, c_a303, c_a304, c_a400, c_a401, c_a402, c_a403, c_a404, c_a2, c_a3, c_a1000, c_a1001, c_a1002, c_a1003, c_a1100, c_a1101, c_a1102, c_a1103, c_a1200, c_a1201, c_a1202, c_a1203, c_a1300, c_a1301, c_a1302, c_a1303, c_a1400, c_a1401, c_a1402, c_a1403, c_a1500, c_a1501, c_a1502, c_a1503, c_a1600, c_a1601, c_a1602, c_a1603, c_a1700, c_a1701, c_a1702, c_a1703]
  rfl
set_option maxRecDepth 100000 in
theorem m_e0 {Y : nm_Y} {q : Nat} {u : Nat → Nat} : nm_E Y (m_ad q u) m_C 0 = .inr (10, [.ref (u 1), .ref (u 2), .ref (u 3), .ref (u 4), .ref (u 5), .ref (u 6), .ref (u 7), .ref (u 8), .ref (u 9), .ref (u 10), .ref (u 11), .ref (u 12), .ref (u 13), .ref (u 14), .ref (u 15), .ref (u 16), .ref (u 17), .int 0, .int 0, .ref (u 18), .int 0, .int 0, .int 0, .ref (u 19), .ref (u 20), .ref (u 21), .int 0, .ref (u 22), .ref (u 23), .ref (u 24), .ref (u 25), .ref (u 26), .ref (u 27), .int 0, .int 0, .ref (u 28), .ref (u 29), .ref (u 30), .ref (u 31), .int 0, .ref (u 32), .ref (u 33), .ref (u 34), .ref (u 35), .ref (u 36), .ref (u 37), .int 0, .int 0, .ref (u 38), .ref (u 39), .ref (u 40), .ref (u 41), .ref (u 42), .int 0, .int (-1), .int 0, .int 0, .int 0, .ref (u 43), .ref (u 44), .int 0, .ref (u 45), .ref (u 46), .ref (u 47), .ref (u 48), .int 0, .ref (u 49), .ref (u 50), .ref (u 51), .ref (u 52), .int 0, .int 0, .int 0, .ref (u 53), .ref (u 54), .ref (u 55), .ref (u 56), .ref (u 57), .ref (u 58), .int 0]) := by
  rw [nm_E_obj (ci := 10) (by decide +kernel) (by decide)]
  rw [show nm_fs (m_ad q u) m_C 0 10 = [.ref (m_ad q u 1), .ref (m_ad q u 2), .ref (m_ad q u 3), .ref (m_ad q u 4), .ref (m_ad q u 5), .ref (m_ad q u 6), .ref (m_ad q u 7), .ref (m_ad q u 8), .ref (m_ad q u 9), .ref (m_ad q u 10), .ref (m_ad q u 11), .ref (m_ad q u 12), .ref (m_ad q u 13), .ref (m_ad q u 14), .ref (m_ad q u 15), .ref (m_ad q u 16), .ref (m_ad q u 17), .int 0, .int 0, .ref (m_ad q u 20), .int 0, .int 0, .int 0, .ref (m_ad q u 24), .ref (m_ad q u 25), .ref (m_ad q u 26), .int 0, .ref (m_ad q u 28), .ref (m_ad q u 29), .ref (m_ad q u 30), .ref (m_ad q u 31), .ref (m_ad q u 32), .ref (m_ad q u 33), .int 0, .int 0, .ref (m_ad q u 36), .ref (m_ad q u 37), .ref (m_ad q u 38), .ref (m_ad q u 39), .int 0, .ref (m_ad q u 41), .ref (m_ad q u 42), .ref (m_ad q u 43), .ref (m_ad q u 44), .ref (m_ad q u 45), .ref (m_ad q u 46), .int 0, .int 0, .ref (m_ad q u 49), .ref (m_ad q u 50), .ref (m_ad q u 51), .ref (m_ad q u 52), .ref (m_ad q u 53), .int 0, .int (-1), .int 0, .int 0, .int 0, .ref (m_ad q u 59), .ref (m_ad q u 60), .int 0, .ref (m_ad q u 62), .ref (m_ad q u 63), .ref (m_ad q u 64), .ref (m_ad q u 65), .int 0, .ref (m_ad q u 67), .ref (m_ad q u 68), .ref (m_ad q u 69), .ref (m_ad q u 70), .int 0, .int 0, .int 0, .ref (m_ad q u 74), .ref (m_ad q u 75), .ref (m_ad q u 76), .ref (m_ad q u 77), .ref (m_ad q u 78), .ref (m_ad q u 79), .int 0] from rfl]
  rw [m_a1, m_a2, m_a3, m_a4, m_a5, m_a6, m_a7, m_a8, m_a9, m_a10, m_a11, m_a12, m_a13, m_a14, m_a15, m_a16, m_a17, m_a20, m_a24, m_a25, m_a26, m_a28, m_a29, m_a30, m_a31, m_a32, m_a33, m_a36, m_a37, m_a38, m_a39, m_a41, m_a42, m_a43, m_a44, m_a45, m_a46, m_a49, m_a50, m_a51, m_a52, m_a53, m_a59, m_a60, m_a62, m_a63, m_a64, m_a65, m_a67, m_a68, m_a69, m_a70, m_a74, m_a75, m_a76, m_a77, m_a78, m_a79]
set_option maxRecDepth 100000 in
theorem m_e1 {Y : nm_Y} {q : Nat} {u : Nat → Nat} : nm_E Y (m_ad q u) m_C 1 = rw_I Y 128 := by
  rw [nm_E_I (by decide +kernel), show m_C.2.2.1 1 = 128 by decide +kernel, show m_C.1 1 = fun _ => 0 from rfl]
set_option maxRecDepth 100000 in
theorem m_e2 {Y : nm_Y} {q : Nat} {u : Nat → Nat} : nm_E Y (m_ad q u) m_C 2 = rw_I Y 128 := by
  rw [nm_E_I (by decide +kernel), show m_C.2.2.1 2 = 128 by decide +kernel, show m_C.1 2 = fun _ => 0 from rfl]
set_option maxRecDepth 100000 in
theorem m_e3 {Y : nm_Y} {q : Nat} {u : Nat → Nat} : nm_E Y (m_ad q u) m_C 3 = rw_I Y 128 := by
  rw [nm_E_I (by decide +kernel), show m_C.2.2.1 3 = 128 by decide +kernel, show m_C.1 3 = fun _ => 0 from rfl]
set_option maxRecDepth 100000 in
theorem m_e4 {Y : nm_Y} {q : Nat} {u : Nat → Nat} : nm_E Y (m_ad q u) m_C 4 = rw_I Y 128 := by
  rw [nm_E_I (by decide +kernel), show m_C.2.2.1 4 = 128 by decide +kernel, show m_C.1 4 = fun _ => 0 from rfl]
set_option maxRecDepth 100000 in
theorem m_e5 {Y : nm_Y} {q : Nat} {u : Nat → Nat} : nm_E Y (m_ad q u) m_C 5 = rw_I Y 128 := by
  rw [nm_E_I (by decide +kernel), show m_C.2.2.1 5 = 128 by decide +kernel, show m_C.1 5 = fun _ => 0 from rfl]
set_option maxRecDepth 100000 in
theorem m_e6 {Y : nm_Y} {q : Nat} {u : Nat → Nat} : nm_E Y (m_ad q u) m_C 6 = rw_I Y 128 := by
  rw [nm_E_I (by decide +kernel), show m_C.2.2.1 6 = 128 by decide +kernel, show m_C.1 6 = fun _ => 0 from rfl]
set_option maxRecDepth 100000 in
theorem m_e7 {Y : nm_Y} {q : Nat} {u : Nat → Nat} : nm_E Y (m_ad q u) m_C 7 = rw_I Y 128 := by
  rw [nm_E_I (by decide +kernel), show m_C.2.2.1 7 = 128 by decide +kernel, show m_C.1 7 = fun _ => 0 from rfl]
set_option maxRecDepth 100000 in
theorem m_e8 {Y : nm_Y} {q : Nat} {u : Nat → Nat} : nm_E Y (m_ad q u) m_C 8 = rw_I Y 8 := by
  rw [nm_E_I (by decide +kernel), show m_C.2.2.1 8 = 8 by decide +kernel, show m_C.1 8 = fun _ => 0 from rfl]
set_option maxRecDepth 100000 in
theorem m_e9 {Y : nm_Y} {q : Nat} {u : Nat → Nat} : nm_E Y (m_ad q u) m_C 9 = rw_M Y 16 := by
  rw [nm_E_I (by decide +kernel), show m_C.2.2.1 9 = 16 by decide +kernel, show m_C.1 9 = rw_m 16 from rfl]
set_option maxRecDepth 100000 in
theorem m_e10 {Y : nm_Y} {q : Nat} {u : Nat → Nat} : nm_E Y (m_ad q u) m_C 10 = rw_I Y 16 := by
  rw [nm_E_I (by decide +kernel), show m_C.2.2.1 10 = 16 by decide +kernel, show m_C.1 10 = fun _ => 0 from rfl]
set_option maxRecDepth 100000 in
theorem m_e11 {Y : nm_Y} {q : Nat} {u : Nat → Nat} : nm_E Y (m_ad q u) m_C 11 = rw_I Y 16 := by
  rw [nm_E_I (by decide +kernel), show m_C.2.2.1 11 = 16 by decide +kernel, show m_C.1 11 = fun _ => 0 from rfl]
set_option maxRecDepth 100000 in
theorem m_e12 {Y : nm_Y} {q : Nat} {u : Nat → Nat} : nm_E Y (m_ad q u) m_C 12 = rw_I Y 10 := by
  rw [nm_E_I (by decide +kernel), show m_C.2.2.1 12 = 10 by decide +kernel, show m_C.1 12 = fun _ => 0 from rfl]
set_option maxRecDepth 100000 in
theorem m_e13 {Y : nm_Y} {q : Nat} {u : Nat → Nat} : nm_E Y (m_ad q u) m_C 13 = rw_Z Y 262144 := by
  rw [nm_E_Z (by decide +kernel), show m_C.2.2.1 13 = 262144 by decide +kernel, show m_C.1 13 = fun _ => 0 from rfl]
set_option maxRecDepth 100000 in
theorem m_e14 {Y : nm_Y} {q : Nat} {u : Nat → Nat} : nm_E Y (m_ad q u) m_C 14 = rw_I Y 1600 := by
  rw [nm_E_I (by decide +kernel), show m_C.2.2.1 14 = 1600 by decide +kernel, show m_C.1 14 = fun _ => 0 from rfl]
set_option maxRecDepth 100000 in
theorem m_e15 {Y : nm_Y} {q : Nat} {u : Nat → Nat} : nm_E Y (m_ad q u) m_C 15 = rw_I Y 1600 := by
  rw [nm_E_I (by decide +kernel), show m_C.2.2.1 15 = 1600 by decide +kernel, show m_C.1 15 = fun _ => 0 from rfl]
set_option maxRecDepth 100000 in
theorem m_e16 {Y : nm_Y} {q : Nat} {u : Nat → Nat} : nm_E Y (m_ad q u) m_C 16 = rw_I Y 1600 := by
  rw [nm_E_I (by decide +kernel), show m_C.2.2.1 16 = 1600 by decide +kernel, show m_C.1 16 = fun _ => 0 from rfl]
set_option maxRecDepth 100000 in
theorem m_e17 {Y : nm_Y} {q : Nat} {u : Nat → Nat} : nm_E Y (m_ad q u) m_C 17 = rw_I Y 8 := by
  rw [nm_E_I (by decide +kernel), show m_C.2.2.1 17 = 8 by decide +kernel, show m_C.1 17 = fun _ => 0 from rfl]
set_option maxRecDepth 100000 in
theorem m_e20 {Y : nm_Y} {q : Nat} {u : Nat → Nat} : nm_E Y (m_ad q u) m_C 20 = rw_Z Y 65536 := by
  rw [nm_E_Z (by decide +kernel), show m_C.2.2.1 20 = 65536 by decide +kernel, show m_C.1 20 = fun _ => 0 from rfl]
set_option maxRecDepth 100000 in
theorem m_e24 {Y : nm_Y} {q : Nat} {u : Nat → Nat} : nm_E Y (m_ad q u) m_C 24 = rw_I Y 200 := by
  rw [nm_E_I (by decide +kernel), show m_C.2.2.1 24 = 200 by decide +kernel, show m_C.1 24 = fun _ => 0 from rfl]
set_option maxRecDepth 100000 in
theorem m_e25 {Y : nm_Y} {q : Nat} {u : Nat → Nat} : nm_E Y (m_ad q u) m_C 25 = rw_I Y 200 := by
  rw [nm_E_I (by decide +kernel), show m_C.2.2.1 25 = 200 by decide +kernel, show m_C.1 25 = fun _ => 0 from rfl]
set_option maxRecDepth 100000 in
theorem m_e26 {Y : nm_Y} {q : Nat} {u : Nat → Nat} : nm_E Y (m_ad q u) m_C 26 = rw_I Y 200 := by
  rw [nm_E_I (by decide +kernel), show m_C.2.2.1 26 = 200 by decide +kernel, show m_C.1 26 = fun _ => 0 from rfl]
set_option maxRecDepth 100000 in
theorem m_e28 {Y : nm_Y} {q : Nat} {u : Nat → Nat} : nm_E Y (m_ad q u) m_C 28 = rw_I Y 4096 := by
  rw [nm_E_I (by decide +kernel), show m_C.2.2.1 28 = 4096 by decide +kernel, show m_C.1 28 = fun _ => 0 from rfl]
set_option maxRecDepth 100000 in
theorem m_e29 {Y : nm_Y} {q : Nat} {u : Nat → Nat} : nm_E Y (m_ad q u) m_C 29 = rw_I Y 4096 := by
  rw [nm_E_I (by decide +kernel), show m_C.2.2.1 29 = 4096 by decide +kernel, show m_C.1 29 = fun _ => 0 from rfl]
set_option maxRecDepth 100000 in
theorem m_e30 {Y : nm_Y} {q : Nat} {u : Nat → Nat} : nm_E Y (m_ad q u) m_C 30 = rw_I Y 4096 := by
  rw [nm_E_I (by decide +kernel), show m_C.2.2.1 30 = 4096 by decide +kernel, show m_C.1 30 = fun _ => 0 from rfl]
set_option maxRecDepth 100000 in
theorem m_e31 {Y : nm_Y} {q : Nat} {u : Nat → Nat} : nm_E Y (m_ad q u) m_C 31 = rw_I Y 4096 := by
  rw [nm_E_I (by decide +kernel), show m_C.2.2.1 31 = 4096 by decide +kernel, show m_C.1 31 = fun _ => 0 from rfl]
set_option maxRecDepth 100000 in
theorem m_e32 {Y : nm_Y} {q : Nat} {u : Nat → Nat} : nm_E Y (m_ad q u) m_C 32 = rw_I Y 4096 := by
  rw [nm_E_I (by decide +kernel), show m_C.2.2.1 32 = 4096 by decide +kernel, show m_C.1 32 = fun _ => 0 from rfl]
set_option maxRecDepth 100000 in
theorem m_e33 {Y : nm_Y} {q : Nat} {u : Nat → Nat} : nm_E Y (m_ad q u) m_C 33 = rw_Z Y 4096 := by
  rw [nm_E_Z (by decide +kernel), show m_C.2.2.1 33 = 4096 by decide +kernel, show m_C.1 33 = fun _ => 0 from rfl]
set_option maxRecDepth 100000 in
theorem m_e36 {Y : nm_Y} {q : Nat} {u : Nat → Nat} : nm_E Y (m_ad q u) m_C 36 = rw_I Y 16 := by
  rw [nm_E_I (by decide +kernel), show m_C.2.2.1 36 = 16 by decide +kernel, show m_C.1 36 = fun _ => 0 from rfl]
set_option maxRecDepth 100000 in
theorem m_e37 {Y : nm_Y} {q : Nat} {u : Nat → Nat} : nm_E Y (m_ad q u) m_C 37 = rw_I Y 16 := by
  rw [nm_E_I (by decide +kernel), show m_C.2.2.1 37 = 16 by decide +kernel, show m_C.1 37 = fun _ => 0 from rfl]
set_option maxRecDepth 100000 in
theorem m_e38 {Y : nm_Y} {q : Nat} {u : Nat → Nat} : nm_E Y (m_ad q u) m_C 38 = rw_I Y 16 := by
  rw [nm_E_I (by decide +kernel), show m_C.2.2.1 38 = 16 by decide +kernel, show m_C.1 38 = fun _ => 0 from rfl]
set_option maxRecDepth 100000 in
theorem m_e39 {Y : nm_Y} {q : Nat} {u : Nat → Nat} : nm_E Y (m_ad q u) m_C 39 = rw_I Y 16 := by
  rw [nm_E_I (by decide +kernel), show m_C.2.2.1 39 = 16 by decide +kernel, show m_C.1 39 = fun _ => 0 from rfl]
set_option maxRecDepth 100000 in
theorem m_e41 {Y : nm_Y} {q : Nat} {u : Nat → Nat} : nm_E Y (m_ad q u) m_C 41 = rw_I Y 600 := by
  rw [nm_E_I (by decide +kernel), show m_C.2.2.1 41 = 600 by decide +kernel, show m_C.1 41 = fun _ => 0 from rfl]
set_option maxRecDepth 100000 in
theorem m_e42 {Y : nm_Y} {q : Nat} {u : Nat → Nat} : nm_E Y (m_ad q u) m_C 42 = rw_I Y 600 := by
  rw [nm_E_I (by decide +kernel), show m_C.2.2.1 42 = 600 by decide +kernel, show m_C.1 42 = fun _ => 0 from rfl]
set_option maxRecDepth 100000 in
theorem m_e43 {Y : nm_Y} {q : Nat} {u : Nat → Nat} : nm_E Y (m_ad q u) m_C 43 = rw_I Y 600 := by
  rw [nm_E_I (by decide +kernel), show m_C.2.2.1 43 = 600 by decide +kernel, show m_C.1 43 = fun _ => 0 from rfl]
set_option maxRecDepth 100000 in
theorem m_e44 {Y : nm_Y} {q : Nat} {u : Nat → Nat} : nm_E Y (m_ad q u) m_C 44 = rw_I Y 600 := by
  rw [nm_E_I (by decide +kernel), show m_C.2.2.1 44 = 600 by decide +kernel, show m_C.1 44 = fun _ => 0 from rfl]
set_option maxRecDepth 100000 in
theorem m_e45 {Y : nm_Y} {q : Nat} {u : Nat → Nat} : nm_E Y (m_ad q u) m_C 45 = rw_I Y 16 := by
  rw [nm_E_I (by decide +kernel), show m_C.2.2.1 45 = 16 by decide +kernel, show m_C.1 45 = fun _ => 0 from rfl]
set_option maxRecDepth 100000 in
theorem m_e46 {Y : nm_Y} {q : Nat} {u : Nat → Nat} : nm_E Y (m_ad q u) m_C 46 = rw_I Y 16 := by
  rw [nm_E_I (by decide +kernel), show m_C.2.2.1 46 = 16 by decide +kernel, show m_C.1 46 = fun _ => 0 from rfl]
set_option maxRecDepth 100000 in
theorem m_e49 {Y : nm_Y} {q : Nat} {u : Nat → Nat} : nm_E Y (m_ad q u) m_C 49 = rw_Z Y 16 := by
  rw [nm_E_Z (by decide +kernel), show m_C.2.2.1 49 = 16 by decide +kernel, show m_C.1 49 = fun _ => 0 from rfl]
set_option maxRecDepth 100000 in
theorem m_e50 {Y : nm_Y} {q : Nat} {u : Nat → Nat} : nm_E Y (m_ad q u) m_C 50 = rw_Z Y 16 := by
  rw [nm_E_Z (by decide +kernel), show m_C.2.2.1 50 = 16 by decide +kernel, show m_C.1 50 = fun _ => 0 from rfl]
set_option maxRecDepth 100000 in
theorem m_e51 {Y : nm_Y} {q : Nat} {u : Nat → Nat} : nm_E Y (m_ad q u) m_C 51 = rw_I Y 8 := by
  rw [nm_E_I (by decide +kernel), show m_C.2.2.1 51 = 8 by decide +kernel, show m_C.1 51 = fun _ => 0 from rfl]
set_option maxRecDepth 100000 in
theorem m_e52 {Y : nm_Y} {q : Nat} {u : Nat → Nat} : nm_E Y (m_ad q u) m_C 52 = rw_I Y 8 := by
  rw [nm_E_I (by decide +kernel), show m_C.2.2.1 52 = 8 by decide +kernel, show m_C.1 52 = fun _ => 0 from rfl]
set_option maxRecDepth 100000 in
theorem m_e53 {Y : nm_Y} {q : Nat} {u : Nat → Nat} : nm_E Y (m_ad q u) m_C 53 = rw_I Y 8 := by
  rw [nm_E_I (by decide +kernel), show m_C.2.2.1 53 = 8 by decide +kernel, show m_C.1 53 = fun _ => 0 from rfl]
set_option maxRecDepth 100000 in
theorem m_e59 {Y : nm_Y} {q : Nat} {u : Nat → Nat} : nm_E Y (m_ad q u) m_C 59 = rw_I Y 65536 := by
  rw [nm_E_I (by decide +kernel), show m_C.2.2.1 59 = 65536 by decide +kernel, show m_C.1 59 = fun _ => 0 from rfl]
set_option maxRecDepth 100000 in
theorem m_e60 {Y : nm_Y} {q : Nat} {u : Nat → Nat} : nm_E Y (m_ad q u) m_C 60 = rw_I Y 65536 := by
  rw [nm_E_I (by decide +kernel), show m_C.2.2.1 60 = 65536 by decide +kernel, show m_C.1 60 = fun _ => 0 from rfl]
set_option maxRecDepth 100000 in
theorem m_e62 {Y : nm_Y} {q : Nat} {u : Nat → Nat} : nm_E Y (m_ad q u) m_C 62 = rw_I Y 4096 := by
  rw [nm_E_I (by decide +kernel), show m_C.2.2.1 62 = 4096 by decide +kernel, show m_C.1 62 = fun _ => 0 from rfl]
set_option maxRecDepth 100000 in
theorem m_e63 {Y : nm_Y} {q : Nat} {u : Nat → Nat} : nm_E Y (m_ad q u) m_C 63 = rw_I Y 4096 := by
  rw [nm_E_I (by decide +kernel), show m_C.2.2.1 63 = 4096 by decide +kernel, show m_C.1 63 = fun _ => 0 from rfl]
set_option maxRecDepth 100000 in
theorem m_e64 {Y : nm_Y} {q : Nat} {u : Nat → Nat} : nm_E Y (m_ad q u) m_C 64 = rw_I Y 4096 := by
  rw [nm_E_I (by decide +kernel), show m_C.2.2.1 64 = 4096 by decide +kernel, show m_C.1 64 = fun _ => 0 from rfl]
set_option maxRecDepth 100000 in
theorem m_e65 {Y : nm_Y} {q : Nat} {u : Nat → Nat} : nm_E Y (m_ad q u) m_C 65 = rw_I Y 4096 := by
  rw [nm_E_I (by decide +kernel), show m_C.2.2.1 65 = 4096 by decide +kernel, show m_C.1 65 = fun _ => 0 from rfl]
set_option maxRecDepth 100000 in
theorem m_e67 {Y : nm_Y} {q : Nat} {u : Nat → Nat} : nm_E Y (m_ad q u) m_C 67 = rw_I Y 12 := by
  rw [nm_E_I (by decide +kernel), show m_C.2.2.1 67 = 12 by decide +kernel, show m_C.1 67 = fun _ => 0 from rfl]
set_option maxRecDepth 100000 in
theorem m_e68 {Y : nm_Y} {q : Nat} {u : Nat → Nat} : nm_E Y (m_ad q u) m_C 68 = rw_I Y 12 := by
  rw [nm_E_I (by decide +kernel), show m_C.2.2.1 68 = 12 by decide +kernel, show m_C.1 68 = fun _ => 0 from rfl]
set_option maxRecDepth 100000 in
theorem m_e69 {Y : nm_Y} {q : Nat} {u : Nat → Nat} : nm_E Y (m_ad q u) m_C 69 = rw_I Y 12 := by
  rw [nm_E_I (by decide +kernel), show m_C.2.2.1 69 = 12 by decide +kernel, show m_C.1 69 = fun _ => 0 from rfl]
set_option maxRecDepth 100000 in
theorem m_e70 {Y : nm_Y} {q : Nat} {u : Nat → Nat} : nm_E Y (m_ad q u) m_C 70 = rw_I Y 12 := by
  rw [nm_E_I (by decide +kernel), show m_C.2.2.1 70 = 12 by decide +kernel, show m_C.1 70 = fun _ => 0 from rfl]
set_option maxRecDepth 100000 in
theorem m_e74 {Y : nm_Y} {q : Nat} {u : Nat → Nat} : nm_E Y (m_ad q u) m_C 74 = rw_I Y 12 := by
  rw [nm_E_I (by decide +kernel), show m_C.2.2.1 74 = 12 by decide +kernel, show m_C.1 74 = fun _ => 0 from rfl]
set_option maxRecDepth 100000 in
theorem m_e75 {Y : nm_Y} {q : Nat} {u : Nat → Nat} : nm_E Y (m_ad q u) m_C 75 = rw_I Y 65536 := by
  rw [nm_E_I (by decide +kernel), show m_C.2.2.1 75 = 65536 by decide +kernel, show m_C.1 75 = fun _ => 0 from rfl]
set_option maxRecDepth 100000 in
theorem m_e76 {Y : nm_Y} {q : Nat} {u : Nat → Nat} : nm_E Y (m_ad q u) m_C 76 = rw_I Y 24 := by
  rw [nm_E_I (by decide +kernel), show m_C.2.2.1 76 = 24 by decide +kernel, show m_C.1 76 = fun _ => 0 from rfl]
set_option maxRecDepth 100000 in
theorem m_e77 {Y : nm_Y} {q : Nat} {u : Nat → Nat} : nm_E Y (m_ad q u) m_C 77 = rw_I Y 12 := by
  rw [nm_E_I (by decide +kernel), show m_C.2.2.1 77 = 12 by decide +kernel, show m_C.1 77 = fun _ => 0 from rfl]
set_option maxRecDepth 100000 in
theorem m_e78 {Y : nm_Y} {q : Nat} {u : Nat → Nat} : nm_E Y (m_ad q u) m_C 78 = rw_I Y 64 := by
  rw [nm_E_I (by decide +kernel), show m_C.2.2.1 78 = 64 by decide +kernel, show m_C.1 78 = fun _ => 0 from rfl]
set_option maxRecDepth 100000 in
theorem m_e79 {Y : nm_Y} {q : Nat} {u : Nat → Nat} : nm_E Y (m_ad q u) m_C 79 = rw_I Y 64 := by
  rw [nm_E_I (by decide +kernel), show m_C.2.2.1 79 = 64 by decide +kernel, show m_C.1 79 = fun _ => 0 from rfl]
set_option maxRecDepth 100000 in
theorem m_world {Y : nm_Y} {q : Nat} {u : Nat → Nat} : ([(q, .inr (10, [.ref (u 1), .ref (u 2), .ref (u 3), .ref (u 4), .ref (u 5), .ref (u 6), .ref (u 7), .ref (u 8), .ref (u 9), .ref (u 10), .ref (u 11), .ref (u 12), .ref (u 13), .ref (u 14), .ref (u 15), .ref (u 16), .ref (u 17), .int 0, .int 0, .ref (u 18), .int 0, .int 0, .int 0, .ref (u 19), .ref (u 20), .ref (u 21), .int 0, .ref (u 22), .ref (u 23), .ref (u 24), .ref (u 25), .ref (u 26), .ref (u 27), .int 0, .int 0, .ref (u 28), .ref (u 29), .ref (u 30), .ref (u 31), .int 0, .ref (u 32), .ref (u 33), .ref (u 34), .ref (u 35), .ref (u 36), .ref (u 37), .int 0, .int 0, .ref (u 38), .ref (u 39), .ref (u 40), .ref (u 41), .ref (u 42), .int 0, .int (-1), .int 0, .int 0, .int 0, .ref (u 43), .ref (u 44), .int 0, .ref (u 45), .ref (u 46), .ref (u 47), .ref (u 48), .int 0, .ref (u 49), .ref (u 50), .ref (u 51), .ref (u 52), .int 0, .int 0, .int 0, .ref (u 53), .ref (u 54), .ref (u 55), .ref (u 56), .ref (u 57), .ref (u 58), .int 0])), ((u 1), rw_I Y 128), ((u 2), rw_I Y 128), ((u 3), rw_I Y 128), ((u 4), rw_I Y 128), ((u 5), rw_I Y 128), ((u 6), rw_I Y 128), ((u 7), rw_I Y 128), ((u 8), rw_I Y 8), ((u 9), rw_M Y 16), ((u 10), rw_I Y 16), ((u 11), rw_I Y 16), ((u 12), rw_I Y 10), ((u 13), rw_Z Y 262144), ((u 14), rw_I Y 1600), ((u 15), rw_I Y 1600), ((u 16), rw_I Y 1600), ((u 17), rw_I Y 8), ((u 18), rw_Z Y 65536), ((u 19), rw_I Y 200), ((u 20), rw_I Y 200), ((u 21), rw_I Y 200), ((u 22), rw_I Y 4096), ((u 23), rw_I Y 4096), ((u 24), rw_I Y 4096), ((u 25), rw_I Y 4096), ((u 26), rw_I Y 4096), ((u 27), rw_Z Y 4096), ((u 28), rw_I Y 16), ((u 29), rw_I Y 16), ((u 30), rw_I Y 16), ((u 31), rw_I Y 16), ((u 32), rw_I Y 600), ((u 33), rw_I Y 600), ((u 34), rw_I Y 600), ((u 35), rw_I Y 600), ((u 36), rw_I Y 16), ((u 37), rw_I Y 16), ((u 38), rw_Z Y 16), ((u 39), rw_Z Y 16), ((u 40), rw_I Y 8), ((u 41), rw_I Y 8), ((u 42), rw_I Y 8), ((u 43), rw_I Y 65536), ((u 44), rw_I Y 65536), ((u 45), rw_I Y 4096), ((u 46), rw_I Y 4096), ((u 47), rw_I Y 4096), ((u 48), rw_I Y 4096), ((u 49), rw_I Y 12), ((u 50), rw_I Y 12), ((u 51), rw_I Y 12), ((u 52), rw_I Y 12), ((u 53), rw_I Y 12), ((u 54), rw_I Y 65536), ((u 55), rw_I Y 24), ((u 56), rw_I Y 12), ((u 57), rw_I Y 64), ((u 58), rw_I Y 64)] : va_W) = nm_w moN (m_ad q u) (nm_E Y (m_ad q u) m_C) := by
  show _ = [(m_ad q u 0, nm_E Y (m_ad q u) m_C 0), (m_ad q u 1, nm_E Y (m_ad q u) m_C 1), (m_ad q u 2, nm_E Y (m_ad q u) m_C 2), (m_ad q u 3, nm_E Y (m_ad q u) m_C 3), (m_ad q u 4, nm_E Y (m_ad q u) m_C 4), (m_ad q u 5, nm_E Y (m_ad q u) m_C 5), (m_ad q u 6, nm_E Y (m_ad q u) m_C 6), (m_ad q u 7, nm_E Y (m_ad q u) m_C 7), (m_ad q u 8, nm_E Y (m_ad q u) m_C 8), (m_ad q u 9, nm_E Y (m_ad q u) m_C 9), (m_ad q u 10, nm_E Y (m_ad q u) m_C 10), (m_ad q u 11, nm_E Y (m_ad q u) m_C 11), (m_ad q u 12, nm_E Y (m_ad q u) m_C 12), (m_ad q u 13, nm_E Y (m_ad q u) m_C 13), (m_ad q u 14, nm_E Y (m_ad q u) m_C 14), (m_ad q u 15, nm_E Y (m_ad q u) m_C 15), (m_ad q u 16, nm_E Y (m_ad q u) m_C 16), (m_ad q u 17, nm_E Y (m_ad q u) m_C 17), (m_ad q u 20, nm_E Y (m_ad q u) m_C 20), (m_ad q u 24, nm_E Y (m_ad q u) m_C 24), (m_ad q u 25, nm_E Y (m_ad q u) m_C 25), (m_ad q u 26, nm_E Y (m_ad q u) m_C 26), (m_ad q u 28, nm_E Y (m_ad q u) m_C 28), (m_ad q u 29, nm_E Y (m_ad q u) m_C 29), (m_ad q u 30, nm_E Y (m_ad q u) m_C 30), (m_ad q u 31, nm_E Y (m_ad q u) m_C 31), (m_ad q u 32, nm_E Y (m_ad q u) m_C 32), (m_ad q u 33, nm_E Y (m_ad q u) m_C 33), (m_ad q u 36, nm_E Y (m_ad q u) m_C 36), (m_ad q u 37, nm_E Y (m_ad q u) m_C 37), (m_ad q u 38, nm_E Y (m_ad q u) m_C 38), (m_ad q u 39, nm_E Y (m_ad q u) m_C 39), (m_ad q u 41, nm_E Y (m_ad q u) m_C 41), (m_ad q u 42, nm_E Y (m_ad q u) m_C 42), (m_ad q u 43, nm_E Y (m_ad q u) m_C 43), (m_ad q u 44, nm_E Y (m_ad q u) m_C 44), (m_ad q u 45, nm_E Y (m_ad q u) m_C 45), (m_ad q u 46, nm_E Y (m_ad q u) m_C 46), (m_ad q u 49, nm_E Y (m_ad q u) m_C 49), (m_ad q u 50, nm_E Y (m_ad q u) m_C 50), (m_ad q u 51, nm_E Y (m_ad q u) m_C 51), (m_ad q u 52, nm_E Y (m_ad q u) m_C 52), (m_ad q u 53, nm_E Y (m_ad q u) m_C 53), (m_ad q u 59, nm_E Y (m_ad q u) m_C 59), (m_ad q u 60, nm_E Y (m_ad q u) m_C 60), (m_ad q u 62, nm_E Y (m_ad q u) m_C 62), (m_ad q u 63, nm_E Y (m_ad q u) m_C 63), (m_ad q u 64, nm_E Y (m_ad q u) m_C 64), (m_ad q u 65, nm_E Y (m_ad q u) m_C 65), (m_ad q u 67, nm_E Y (m_ad q u) m_C 67), (m_ad q u 68, nm_E Y (m_ad q u) m_C 68), (m_ad q u 69, nm_E Y (m_ad q u) m_C 69), (m_ad q u 70, nm_E Y (m_ad q u) m_C 70), (m_ad q u 74, nm_E Y (m_ad q u) m_C 74), (m_ad q u 75, nm_E Y (m_ad q u) m_C 75), (m_ad q u 76, nm_E Y (m_ad q u) m_C 76), (m_ad q u 77, nm_E Y (m_ad q u) m_C 77), (m_ad q u 78, nm_E Y (m_ad q u) m_C 78), (m_ad q u 79, nm_E Y (m_ad q u) m_C 79)]
  rw [m_e0, m_e1, m_e2, m_e3, m_e4, m_e5, m_e6, m_e7, m_e8, m_e9, m_e10, m_e11, m_e12, m_e13, m_e14, m_e15, m_e16, m_e17, m_e20, m_e24, m_e25, m_e26, m_e28, m_e29, m_e30, m_e31, m_e32, m_e33, m_e36, m_e37, m_e38, m_e39, m_e41, m_e42, m_e43, m_e44, m_e45, m_e46, m_e49, m_e50, m_e51, m_e52, m_e53, m_e59, m_e60, m_e62, m_e63, m_e64, m_e65, m_e67, m_e68, m_e69, m_e70, m_e74, m_e75, m_e76, m_e77, m_e78, m_e79]
  rw [m_a1, m_a2, m_a3, m_a4, m_a5, m_a6, m_a7, m_a8, m_a9, m_a10, m_a11, m_a12, m_a13, m_a14, m_a15, m_a16, m_a17, m_a20, m_a24, m_a25, m_a26, m_a28, m_a29, m_a30, m_a31, m_a32, m_a33, m_a36, m_a37, m_a38, m_a39, m_a41, m_a42, m_a43, m_a44, m_a45, m_a46, m_a49, m_a50, m_a51, m_a52, m_a53, m_a59, m_a60, m_a62, m_a63, m_a64, m_a65, m_a67, m_a68, m_a69, m_a70, m_a74, m_a75, m_a76, m_a77, m_a78, m_a79]
  rfl
set_option maxRecDepth 100000 in
theorem c_L : cl_L c_nl c_K := by
  refine ⟨?_, ?_, ?_⟩
  · show ∀ q ∈ cl_st, q.1 ∈ c_nl ∧ c_K q.1 = q.2
    decide +kernel
  · intro x hx
    exact Or.inl ((show ∀ x ∈ c_nl, x ∈ cl_nm by decide +kernel) x hx)
  · rintro x ⟨c, k, hc, hk, rfl⟩
    exact Or.inl ((show ∀ c, c < 8 → ∀ k, k < 16 → c_K (1000 + 100 * c + 10 + k) = 0 by decide +kernel) c hc k hk)
theorem c_cN : cl_N c_N := by
  show ∀ q ∈ cl_sl, c_N q.1 = q.2
  decide +kernel
