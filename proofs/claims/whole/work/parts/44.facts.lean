/-! Where things lie; what each method is. -/
theorem ly1 : mm_ly 1 = some (0, [5, 28, 46, 0]) := rfl
theorem ly2 : mm_ly 2 = some (4, [0, 0, 6, 13, 14, 15, 16, 26]) := rfl
theorem ly3 : mm_ly 3 = some (54, [7, 8, 9, 10, 11, 12]) := rfl
theorem ly4 : mm_ly 4 = some (50, List.replicate 12 0) := rfl
theorem ly5 : mm_ly 5 = some (50, List.replicate 12 0) := rfl
theorem ly6 : mm_ly 6 = some (50, List.replicate 12 0) := rfl
theorem ly7 : mm_ly 7 = some (50, List.replicate 12 0) := rfl
theorem ly8 : mm_ly 8 = some (50, List.replicate 12 0) := rfl
theorem ly9 : mm_ly 9 = some (50, List.replicate 12 0) := rfl
theorem ly10 : mm_ly 10 = some (50, List.replicate 12 0) := rfl
theorem ly11 : mm_ly 11 = some (50, List.replicate 6 0) := rfl
theorem ly12 : mm_ly 12 = some (50, List.replicate 6 0) := rfl
theorem ly13 : mm_ly 13 = some (6, [0, 0, 2, 2, 0, 1, 17, 18, 19]) := rfl
theorem ly14 : mm_ly 14 = some (50, List.replicate 12 0) := rfl
theorem ly15 : mm_ly 15 = some (50, List.replicate 6 0) := rfl
theorem ly16 : mm_ly 16 = some (54, [20, 21, 22, 23, 24, 25]) := rfl
theorem ly17 : mm_ly 17 = some (50, List.replicate 13 0) := rfl
theorem ly18 : mm_ly 18 = some (50, List.replicate 13 0) := rfl
theorem ly19 : mm_ly 19 = some (50, List.replicate 13 0) := rfl
theorem ly20 : mm_ly 20 = some (50, List.replicate 13 0) := rfl
theorem ly21 : mm_ly 21 = some (50, List.replicate 13 0) := rfl
theorem ly22 : mm_ly 22 = some (50, List.replicate 13 0) := rfl
theorem ly23 : mm_ly 23 = some (1, [0, 0, 2, 0, 27]) := rfl
theorem ly24 : mm_ly 24 = some (50, List.replicate 6 0) := rfl
theorem ly25 : mm_ly 25 = some (5, [0, 0, 0, 0, 29, 36, 37, 38, 39]) := rfl
theorem ly26 : mm_ly 26 = some (54, [30, 31, 32, 33, 34, 35]) := rfl
theorem ly27 : mm_ly 27 = some (50, List.replicate 6 0) := rfl
theorem ly28 : mm_ly 28 = some (50, List.replicate 6 0) := rfl
theorem ly29 : mm_ly 29 = some (50, List.replicate 6 0) := rfl
theorem ly30 : mm_ly 30 = some (50, List.replicate 6 0) := rfl
theorem ly31 : mm_ly 31 = some (50, List.replicate 6 0) := rfl
theorem ly32 : mm_ly 32 = some (50, List.replicate 6 0) := rfl
theorem ly33 : mm_ly 33 = some (50, List.replicate 6 0) := rfl
theorem ly34 : mm_ly 34 = some (50, List.replicate 6 0) := rfl
theorem ly35 : mm_ly 35 = some (50, List.replicate 6 0) := rfl
theorem ly36 : mm_ly 36 = some (53, [40, 41, 42, 43, 44, 45]) := rfl
theorem ly37 : mm_ly 37 = some (3, [1, 1]) := rfl
theorem ly38 : mm_ly 38 = some (3, [1, 1]) := rfl
theorem ly39 : mm_ly 39 = some (3, [1, 1]) := rfl
theorem ly40 : mm_ly 40 = some (3, [1, 1]) := rfl
theorem ly41 : mm_ly 41 = some (3, [1, 1]) := rfl
theorem ly42 : mm_ly 42 = some (3, [1, 1]) := rfl
theorem ly43 : mm_ly 43 = some (2, [0, 0, 0, 47, 54, 55, 56, 57, 58, 59, 60, 61]) := rfl
theorem ly44 : mm_ly 44 = some (54, [48, 49, 50, 51, 52, 53]) := rfl
theorem ly45 : mm_ly 45 = some (50, List.replicate 16 0) := rfl
theorem ly46 : mm_ly 46 = some (50, List.replicate 16 0) := rfl
theorem ly47 : mm_ly 47 = some (50, List.replicate 16 0) := rfl
theorem ly48 : mm_ly 48 = some (50, List.replicate 16 0) := rfl
theorem ly49 : mm_ly 49 = some (50, List.replicate 16 0) := rfl
theorem ly50 : mm_ly 50 = some (50, List.replicate 16 0) := rfl
theorem ly51 : mm_ly 51 = some (53, [62, 65, 68, 71, 74, 77]) := rfl
theorem ly52 : mm_ly 52 = some (53, [63, 66, 69, 72, 75, 78]) := rfl
theorem ly53 : mm_ly 53 = some (53, [64, 67, 70, 73, 76, 79]) := rfl
theorem ly54 : mm_ly 54 = some (52, List.replicate 6 0) := rfl
theorem ly55 : mm_ly 55 = some (50, List.replicate 6 0) := rfl
theorem ly56 : mm_ly 56 = some (3, [1, 1]) := rfl
theorem ly57 : mm_ly 57 = some (3, [1, 1]) := rfl
theorem ly58 : mm_ly 58 = some (3, [1, 1]) := rfl
theorem ly59 : mm_ly 59 = some (3, [1, 1]) := rfl
theorem ly60 : mm_ly 60 = some (3, [1, 1]) := rfl
theorem ly61 : mm_ly 61 = some (3, [1, 1]) := rfl
theorem ly62 : mm_ly 62 = some (3, [1, 1]) := rfl
theorem ly63 : mm_ly 63 = some (3, [1, 1]) := rfl
theorem ly64 : mm_ly 64 = some (3, [1, 1]) := rfl
theorem ly65 : mm_ly 65 = some (3, [1, 1]) := rfl
theorem ly66 : mm_ly 66 = some (3, [1, 1]) := rfl
theorem ly67 : mm_ly 67 = some (3, [1, 1]) := rfl
theorem ly68 : mm_ly 68 = some (3, [1, 1]) := rfl
theorem ly69 : mm_ly 69 = some (3, [1, 1]) := rfl
theorem ly70 : mm_ly 70 = some (3, [1, 1]) := rfl
theorem ly71 : mm_ly 71 = some (3, [1, 1]) := rfl
theorem ly72 : mm_ly 72 = some (3, [1, 1]) := rfl
theorem ly73 : mm_ly 73 = some (3, [1, 1]) := rfl
theorem ly74 : mm_ly 74 = some (3, [1, 1]) := rfl
theorem ly75 : mm_ly 75 = some (3, [1, 1]) := rfl
theorem ly76 : mm_ly 76 = some (3, [1, 1]) := rfl
theorem ly77 : mm_ly 77 = some (7, [0, 0, 0, 81, 82, 83, 84, 85, 0, 0, 86, 87, 88, 89, 90, 0, 91, 0, 92, 93, 94, 95, 96, 97, 1, 1, 98]) := rfl
theorem ly78 : mm_ly 78 = some (50, List.replicate 72 0) := rfl
theorem ly79 : mm_ly 79 = some (50, List.replicate 12 0) := rfl
theorem ly80 : mm_ly 80 = some (50, List.replicate 12 0) := rfl
theorem ly81 : mm_ly 81 = some (50, List.replicate 6 0) := rfl
theorem ly82 : mm_ly 82 = some (50, List.replicate 36 0) := rfl
theorem ly83 : mm_ly 83 = some (50, List.replicate 6 0) := rfl
theorem ly84 : mm_ly 84 = some (50, List.replicate 6 0) := rfl
theorem ly85 : mm_ly 85 = some (50, List.replicate 6 0) := rfl
theorem ly86 : mm_ly 86 = some (51, List.replicate 6 1) := rfl
theorem ly87 : mm_ly 87 = some (51, List.replicate 6 1) := rfl
theorem ly88 : mm_ly 88 = some (50, List.replicate 96 0) := rfl
theorem ly89 : mm_ly 89 = some (51, List.replicate 6 1) := rfl
theorem ly90 : mm_ly 90 = some (51, List.replicate 6 1) := rfl
theorem ly91 : mm_ly 91 = some (51, List.replicate 6 1) := rfl
theorem ly92 : mm_ly 92 = some (51, List.replicate 6 1) := rfl
theorem ly93 : mm_ly 93 = some (51, List.replicate 6 1) := rfl
theorem ly94 : mm_ly 94 = some (51, List.replicate 6 1) := rfl
theorem ly95 : mm_ly 95 = some (50, List.replicate 6 0) := rfl
theorem ly96 : mm_ly 96 = some (51, List.replicate 1 1) := rfl
theorem lr4 {e : Int} (h0 : 0 ≤ e) (h1 : e < 6) : mm_ly (4 + e.toNat) = some (50, List.replicate 12 0) := mm_six (P := fun e => mm_ly (4 + e.toNat) = some (50, List.replicate 12 0)) h0 h1 rfl rfl rfl rfl rfl rfl
theorem la4 {e : Int} (h0 : 0 ≤ e) (h1 : e < 6) : ([7, 8, 9, 10, 11, 12] : List Nat)[e.toNat]? = some (4 + e.toNat + 3) := mm_six (P := fun e => ([7, 8, 9, 10, 11, 12] : List Nat)[e.toNat]? = some (4 + e.toNat + 3)) h0 h1 rfl rfl rfl rfl rfl rfl
theorem lr17 {e : Int} (h0 : 0 ≤ e) (h1 : e < 6) : mm_ly (17 + e.toNat) = some (50, List.replicate 13 0) := mm_six (P := fun e => mm_ly (17 + e.toNat) = some (50, List.replicate 13 0)) h0 h1 rfl rfl rfl rfl rfl rfl
theorem la17 {e : Int} (h0 : 0 ≤ e) (h1 : e < 6) : ([20, 21, 22, 23, 24, 25] : List Nat)[e.toNat]? = some (17 + e.toNat + 3) := mm_six (P := fun e => ([20, 21, 22, 23, 24, 25] : List Nat)[e.toNat]? = some (17 + e.toNat + 3)) h0 h1 rfl rfl rfl rfl rfl rfl
theorem lr27 {e : Int} (h0 : 0 ≤ e) (h1 : e < 6) : mm_ly (27 + e.toNat) = some (50, List.replicate 6 0) := mm_six (P := fun e => mm_ly (27 + e.toNat) = some (50, List.replicate 6 0)) h0 h1 rfl rfl rfl rfl rfl rfl
theorem la27 {e : Int} (h0 : 0 ≤ e) (h1 : e < 6) : ([30, 31, 32, 33, 34, 35] : List Nat)[e.toNat]? = some (27 + e.toNat + 3) := mm_six (P := fun e => ([30, 31, 32, 33, 34, 35] : List Nat)[e.toNat]? = some (27 + e.toNat + 3)) h0 h1 rfl rfl rfl rfl rfl rfl
theorem lr45 {e : Int} (h0 : 0 ≤ e) (h1 : e < 6) : mm_ly (45 + e.toNat) = some (50, List.replicate 16 0) := mm_six (P := fun e => mm_ly (45 + e.toNat) = some (50, List.replicate 16 0)) h0 h1 rfl rfl rfl rfl rfl rfl
theorem la45 {e : Int} (h0 : 0 ≤ e) (h1 : e < 6) : ([48, 49, 50, 51, 52, 53] : List Nat)[e.toNat]? = some (45 + e.toNat + 3) := mm_six (P := fun e => ([48, 49, 50, 51, 52, 53] : List Nat)[e.toNat]? = some (45 + e.toNat + 3)) h0 h1 rfl rfl rfl rfl rfl rfl
theorem lr37 {e : Int} (h0 : 0 ≤ e) (h1 : e < 6) : mm_ly (37 + e.toNat) = some (3, [1, 1]) := mm_six (P := fun e => mm_ly (37 + e.toNat) = some (3, [1, 1])) h0 h1 rfl rfl rfl rfl rfl rfl
theorem la37 {e : Int} (h0 : 0 ≤ e) (h1 : e < 6) : ([40, 41, 42, 43, 44, 45] : List Nat)[e.toNat]? = some (37 + e.toNat + 3) := mm_six (P := fun e => ([40, 41, 42, 43, 44, 45] : List Nat)[e.toNat]? = some (37 + e.toNat + 3)) h0 h1 rfl rfl rfl rfl rfl rfl
theorem lr59 {e : Int} (h0 : 0 ≤ e) (h1 : e < 6) : mm_ly (59 + 3 * e.toNat) = some (3, [1, 1]) := mm_six (P := fun e => mm_ly (59 + 3 * e.toNat) = some (3, [1, 1])) h0 h1 rfl rfl rfl rfl rfl rfl
theorem la59 {e : Int} (h0 : 0 ≤ e) (h1 : e < 6) : ([62, 65, 68, 71, 74, 77] : List Nat)[e.toNat]? = some (59 + 3 * e.toNat + 3) := mm_six (P := fun e => ([62, 65, 68, 71, 74, 77] : List Nat)[e.toNat]? = some (59 + 3 * e.toNat + 3)) h0 h1 rfl rfl rfl rfl rfl rfl
theorem lr60 {e : Int} (h0 : 0 ≤ e) (h1 : e < 6) : mm_ly (60 + 3 * e.toNat) = some (3, [1, 1]) := mm_six (P := fun e => mm_ly (60 + 3 * e.toNat) = some (3, [1, 1])) h0 h1 rfl rfl rfl rfl rfl rfl
theorem la60 {e : Int} (h0 : 0 ≤ e) (h1 : e < 6) : ([63, 66, 69, 72, 75, 78] : List Nat)[e.toNat]? = some (60 + 3 * e.toNat + 3) := mm_six (P := fun e => ([63, 66, 69, 72, 75, 78] : List Nat)[e.toNat]? = some (60 + 3 * e.toNat + 3)) h0 h1 rfl rfl rfl rfl rfl rfl
theorem lr61 {e : Int} (h0 : 0 ≤ e) (h1 : e < 6) : mm_ly (61 + 3 * e.toNat) = some (3, [1, 1]) := mm_six (P := fun e => mm_ly (61 + 3 * e.toNat) = some (3, [1, 1])) h0 h1 rfl rfl rfl rfl rfl rfl
theorem la61 {e : Int} (h0 : 0 ≤ e) (h1 : e < 6) : ([64, 67, 70, 73, 76, 79] : List Nat)[e.toNat]? = some (61 + 3 * e.toNat + 3) := mm_six (P := fun e => ([64, 67, 70, 73, 76, 79] : List Nat)[e.toNat]? = some (61 + 3 * e.toNat + 3)) h0 h1 rfl rfl rfl rfl rfl rfl
theorem mc0 : mm_code 0 = mm_c0 := rfl
theorem mx0 : mm_maxL 0 = 1 := rfl
theorem mp0 : mm_pl (mm_cn 0) = mm_p0 := rfl
theorem mr0 : mm_ret 0 = (Option.none : Option FieldType) := rfl
theorem mk0 : mm_cls 0 = 0 := rfl
theorem mc1 : mm_code 1 = mm_c1 := rfl
theorem mx1 : mm_maxL 1 = 2 := rfl
theorem mp1 : mm_pl (mm_cn 1) = mm_p0 := rfl
theorem mr1 : mm_ret 1 = (Option.none : Option FieldType) := rfl
theorem mk1 : mm_cls 1 = 0 := rfl
theorem mc2 : mm_code 2 = mm_c2 := rfl
theorem mx2 : mm_maxL 2 = 2 := rfl
theorem mp2 : mm_pl (mm_cn 2) = mm_p0 := rfl
theorem mr2 : mm_ret 2 = (Option.none : Option FieldType) := rfl
theorem mk2 : mm_cls 2 = 0 := rfl
theorem mc3 : mm_code 3 = mm_c3 := rfl
theorem mx3 : mm_maxL 3 = 4 := rfl
theorem mp3 : mm_pl (mm_cn 3) = mm_p0 := rfl
theorem mr3 : mm_ret 3 = (Option.some FieldType.int) := rfl
theorem mk3 : mm_cls 3 = 0 := rfl
theorem mc4 : mm_code 4 = mm_c4 := rfl
theorem mx4 : mm_maxL 4 = 2 := rfl
theorem mp4 : mm_pl (mm_cn 4) = mm_p0 := rfl
theorem mr4 : mm_ret 4 = (Option.none : Option FieldType) := rfl
theorem mk4 : mm_cls 4 = 0 := rfl
theorem mc5 : mm_code 5 = mm_c5 := rfl
theorem mx5 : mm_maxL 5 = 1 := rfl
theorem mp5 : mm_pl (mm_cn 5) = mm_p0 := rfl
theorem mr5 : mm_ret 5 = (Option.some FieldType.int) := rfl
theorem mk5 : mm_cls 5 = 0 := rfl
theorem mc6 : mm_code 6 = mm_c6 := rfl
theorem mx6 : mm_maxL 6 = 1 := rfl
theorem mp6 : mm_pl (mm_cn 6) = mm_p0 := rfl
theorem mr6 : mm_ret 6 = (Option.some FieldType.long) := rfl
theorem mk6 : mm_cls 6 = 0 := rfl
theorem mc7 : mm_code 7 = mm_c7 := rfl
theorem mx7 : mm_maxL 7 = 3 := rfl
theorem mp7 : mm_pl (mm_cn 7) = mm_p0 := rfl
theorem mr7 : mm_ret 7 = (Option.some FieldType.int) := rfl
theorem mk7 : mm_cls 7 = 0 := rfl
theorem mc8 : mm_code 8 = mm_c8 := rfl
theorem mx8 : mm_maxL 8 = 2 := rfl
theorem mp8 : mm_pl (mm_cn 8) = mm_p0 := rfl
theorem mr8 : mm_ret 8 = (Option.some FieldType.int) := rfl
theorem mk8 : mm_cls 8 = 0 := rfl
theorem mc9 : mm_code 9 = mm_c9 := rfl
theorem mx9 : mm_maxL 9 = 3 := rfl
theorem mp9 : mm_pl (mm_cn 9) = mm_p0 := rfl
theorem mr9 : mm_ret 9 = (Option.some FieldType.int) := rfl
theorem mk9 : mm_cls 9 = 0 := rfl
theorem mc10 : mm_code 10 = mm_c10 := rfl
theorem mx10 : mm_maxL 10 = 4 := rfl
theorem mp10 : mm_pl (mm_cn 10) = mm_p0 := rfl
theorem mr10 : mm_ret 10 = (Option.some FieldType.int) := rfl
theorem mk10 : mm_cls 10 = 0 := rfl
theorem mc11 : mm_code 11 = mm_c11 := rfl
theorem mx11 : mm_maxL 11 = 2 := rfl
theorem mp11 : mm_pl (mm_cn 11) = mm_p0 := rfl
theorem mr11 : mm_ret 11 = (Option.some FieldType.int) := rfl
theorem mk11 : mm_cls 11 = 0 := rfl
theorem mc12 : mm_code 12 = mm_c12 := rfl
theorem mx12 : mm_maxL 12 = 4 := rfl
theorem mp12 : mm_pl (mm_cn 12) = mm_p0 := rfl
theorem mr12 : mm_ret 12 = (Option.some FieldType.int) := rfl
theorem mk12 : mm_cls 12 = 0 := rfl
theorem mc13 : mm_code 13 = mm_c13 := rfl
theorem mx13 : mm_maxL 13 = 2 := rfl
theorem mp13 : mm_pl (mm_cn 13) = mm_p0 := rfl
theorem mr13 : mm_ret 13 = (Option.some FieldType.int) := rfl
theorem mk13 : mm_cls 13 = 0 := rfl
theorem mc14 : mm_code 14 = mm_c14 := rfl
theorem mx14 : mm_maxL 14 = 1 := rfl
theorem mp14 : mm_pl (mm_cn 14) = mm_p0 := rfl
theorem mr14 : mm_ret 14 = (Option.some FieldType.int) := rfl
theorem mk14 : mm_cls 14 = 0 := rfl
theorem mc15 : mm_code 15 = mm_c15 := rfl
theorem mx15 : mm_maxL 15 = 3 := rfl
theorem mp15 : mm_pl (mm_cn 15) = mm_p0 := rfl
theorem mr15 : mm_ret 15 = (Option.some FieldType.long) := rfl
theorem mk15 : mm_cls 15 = 0 := rfl
theorem mc16 : mm_code 16 = mm_c16 := rfl
theorem mx16 : mm_maxL 16 = 2 := rfl
theorem mp16 : mm_pl (mm_cn 16) = mm_p0 := rfl
theorem mr16 : mm_ret 16 = (Option.none : Option FieldType) := rfl
theorem mk16 : mm_cls 16 = 0 := rfl
theorem mc17 : mm_code 17 = mm_c17 := rfl
theorem mx17 : mm_maxL 17 = 4 := rfl
theorem mp17 : mm_pl (mm_cn 17) = mm_p0 := rfl
theorem mr17 : mm_ret 17 = (Option.some FieldType.int) := rfl
theorem mk17 : mm_cls 17 = 0 := rfl
theorem mc18 : mm_code 18 = mm_c18 := rfl
theorem mx18 : mm_maxL 18 = 2 := rfl
theorem mp18 : mm_pl (mm_cn 18) = mm_p0 := rfl
theorem mr18 : mm_ret 18 = (Option.none : Option FieldType) := rfl
theorem mk18 : mm_cls 18 = 0 := rfl
theorem mc19 : mm_code 19 = mm_c19 := rfl
theorem mx19 : mm_maxL 19 = 3 := rfl
theorem mp19 : mm_pl (mm_cn 19) = mm_p0 := rfl
theorem mr19 : mm_ret 19 = (Option.some FieldType.long) := rfl
theorem mk19 : mm_cls 19 = 0 := rfl
theorem mc20 : mm_code 20 = mm_c20 := rfl
theorem mx20 : mm_maxL 20 = 4 := rfl
theorem mp20 : mm_pl (mm_cn 20) = mm_p0 := rfl
theorem mr20 : mm_ret 20 = (Option.some FieldType.long) := rfl
theorem mk20 : mm_cls 20 = 0 := rfl
theorem mc21 : mm_code 21 = mm_c21 := rfl
theorem mx21 : mm_maxL 21 = 2 := rfl
theorem mp21 : mm_pl (mm_cn 21) = mm_p0 := rfl
theorem mr21 : mm_ret 21 = (Option.some FieldType.boolean) := rfl
theorem mk21 : mm_cls 21 = 0 := rfl
theorem mc22 : mm_code 22 = mm_c22 := rfl
theorem mx22 : mm_maxL 22 = 2 := rfl
theorem mp22 : mm_pl (mm_cn 22) = mm_p0 := rfl
theorem mr22 : mm_ret 22 = (Option.some FieldType.boolean) := rfl
theorem mk22 : mm_cls 22 = 0 := rfl
theorem mc23 : mm_code 23 = mm_c23 := rfl
theorem mx23 : mm_maxL 23 = 3 := rfl
theorem mp23 : mm_pl (mm_cn 23) = mm_p0 := rfl
theorem mr23 : mm_ret 23 = (Option.some FieldType.boolean) := rfl
theorem mk23 : mm_cls 23 = 0 := rfl
theorem mc24 : mm_code 24 = mm_c24 := rfl
theorem mx24 : mm_maxL 24 = 1 := rfl
theorem mp24 : mm_pl (mm_cn 24) = mm_p1 := rfl
theorem mr24 : mm_ret 24 = (Option.none : Option FieldType) := rfl
theorem mk24 : mm_cls 24 = 1 := rfl
theorem mc25 : mm_code 25 = mm_c25 := rfl
theorem mx25 : mm_maxL 25 = 6 := rfl
theorem mp25 : mm_pl (mm_cn 25) = mm_p1 := rfl
theorem mr25 : mm_ret 25 = (Option.some FieldType.int) := rfl
theorem mk25 : mm_cls 25 = 1 := rfl
theorem mc26 : mm_code 26 = mm_c26 := rfl
theorem mx26 : mm_maxL 26 = 7 := rfl
theorem mp26 : mm_pl (mm_cn 26) = mm_p1 := rfl
theorem mr26 : mm_ret 26 = (Option.none : Option FieldType) := rfl
theorem mk26 : mm_cls 26 = 1 := rfl
theorem mc27 : mm_code 27 = mm_c27 := rfl
theorem mx27 : mm_maxL 27 = 2 := rfl
theorem mp27 : mm_pl (mm_cn 27) = mm_p2 := rfl
theorem mr27 : mm_ret 27 = (Option.none : Option FieldType) := rfl
theorem mk27 : mm_cls 27 = 2 := rfl
theorem mc28 : mm_code 28 = mm_c28 := rfl
theorem mx28 : mm_maxL 28 = 4 := rfl
theorem mp28 : mm_pl (mm_cn 28) = mm_p2 := rfl
theorem mr28 : mm_ret 28 = (Option.none : Option FieldType) := rfl
theorem mk28 : mm_cls 28 = 2 := rfl
theorem mc29 : mm_code 29 = mm_c29 := rfl
theorem mx29 : mm_maxL 29 = 2 := rfl
theorem mp29 : mm_pl (mm_cn 29) = mm_p2 := rfl
theorem mr29 : mm_ret 29 = (Option.none : Option FieldType) := rfl
theorem mk29 : mm_cls 29 = 2 := rfl
theorem mc30 : mm_code 30 = mm_c30 := rfl
theorem mx30 : mm_maxL 30 = 5 := rfl
theorem mp30 : mm_pl (mm_cn 30) = mm_p2 := rfl
theorem mr30 : mm_ret 30 = (Option.some FieldType.int) := rfl
theorem mk30 : mm_cls 30 = 2 := rfl
theorem mc31 : mm_code 31 = mm_c31 := rfl
theorem mx31 : mm_maxL 31 = 1 := rfl
theorem mp31 : mm_pl (mm_cn 31) = mm_p2 := rfl
theorem mr31 : mm_ret 31 = (Option.some FieldType.boolean) := rfl
theorem mk31 : mm_cls 31 = 2 := rfl
theorem mc32 : mm_code 32 = mm_c32 := rfl
theorem mx32 : mm_maxL 32 = 2 := rfl
theorem mp32 : mm_pl (mm_cn 32) = mm_p2 := rfl
theorem mr32 : mm_ret 32 = (Option.some (FieldType.object "FairDesk$Fraction")) := rfl
theorem mk32 : mm_cls 32 = 2 := rfl
theorem mc33 : mm_code 33 = mm_c33 := rfl
theorem mx33 : mm_maxL 33 = 2 := rfl
theorem mp33 : mm_pl (mm_cn 33) = mm_p2 := rfl
theorem mr33 : mm_ret 33 = (Option.some (FieldType.object "FairDesk$Fraction")) := rfl
theorem mk33 : mm_cls 33 = 2 := rfl
theorem mc34 : mm_code 34 = mm_c34 := rfl
theorem mx34 : mm_maxL 34 = 3 := rfl
theorem mp34 : mm_pl (mm_cn 34) = mm_p2 := rfl
theorem mr34 : mm_ret 34 = (Option.some (FieldType.object "FairDesk$Fraction")) := rfl
theorem mk34 : mm_cls 34 = 2 := rfl
theorem mc35 : mm_code 35 = mm_c35 := rfl
theorem mx35 : mm_maxL 35 = 2 := rfl
theorem mp35 : mm_pl (mm_cn 35) = mm_p2 := rfl
theorem mr35 : mm_ret 35 = (Option.none : Option FieldType) := rfl
theorem mk35 : mm_cls 35 = 2 := rfl
theorem mc36 : mm_code 36 = mm_c36 := rfl
theorem mx36 : mm_maxL 36 = 4 := rfl
theorem mp36 : mm_pl (mm_cn 36) = mm_p2 := rfl
theorem mr36 : mm_ret 36 = (Option.none : Option FieldType) := rfl
theorem mk36 : mm_cls 36 = 2 := rfl
theorem mc37 : mm_code 37 = mm_c37 := rfl
theorem mx37 : mm_maxL 37 = 3 := rfl
theorem mp37 : mm_pl (mm_cn 37) = mm_p2 := rfl
theorem mr37 : mm_ret 37 = (Option.some FieldType.int) := rfl
theorem mk37 : mm_cls 37 = 2 := rfl
theorem mc38 : mm_code 38 = mm_c38 := rfl
theorem mx38 : mm_maxL 38 = 2 := rfl
theorem mp38 : mm_pl (mm_cn 38) = mm_p2 := rfl
theorem mr38 : mm_ret 38 = (Option.none : Option FieldType) := rfl
theorem mk38 : mm_cls 38 = 2 := rfl
theorem mc39 : mm_code 39 = mm_c39 := rfl
theorem mx39 : mm_maxL 39 = 2 := rfl
theorem mp39 : mm_pl (mm_cn 39) = mm_p2 := rfl
theorem mr39 : mm_ret 39 = (Option.none : Option FieldType) := rfl
theorem mk39 : mm_cls 39 = 2 := rfl
theorem mc40 : mm_code 40 = mm_c40 := rfl
theorem mx40 : mm_maxL 40 = 9 := rfl
theorem mp40 : mm_pl (mm_cn 40) = mm_p2 := rfl
theorem mr40 : mm_ret 40 = (Option.none : Option FieldType) := rfl
theorem mk40 : mm_cls 40 = 2 := rfl
theorem mc41 : mm_code 41 = mm_c41 := rfl
theorem mx41 : mm_maxL 41 = 6 := rfl
theorem mp41 : mm_pl (mm_cn 41) = mm_p2 := rfl
theorem mr41 : mm_ret 41 = (Option.none : Option FieldType) := rfl
theorem mk41 : mm_cls 41 = 2 := rfl
theorem mc42 : mm_code 42 = mm_c42 := rfl
theorem mx42 : mm_maxL 42 = 3 := rfl
theorem mp42 : mm_pl (mm_cn 42) = mm_p2 := rfl
theorem mr42 : mm_ret 42 = (Option.some FieldType.boolean) := rfl
theorem mk42 : mm_cls 42 = 2 := rfl
theorem mc43 : mm_code 43 = mm_c43 := rfl
theorem mx43 : mm_maxL 43 = 16 := rfl
theorem mp43 : mm_pl (mm_cn 43) = mm_p2 := rfl
theorem mr43 : mm_ret 43 = (Option.none : Option FieldType) := rfl
theorem mk43 : mm_cls 43 = 2 := rfl
theorem mc44 : mm_code 44 = mm_c44 := rfl
theorem mx44 : mm_maxL 44 = 15 := rfl
theorem mp44 : mm_pl (mm_cn 44) = mm_p2 := rfl
theorem mr44 : mm_ret 44 = (Option.none : Option FieldType) := rfl
theorem mk44 : mm_cls 44 = 2 := rfl
theorem mc45 : mm_code 45 = mm_c45 := rfl
theorem mx45 : mm_maxL 45 = 1 := rfl
theorem mp45 : mm_pl (mm_cn 45) = mm_p3 := rfl
theorem mr45 : mm_ret 45 = (Option.none : Option FieldType) := rfl
theorem mk45 : mm_cls 45 = 3 := rfl
theorem mc46 : mm_code 46 = mm_c46 := rfl
theorem mx46 : mm_maxL 46 = 7 := rfl
theorem mp46 : mm_pl (mm_cn 46) = mm_p3 := rfl
theorem mr46 : mm_ret 46 = (Option.none : Option FieldType) := rfl
theorem mk46 : mm_cls 46 = 3 := rfl
theorem mc47 : mm_code 47 = mm_c47 := rfl
theorem mx47 : mm_maxL 47 = 5 := rfl
theorem mp47 : mm_pl (mm_cn 47) = mm_p3 := rfl
theorem mr47 : mm_ret 47 = (Option.none : Option FieldType) := rfl
theorem mk47 : mm_cls 47 = 3 := rfl
theorem mc48 : mm_code 48 = mm_c48 := rfl
theorem mx48 : mm_maxL 48 = 2 := rfl
theorem mp48 : mm_pl (mm_cn 48) = mm_p3 := rfl
theorem mr48 : mm_ret 48 = (Option.none : Option FieldType) := rfl
theorem mk48 : mm_cls 48 = 3 := rfl
theorem mc49 : mm_code 49 = mm_c49 := rfl
theorem mx49 : mm_maxL 49 = 2 := rfl
theorem mp49 : mm_pl (mm_cn 49) = mm_p3 := rfl
theorem mr49 : mm_ret 49 = (Option.some FieldType.long) := rfl
theorem mk49 : mm_cls 49 = 3 := rfl
theorem mc50 : mm_code 50 = mm_c50 := rfl
theorem mx50 : mm_maxL 50 = 2 := rfl
theorem mp50 : mm_pl (mm_cn 50) = mm_p3 := rfl
theorem mr50 : mm_ret 50 = (Option.some FieldType.boolean) := rfl
theorem mk50 : mm_cls 50 = 3 := rfl
theorem mc51 : mm_code 51 = mm_c51 := rfl
theorem mx51 : mm_maxL 51 = 2 := rfl
theorem mp51 : mm_pl (mm_cn 51) = mm_p3 := rfl
theorem mr51 : mm_ret 51 = (Option.some FieldType.long) := rfl
theorem mk51 : mm_cls 51 = 3 := rfl
theorem mc52 : mm_code 52 = mm_c52 := rfl
theorem mx52 : mm_maxL 52 = 3 := rfl
theorem mp52 : mm_pl (mm_cn 52) = mm_p3 := rfl
theorem mr52 : mm_ret 52 = (Option.some FieldType.long) := rfl
theorem mk52 : mm_cls 52 = 3 := rfl
theorem mc53 : mm_code 53 = mm_c53 := rfl
theorem mx53 : mm_maxL 53 = 7 := rfl
theorem mp53 : mm_pl (mm_cn 53) = mm_p3 := rfl
theorem mr53 : mm_ret 53 = (Option.some FieldType.long) := rfl
theorem mk53 : mm_cls 53 = 3 := rfl
theorem mc54 : mm_code 54 = mm_c54 := rfl
theorem mx54 : mm_maxL 54 = 1 := rfl
theorem mp54 : mm_pl (mm_cn 54) = mm_p4 := rfl
theorem mr54 : mm_ret 54 = (Option.none : Option FieldType) := rfl
theorem mk54 : mm_cls 54 = 4 := rfl
theorem mc55 : mm_code 55 = mm_c55 := rfl
theorem mx55 : mm_maxL 55 = 2 := rfl
theorem mp55 : mm_pl (mm_cn 55) = mm_p4 := rfl
theorem mr55 : mm_ret 55 = (Option.none : Option FieldType) := rfl
theorem mk55 : mm_cls 55 = 4 := rfl
theorem mc56 : mm_code 56 = mm_c56 := rfl
theorem mx56 : mm_maxL 56 = 4 := rfl
theorem mp56 : mm_pl (mm_cn 56) = mm_p4 := rfl
theorem mr56 : mm_ret 56 = (Option.none : Option FieldType) := rfl
theorem mk56 : mm_cls 56 = 4 := rfl
theorem mc57 : mm_code 57 = mm_c57 := rfl
theorem mx57 : mm_maxL 57 = 1 := rfl
theorem mp57 : mm_pl (mm_cn 57) = mm_p4 := rfl
theorem mr57 : mm_ret 57 = (Option.some FieldType.int) := rfl
theorem mk57 : mm_cls 57 = 4 := rfl
theorem mc58 : mm_code 58 = mm_c58 := rfl
theorem mx58 : mm_maxL 58 = 5 := rfl
theorem mp58 : mm_pl (mm_cn 58) = mm_p4 := rfl
theorem mr58 : mm_ret 58 = (Option.some FieldType.int) := rfl
theorem mk58 : mm_cls 58 = 4 := rfl
theorem mc59 : mm_code 59 = mm_c59 := rfl
theorem mx59 : mm_maxL 59 = 4 := rfl
theorem mp59 : mm_pl (mm_cn 59) = mm_p4 := rfl
theorem mr59 : mm_ret 59 = (Option.some FieldType.int) := rfl
theorem mk59 : mm_cls 59 = 4 := rfl
theorem mc60 : mm_code 60 = mm_c60 := rfl
theorem mx60 : mm_maxL 60 = 2 := rfl
theorem mp60 : mm_pl (mm_cn 60) = mm_p4 := rfl
theorem mr60 : mm_ret 60 = (Option.some FieldType.int) := rfl
theorem mk60 : mm_cls 60 = 4 := rfl
theorem mc61 : mm_code 61 = mm_c61 := rfl
theorem mx61 : mm_maxL 61 = 5 := rfl
theorem mp61 : mm_pl (mm_cn 61) = mm_p4 := rfl
theorem mr61 : mm_ret 61 = (Option.some FieldType.int) := rfl
theorem mk61 : mm_cls 61 = 4 := rfl
theorem mc62 : mm_code 62 = mm_c62 := rfl
theorem mx62 : mm_maxL 62 = 5 := rfl
theorem mp62 : mm_pl (mm_cn 62) = mm_p4 := rfl
theorem mr62 : mm_ret 62 = (Option.some FieldType.int) := rfl
theorem mk62 : mm_cls 62 = 4 := rfl
theorem mc63 : mm_code 63 = mm_c63 := rfl
theorem mx63 : mm_maxL 63 = 5 := rfl
theorem mp63 : mm_pl (mm_cn 63) = mm_p4 := rfl
theorem mr63 : mm_ret 63 = (Option.some FieldType.int) := rfl
theorem mk63 : mm_cls 63 = 4 := rfl
theorem mc64 : mm_code 64 = mm_c64 := rfl
theorem mx64 : mm_maxL 64 = 3 := rfl
theorem mp64 : mm_pl (mm_cn 64) = mm_p4 := rfl
theorem mr64 : mm_ret 64 = (Option.some FieldType.boolean) := rfl
theorem mk64 : mm_cls 64 = 4 := rfl
theorem mc65 : mm_code 65 = mm_c65 := rfl
theorem mx65 : mm_maxL 65 = 5 := rfl
theorem mp65 : mm_pl (mm_cn 65) = mm_p4 := rfl
theorem mr65 : mm_ret 65 = (Option.none : Option FieldType) := rfl
theorem mk65 : mm_cls 65 = 4 := rfl
theorem mc66 : mm_code 66 = mm_c66 := rfl
theorem mx66 : mm_maxL 66 = 4 := rfl
theorem mp66 : mm_pl (mm_cn 66) = mm_p4 := rfl
theorem mr66 : mm_ret 66 = (Option.some FieldType.int) := rfl
theorem mk66 : mm_cls 66 = 4 := rfl
theorem mc67 : mm_code 67 = mm_c67 := rfl
theorem mx67 : mm_maxL 67 = 5 := rfl
theorem mp67 : mm_pl (mm_cn 67) = mm_p4 := rfl
theorem mr67 : mm_ret 67 = (Option.some FieldType.int) := rfl
theorem mk67 : mm_cls 67 = 4 := rfl
theorem mc68 : mm_code 68 = mm_c68 := rfl
theorem mx68 : mm_maxL 68 = 3 := rfl
theorem mp68 : mm_pl (mm_cn 68) = mm_p4 := rfl
theorem mr68 : mm_ret 68 = (Option.some FieldType.int) := rfl
theorem mk68 : mm_cls 68 = 4 := rfl
theorem mc69 : mm_code 69 = mm_c69 := rfl
theorem mx69 : mm_maxL 69 = 3 := rfl
theorem mp69 : mm_pl (mm_cn 69) = mm_p4 := rfl
theorem mr69 : mm_ret 69 = (Option.some FieldType.int) := rfl
theorem mk69 : mm_cls 69 = 4 := rfl
theorem mc70 : mm_code 70 = mm_c70 := rfl
theorem mx70 : mm_maxL 70 = 4 := rfl
theorem mp70 : mm_pl (mm_cn 70) = mm_p4 := rfl
theorem mr70 : mm_ret 70 = (Option.none : Option FieldType) := rfl
theorem mk70 : mm_cls 70 = 4 := rfl
theorem mc71 : mm_code 71 = mm_c71 := rfl
theorem mx71 : mm_maxL 71 = 1 := rfl
theorem mp71 : mm_pl (mm_cn 71) = mm_p4 := rfl
theorem mr71 : mm_ret 71 = (Option.some FieldType.long) := rfl
theorem mk71 : mm_cls 71 = 4 := rfl
theorem mc72 : mm_code 72 = mm_c72 := rfl
theorem mx72 : mm_maxL 72 = 2 := rfl
theorem mp72 : mm_pl (mm_cn 72) = mm_p4 := rfl
theorem mr72 : mm_ret 72 = (Option.some FieldType.int) := rfl
theorem mk72 : mm_cls 72 = 4 := rfl
theorem mc73 : mm_code 73 = mm_c73 := rfl
theorem mx73 : mm_maxL 73 = 2 := rfl
theorem mp73 : mm_pl (mm_cn 73) = mm_p4 := rfl
theorem mr73 : mm_ret 73 = (Option.none : Option FieldType) := rfl
theorem mk73 : mm_cls 73 = 4 := rfl
theorem mc74 : mm_code 74 = mm_c74 := rfl
theorem mx74 : mm_maxL 74 = 2 := rfl
theorem mp74 : mm_pl (mm_cn 74) = mm_p5 := rfl
theorem mr74 : mm_ret 74 = (Option.none : Option FieldType) := rfl
theorem mk74 : mm_cls 74 = 5 := rfl
theorem mc75 : mm_code 75 = mm_c75 := rfl
theorem mx75 : mm_maxL 75 = 4 := rfl
theorem mp75 : mm_pl (mm_cn 75) = mm_p5 := rfl
theorem mr75 : mm_ret 75 = (Option.none : Option FieldType) := rfl
theorem mk75 : mm_cls 75 = 5 := rfl
theorem mc76 : mm_code 76 = mm_c76 := rfl
theorem mx76 : mm_maxL 76 = 5 := rfl
theorem mp76 : mm_pl (mm_cn 76) = mm_p5 := rfl
theorem mr76 : mm_ret 76 = (Option.some FieldType.int) := rfl
theorem mk76 : mm_cls 76 = 5 := rfl
theorem mc77 : mm_code 77 = mm_c77 := rfl
theorem mx77 : mm_maxL 77 = 3 := rfl
theorem mp77 : mm_pl (mm_cn 77) = mm_p5 := rfl
theorem mr77 : mm_ret 77 = (Option.some FieldType.int) := rfl
theorem mk77 : mm_cls 77 = 5 := rfl
theorem mc78 : mm_code 78 = mm_c78 := rfl
theorem mx78 : mm_maxL 78 = 4 := rfl
theorem mp78 : mm_pl (mm_cn 78) = mm_p5 := rfl
theorem mr78 : mm_ret 78 = (Option.some FieldType.boolean) := rfl
theorem mk78 : mm_cls 78 = 5 := rfl
theorem mc79 : mm_code 79 = mm_c79 := rfl
theorem mx79 : mm_maxL 79 = 1 := rfl
theorem mp79 : mm_pl (mm_cn 79) = mm_p5 := rfl
theorem mr79 : mm_ret 79 = (Option.some FieldType.boolean) := rfl
theorem mk79 : mm_cls 79 = 5 := rfl
theorem mc80 : mm_code 80 = mm_c80 := rfl
theorem mx80 : mm_maxL 80 = 2 := rfl
theorem mp80 : mm_pl (mm_cn 80) = mm_p5 := rfl
theorem mr80 : mm_ret 80 = (Option.some FieldType.int) := rfl
theorem mk80 : mm_cls 80 = 5 := rfl
theorem mc81 : mm_code 81 = mm_c81 := rfl
theorem mx81 : mm_maxL 81 = 2 := rfl
theorem mp81 : mm_pl (mm_cn 81) = mm_p5 := rfl
theorem mr81 : mm_ret 81 = (Option.some (FieldType.object "FairDesk$Fraction")) := rfl
theorem mk81 : mm_cls 81 = 5 := rfl
theorem mc82 : mm_code 82 = mm_c82 := rfl
theorem mx82 : mm_maxL 82 = 1 := rfl
theorem mp82 : mm_pl (mm_cn 82) = mm_p5 := rfl
theorem mr82 : mm_ret 82 = (Option.some FieldType.int) := rfl
theorem mk82 : mm_cls 82 = 5 := rfl
theorem mc83 : mm_code 83 = mm_c83 := rfl
theorem mx83 : mm_maxL 83 = 5 := rfl
theorem mp83 : mm_pl (mm_cn 83) = mm_p5 := rfl
theorem mr83 : mm_ret 83 = (Option.none : Option FieldType) := rfl
theorem mk83 : mm_cls 83 = 5 := rfl
theorem mc84 : mm_code 84 = mm_c84 := rfl
theorem mx84 : mm_maxL 84 = 5 := rfl
theorem mp84 : mm_pl (mm_cn 84) = mm_p5 := rfl
theorem mr84 : mm_ret 84 = (Option.none : Option FieldType) := rfl
theorem mk84 : mm_cls 84 = 5 := rfl
theorem mc85 : mm_code 85 = mm_c85 := rfl
theorem mx85 : mm_maxL 85 = 6 := rfl
theorem mp85 : mm_pl (mm_cn 85) = mm_p5 := rfl
theorem mr85 : mm_ret 85 = (Option.none : Option FieldType) := rfl
theorem mk85 : mm_cls 85 = 5 := rfl
theorem mc86 : mm_code 86 = mm_c86 := rfl
theorem mx86 : mm_maxL 86 = 1 := rfl
theorem mp86 : mm_pl (mm_cn 86) = mm_p6 := rfl
theorem mr86 : mm_ret 86 = (Option.none : Option FieldType) := rfl
theorem mk86 : mm_cls 86 = 6 := rfl
theorem mc87 : mm_code 87 = mm_c87 := rfl
theorem mx87 : mm_maxL 87 = 7 := rfl
theorem mp87 : mm_pl (mm_cn 87) = mm_p6 := rfl
theorem mr87 : mm_ret 87 = (Option.some FieldType.long) := rfl
theorem mk87 : mm_cls 87 = 6 := rfl
theorem mc88 : mm_code 88 = mm_c88 := rfl
theorem mx88 : mm_maxL 88 = 7 := rfl
theorem mp88 : mm_pl (mm_cn 88) = mm_p6 := rfl
theorem mr88 : mm_ret 88 = (Option.none : Option FieldType) := rfl
theorem mk88 : mm_cls 88 = 6 := rfl
theorem mc89 : mm_code 89 = mm_c89 := rfl
theorem mx89 : mm_maxL 89 = 3 := rfl
theorem mp89 : mm_pl (mm_cn 89) = mm_p6 := rfl
theorem mr89 : mm_ret 89 = (Option.some FieldType.long) := rfl
theorem mk89 : mm_cls 89 = 6 := rfl
theorem mc90 : mm_code 90 = mm_c90 := rfl
theorem mx90 : mm_maxL 90 = 1 := rfl
theorem mp90 : mm_pl (mm_cn 90) = mm_p7 := rfl
theorem mr90 : mm_ret 90 = (Option.none : Option FieldType) := rfl
theorem mk90 : mm_cls 90 = 7 := rfl
theorem mc91 : mm_code 91 = mm_c91 := rfl
theorem mx91 : mm_maxL 91 = 3 := rfl
theorem mp91 : mm_pl (mm_cn 91) = mm_p7 := rfl
theorem mr91 : mm_ret 91 = (Option.none : Option FieldType) := rfl
theorem mk91 : mm_cls 91 = 7 := rfl
theorem mc92 : mm_code 92 = mm_c92 := rfl
theorem mx92 : mm_maxL 92 = 5 := rfl
theorem mp92 : mm_pl (mm_cn 92) = mm_p7 := rfl
theorem mr92 : mm_ret 92 = (Option.some FieldType.int) := rfl
theorem mk92 : mm_cls 92 = 7 := rfl
theorem mc93 : mm_code 93 = mm_c93 := rfl
theorem mx93 : mm_maxL 93 = 3 := rfl
theorem mp93 : mm_pl (mm_cn 93) = mm_p7 := rfl
theorem mr93 : mm_ret 93 = (Option.some FieldType.boolean) := rfl
theorem mk93 : mm_cls 93 = 7 := rfl
theorem mc94 : mm_code 94 = mm_c94 := rfl
theorem mx94 : mm_maxL 94 = 2 := rfl
theorem mp94 : mm_pl (mm_cn 94) = mm_p7 := rfl
theorem mr94 : mm_ret 94 = (Option.none : Option FieldType) := rfl
theorem mk94 : mm_cls 94 = 7 := rfl
theorem mc95 : mm_code 95 = mm_c95 := rfl
theorem mx95 : mm_maxL 95 = 4 := rfl
theorem mp95 : mm_pl (mm_cn 95) = mm_p7 := rfl
theorem mr95 : mm_ret 95 = (Option.some FieldType.int) := rfl
theorem mk95 : mm_cls 95 = 7 := rfl
theorem mc96 : mm_code 96 = mm_c96 := rfl
theorem mx96 : mm_maxL 96 = 8 := rfl
theorem mp96 : mm_pl (mm_cn 96) = mm_p7 := rfl
theorem mr96 : mm_ret 96 = (Option.none : Option FieldType) := rfl
theorem mk96 : mm_cls 96 = 7 := rfl
theorem mc97 : mm_code 97 = mm_c97 := rfl
theorem mx97 : mm_maxL 97 = 3 := rfl
theorem mp97 : mm_pl (mm_cn 97) = mm_p7 := rfl
theorem mr97 : mm_ret 97 = (Option.some FieldType.int) := rfl
theorem mk97 : mm_cls 97 = 7 := rfl
theorem mc98 : mm_code 98 = mm_c98 := rfl
theorem mx98 : mm_maxL 98 = 4 := rfl
theorem mp98 : mm_pl (mm_cn 98) = mm_p7 := rfl
theorem mr98 : mm_ret 98 = (Option.none : Option FieldType) := rfl
theorem mk98 : mm_cls 98 = 7 := rfl
theorem mc99 : mm_code 99 = mm_c99 := rfl
theorem mx99 : mm_maxL 99 = 8 := rfl
theorem mp99 : mm_pl (mm_cn 99) = mm_p7 := rfl
theorem mr99 : mm_ret 99 = (Option.none : Option FieldType) := rfl
theorem mk99 : mm_cls 99 = 7 := rfl
theorem mc100 : mm_code 100 = mm_c100 := rfl
theorem mx100 : mm_maxL 100 = 10 := rfl
theorem mp100 : mm_pl (mm_cn 100) = mm_p7 := rfl
theorem mr100 : mm_ret 100 = (Option.some FieldType.long) := rfl
theorem mk100 : mm_cls 100 = 7 := rfl
theorem mc101 : mm_code 101 = mm_c101 := rfl
theorem mx101 : mm_maxL 101 = 5 := rfl
theorem mp101 : mm_pl (mm_cn 101) = mm_p7 := rfl
theorem mr101 : mm_ret 101 = (Option.none : Option FieldType) := rfl
theorem mk101 : mm_cls 101 = 7 := rfl
theorem mc102 : mm_code 102 = mm_c102 := rfl
theorem mx102 : mm_maxL 102 = 7 := rfl
theorem mp102 : mm_pl (mm_cn 102) = mm_p7 := rfl
theorem mr102 : mm_ret 102 = (Option.none : Option FieldType) := rfl
theorem mk102 : mm_cls 102 = 7 := rfl
theorem mc103 : mm_code 103 = mm_c103 := rfl
theorem mx103 : mm_maxL 103 = 7 := rfl
theorem mp103 : mm_pl (mm_cn 103) = mm_p7 := rfl
theorem mr103 : mm_ret 103 = (Option.none : Option FieldType) := rfl
theorem mk103 : mm_cls 103 = 7 := rfl
theorem mc104 : mm_code 104 = mm_c104 := rfl
theorem mx104 : mm_maxL 104 = 14 := rfl
theorem mp104 : mm_pl (mm_cn 104) = mm_p7 := rfl
theorem mr104 : mm_ret 104 = (Option.none : Option FieldType) := rfl
theorem mk104 : mm_cls 104 = 7 := rfl
theorem mc105 : mm_code 105 = mm_c105 := rfl
theorem mx105 : mm_maxL 105 = 16 := rfl
theorem mp105 : mm_pl (mm_cn 105) = mm_p7 := rfl
theorem mr105 : mm_ret 105 = (Option.none : Option FieldType) := rfl
theorem mk105 : mm_cls 105 = 7 := rfl
theorem mc106 : mm_code 106 = mm_c106 := rfl
theorem mx106 : mm_maxL 106 = 9 := rfl
theorem mp106 : mm_pl (mm_cn 106) = mm_p7 := rfl
theorem mr106 : mm_ret 106 = (Option.none : Option FieldType) := rfl
theorem mk106 : mm_cls 106 = 7 := rfl
theorem mc107 : mm_code 107 = mm_c107 := rfl
theorem mx107 : mm_maxL 107 = 10 := rfl
theorem mp107 : mm_pl (mm_cn 107) = mm_p7 := rfl
theorem mr107 : mm_ret 107 = (Option.none : Option FieldType) := rfl
theorem mk107 : mm_cls 107 = 7 := rfl
theorem mc108 : mm_code 108 = mm_c108 := rfl
theorem mx108 : mm_maxL 108 = 3 := rfl
theorem mp108 : mm_pl (mm_cn 108) = mm_p7 := rfl
theorem mr108 : mm_ret 108 = (Option.some FieldType.int) := rfl
theorem mk108 : mm_cls 108 = 7 := rfl
theorem mc109 : mm_code 109 = mm_c109 := rfl
theorem mx109 : mm_maxL 109 = 5 := rfl
theorem mp109 : mm_pl (mm_cn 109) = mm_p7 := rfl
theorem mr109 : mm_ret 109 = (Option.none : Option FieldType) := rfl
theorem mk109 : mm_cls 109 = 7 := rfl
theorem mc110 : mm_code 110 = mm_c110 := rfl
theorem mx110 : mm_maxL 110 = 10 := rfl
theorem mp110 : mm_pl (mm_cn 110) = mm_p7 := rfl
theorem mr110 : mm_ret 110 = (Option.some FieldType.int) := rfl
theorem mk110 : mm_cls 110 = 7 := rfl
theorem mc111 : mm_code 111 = mm_c111 := rfl
theorem mx111 : mm_maxL 111 = 1 := rfl
theorem mp111 : mm_pl (mm_cn 111) = mm_p7 := rfl
theorem mr111 : mm_ret 111 = (Option.some FieldType.int) := rfl
theorem mk111 : mm_cls 111 = 7 := rfl
theorem mc112 : mm_code 112 = mm_c112 := rfl
theorem mx112 : mm_maxL 112 = 2 := rfl
theorem mp112 : mm_pl (mm_cn 112) = mm_p7 := rfl
theorem mr112 : mm_ret 112 = (Option.some FieldType.boolean) := rfl
theorem mk112 : mm_cls 112 = 7 := rfl
theorem mc113 : mm_code 113 = mm_c113 := rfl
theorem mx113 : mm_maxL 113 = 2 := rfl
theorem mp113 : mm_pl (mm_cn 113) = mm_p7 := rfl
theorem mr113 : mm_ret 113 = (Option.some FieldType.boolean) := rfl
theorem mk113 : mm_cls 113 = 7 := rfl
theorem mc114 : mm_code 114 = mm_c114 := rfl
theorem mx114 : mm_maxL 114 = 2 := rfl
theorem mp114 : mm_pl (mm_cn 114) = mm_p7 := rfl
theorem mr114 : mm_ret 114 = (Option.none : Option FieldType) := rfl
theorem mk114 : mm_cls 114 = 7 := rfl
theorem mc115 : mm_code 115 = mm_c115 := rfl
theorem mx115 : mm_maxL 115 = 4 := rfl
theorem mp115 : mm_pl (mm_cn 115) = mm_p7 := rfl
theorem mr115 : mm_ret 115 = (Option.none : Option FieldType) := rfl
theorem mk115 : mm_cls 115 = 7 := rfl
theorem mc116 : mm_code 116 = mm_c116 := rfl
theorem mx116 : mm_maxL 116 = 5 := rfl
theorem mp116 : mm_pl (mm_cn 116) = mm_p7 := rfl
theorem mr116 : mm_ret 116 = (Option.some FieldType.int) := rfl
theorem mk116 : mm_cls 116 = 7 := rfl
theorem mc117 : mm_code 117 = mm_c117 := rfl
theorem mx117 : mm_maxL 117 = 6 := rfl
theorem mp117 : mm_pl (mm_cn 117) = mm_p7 := rfl
theorem mr117 : mm_ret 117 = (Option.none : Option FieldType) := rfl
theorem mk117 : mm_cls 117 = 7 := rfl
theorem mc118 : mm_code 118 = mm_c118 := rfl
theorem mx118 : mm_maxL 118 = 4 := rfl
theorem mp118 : mm_pl (mm_cn 118) = mm_p7 := rfl
theorem mr118 : mm_ret 118 = (Option.some FieldType.int) := rfl
theorem mk118 : mm_cls 118 = 7 := rfl
theorem mc119 : mm_code 119 = mm_c119 := rfl
theorem mx119 : mm_maxL 119 = 11 := rfl
theorem mp119 : mm_pl (mm_cn 119) = mm_p7 := rfl
theorem mr119 : mm_ret 119 = (Option.some FieldType.long) := rfl
theorem mk119 : mm_cls 119 = 7 := rfl
theorem mc120 : mm_code 120 = mm_c120 := rfl
theorem mx120 : mm_maxL 120 = 4 := rfl
theorem mp120 : mm_pl (mm_cn 120) = mm_p7 := rfl
theorem mr120 : mm_ret 120 = (Option.some FieldType.int) := rfl
theorem mk120 : mm_cls 120 = 7 := rfl
theorem mc121 : mm_code 121 = mm_c121 := rfl
theorem mx121 : mm_maxL 121 = 2 := rfl
theorem mp121 : mm_pl (mm_cn 121) = mm_p7 := rfl
theorem mr121 : mm_ret 121 = (Option.some FieldType.int) := rfl
theorem mk121 : mm_cls 121 = 7 := rfl
theorem mc122 : mm_code 122 = mm_c122 := rfl
theorem mx122 : mm_maxL 122 = 3 := rfl
theorem mp122 : mm_pl (mm_cn 122) = mm_p7 := rfl
theorem mr122 : mm_ret 122 = (Option.some FieldType.int) := rfl
theorem mk122 : mm_cls 122 = 7 := rfl
theorem mc123 : mm_code 123 = mm_c123 := rfl
theorem mx123 : mm_maxL 123 = 6 := rfl
theorem mp123 : mm_pl (mm_cn 123) = mm_p7 := rfl
theorem mr123 : mm_ret 123 = (Option.some FieldType.int) := rfl
theorem mk123 : mm_cls 123 = 7 := rfl
theorem mc124 : mm_code 124 = mm_c124 := rfl
theorem mx124 : mm_maxL 124 = 7 := rfl
theorem mp124 : mm_pl (mm_cn 124) = mm_p7 := rfl
theorem mr124 : mm_ret 124 = (Option.some FieldType.int) := rfl
theorem mk124 : mm_cls 124 = 7 := rfl
theorem mc125 : mm_code 125 = mm_c125 := rfl
theorem mx125 : mm_maxL 125 = 5 := rfl
theorem mp125 : mm_pl (mm_cn 125) = mm_p7 := rfl
theorem mr125 : mm_ret 125 = (Option.some FieldType.int) := rfl
theorem mk125 : mm_cls 125 = 7 := rfl
theorem mc126 : mm_code 126 = mm_c126 := rfl
theorem mx126 : mm_maxL 126 = 3 := rfl
theorem mp126 : mm_pl (mm_cn 126) = mm_p7 := rfl
theorem mr126 : mm_ret 126 = (Option.some FieldType.int) := rfl
theorem mk126 : mm_cls 126 = 7 := rfl
theorem mc127 : mm_code 127 = mm_c127 := rfl
theorem mx127 : mm_maxL 127 = 6 := rfl
theorem mp127 : mm_pl (mm_cn 127) = mm_p7 := rfl
theorem mr127 : mm_ret 127 = (Option.some FieldType.int) := rfl
theorem mk127 : mm_cls 127 = 7 := rfl
theorem mc128 : mm_code 128 = mm_c128 := rfl
theorem mx128 : mm_maxL 128 = 3 := rfl
theorem mp128 : mm_pl (mm_cn 128) = mm_p7 := rfl
theorem mr128 : mm_ret 128 = (Option.some FieldType.long) := rfl
theorem mk128 : mm_cls 128 = 7 := rfl
theorem mc129 : mm_code 129 = mm_c129 := rfl
theorem mx129 : mm_maxL 129 = 2 := rfl
theorem mp129 : mm_pl (mm_cn 129) = mm_p7 := rfl
theorem mr129 : mm_ret 129 = (Option.none : Option FieldType) := rfl
theorem mk129 : mm_cls 129 = 7 := rfl
theorem mc130 : mm_code 130 = mm_c130 := rfl
theorem mx130 : mm_maxL 130 = 5 := rfl
theorem mp130 : mm_pl (mm_cn 130) = mm_p7 := rfl
theorem mr130 : mm_ret 130 = (Option.some FieldType.int) := rfl
theorem mk130 : mm_cls 130 = 7 := rfl
theorem mc131 : mm_code 131 = mm_c131 := rfl
theorem mx131 : mm_maxL 131 = 2 := rfl
theorem mp131 : mm_pl (mm_cn 131) = mm_p7 := rfl
theorem mr131 : mm_ret 131 = (Option.none : Option FieldType) := rfl
theorem mk131 : mm_cls 131 = 7 := rfl
theorem mc132 : mm_code 132 = mm_c132 := rfl
theorem mx132 : mm_maxL 132 = 3 := rfl
theorem mp132 : mm_pl (mm_cn 132) = mm_p7 := rfl
theorem mr132 : mm_ret 132 = (Option.some FieldType.long) := rfl
theorem mk132 : mm_cls 132 = 7 := rfl
theorem mc133 : mm_code 133 = mm_c133 := rfl
theorem mx133 : mm_maxL 133 = 4 := rfl
theorem mp133 : mm_pl (mm_cn 133) = mm_p7 := rfl
theorem mr133 : mm_ret 133 = (Option.some FieldType.long) := rfl
theorem mk133 : mm_cls 133 = 7 := rfl
theorem mc134 : mm_code 134 = mm_c134 := rfl
theorem mx134 : mm_maxL 134 = 3 := rfl
theorem mp134 : mm_pl (mm_cn 134) = mm_p8 := rfl
theorem mr134 : mm_ret 134 = (Option.some FieldType.int) := rfl
theorem mc135 : mm_code 135 = mm_c135 := rfl
theorem mx135 : mm_maxL 135 = 3 := rfl
theorem mp135 : mm_pl (mm_cn 135) = mm_p8 := rfl
theorem mr135 : mm_ret 135 = (Option.some FieldType.int) := rfl
theorem mc136 : mm_code 136 = mm_c136 := rfl
theorem mx136 : mm_maxL 136 = 6 := rfl
theorem mp136 : mm_pl (mm_cn 136) = mm_p8 := rfl
theorem mr136 : mm_ret 136 = (Option.some FieldType.int) := rfl
theorem mc137 : mm_code 137 = mm_c137 := rfl
theorem mx137 : mm_maxL 137 = 3 := rfl
theorem mp137 : mm_pl (mm_cn 137) = mm_p8 := rfl
theorem mr137 : mm_ret 137 = (Option.some FieldType.int) := rfl
theorem mc138 : mm_code 138 = mm_c138 := rfl
theorem mx138 : mm_maxL 138 = 3 := rfl
theorem mp138 : mm_pl (mm_cn 138) = mm_p8 := rfl
theorem mr138 : mm_ret 138 = (Option.some FieldType.int) := rfl
theorem mc139 : mm_code 139 = mm_c139 := rfl
theorem mx139 : mm_maxL 139 = 5 := rfl
theorem mp139 : mm_pl (mm_cn 139) = mm_p8 := rfl
theorem mr139 : mm_ret 139 = (Option.some FieldType.int) := rfl
theorem mc140 : mm_code 140 = mm_c140 := rfl
theorem mx140 : mm_maxL 140 = 4 := rfl
theorem mp140 : mm_pl (mm_cn 140) = mm_p8 := rfl
theorem mr140 : mm_ret 140 = (Option.some FieldType.int) := rfl
theorem mc141 : mm_code 141 = mm_c141 := rfl
theorem mx141 : mm_maxL 141 = 5 := rfl
theorem mp141 : mm_pl (mm_cn 141) = mm_p8 := rfl
theorem mr141 : mm_ret 141 = (Option.some FieldType.int) := rfl
theorem mc142 : mm_code 142 = mm_c142 := rfl
theorem mx142 : mm_maxL 142 = 6 := rfl
theorem mp142 : mm_pl (mm_cn 142) = mm_p8 := rfl
theorem mr142 : mm_ret 142 = (Option.some FieldType.int) := rfl
theorem mc143 : mm_code 143 = mm_c143 := rfl
theorem mx143 : mm_maxL 143 = 4 := rfl
theorem mp143 : mm_pl (mm_cn 143) = mm_p8 := rfl
theorem mr143 : mm_ret 143 = (Option.some FieldType.int) := rfl
theorem mc144 : mm_code 144 = mm_c144 := rfl
theorem mx144 : mm_maxL 144 = 6 := rfl
theorem mp144 : mm_pl (mm_cn 144) = mm_p8 := rfl
theorem mr144 : mm_ret 144 = (Option.some FieldType.int) := rfl
theorem mc145 : mm_code 145 = mm_c145 := rfl
theorem mx145 : mm_maxL 145 = 4 := rfl
theorem mp145 : mm_pl (mm_cn 145) = mm_p8 := rfl
theorem mr145 : mm_ret 145 = (Option.some FieldType.int) := rfl
theorem mc146 : mm_code 146 = mm_c146 := rfl
theorem mx146 : mm_maxL 146 = 3 := rfl
theorem mp146 : mm_pl (mm_cn 146) = mm_p8 := rfl
theorem mr146 : mm_ret 146 = (Option.some FieldType.int) := rfl
theorem mc147 : mm_code 147 = mm_c147 := rfl
theorem mx147 : mm_maxL 147 = 5 := rfl
theorem mp147 : mm_pl (mm_cn 147) = mm_p8 := rfl
theorem mr147 : mm_ret 147 = (Option.some FieldType.int) := rfl
theorem mc148 : mm_code 148 = mm_c148 := rfl
theorem mx148 : mm_maxL 148 = 3 := rfl
theorem mp148 : mm_pl (mm_cn 148) = mm_p8 := rfl
theorem mr148 : mm_ret 148 = (Option.some FieldType.int) := rfl
theorem mc149 : mm_code 149 = mm_c149 := rfl
theorem mx149 : mm_maxL 149 = 6 := rfl
theorem mp149 : mm_pl (mm_cn 149) = mm_p8 := rfl
theorem mr149 : mm_ret 149 = (Option.some FieldType.int) := rfl
theorem mc150 : mm_code 150 = mm_c150 := rfl
theorem mx150 : mm_maxL 150 = 5 := rfl
theorem mp150 : mm_pl (mm_cn 150) = mm_p8 := rfl
theorem mr150 : mm_ret 150 = (Option.some FieldType.int) := rfl
theorem mc151 : mm_code 151 = mm_c151 := rfl
theorem mx151 : mm_maxL 151 = 6 := rfl
theorem mp151 : mm_pl (mm_cn 151) = mm_p8 := rfl
theorem mr151 : mm_ret 151 = (Option.some FieldType.int) := rfl
theorem mc152 : mm_code 152 = mm_c152 := rfl
theorem mx152 : mm_maxL 152 = 8 := rfl
theorem mp152 : mm_pl (mm_cn 152) = mm_p8 := rfl
theorem mr152 : mm_ret 152 = (Option.some FieldType.boolean) := rfl
