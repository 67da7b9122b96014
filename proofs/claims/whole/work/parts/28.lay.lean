/-! own: the layout behind the constructors; the law up to its loop -/
def eC11 : EC := ern eC10 21 1
def gkL : List Nat := [9, 1, 24, 3, 2, 20, 20, 20, 20, 6, 4, 22, 22, 30, 20, 34, 20, 20, 20, 8, 2, 20, 20, 20, 22, 8, 2, 20, 20, 20, 22, 8, 2, 20, 20, 20, 22, 8, 2, 20, 20, 20, 22, 8, 2, 20, 20, 20, 22, 8, 2, 20, 20, 20, 22, 8, 2, 20, 20, 20, 22, 8, 2, 20, 20, 20, 22, 8, 2, 20, 20, 20, 22, 8, 2, 20, 20, 20, 22, 8, 2, 20, 20, 20, 22, 8, 2, 20, 20, 20, 22, 8, 2, 20, 20, 20, 22, 8, 2, 20, 20, 20, 22, 8, 2, 20, 20, 20, 22, 8, 2, 20, 20, 20, 22, 8, 2, 20, 20, 20, 22, 8, 2, 20, 20, 20, 22, 8, 2, 20, 20, 20, 22, 8, 2, 20, 20, 20, 22, 8, 2, 20, 20, 20, 22, 8, 2, 20, 20, 20, 22, 8, 2, 20, 20, 20, 22, 8, 2, 20, 20, 20, 22, 8, 2, 20, 20, 20, 22, 8, 2, 20, 20, 20, 22, 8, 2, 20, 20, 20, 22, 8, 2, 20, 20, 20, 22, 8, 2, 20, 20, 20, 22, 8, 2, 20, 20, 20, 22, 8, 2, 20, 20, 20, 22, 8, 2, 20, 20, 20, 22, 8, 2, 20, 20, 20, 22, 8, 2, 20, 20, 20, 22, 8, 2, 20, 20, 20, 22, 8, 2, 20, 20, 20, 22, 8, 2, 20, 20, 20, 22, 8, 2, 20, 20, 20, 22, 8, 2, 20, 20, 20, 22, 8, 2, 20, 20, 20, 22, 8, 2, 20, 20, 20, 22, 8, 2, 20, 20, 20, 22, 8, 2, 20, 20, 20, 22, 8, 2, 20, 20, 20, 22, 8, 2, 20, 20, 20, 22, 8, 2, 20, 20, 20, 22, 8, 2, 20, 20, 20, 22, 8, 2, 20, 20, 20, 22, 8, 2, 20, 20, 20, 22, 8, 2, 20, 20, 20, 22, 8, 2, 20, 20, 20, 22, 8, 2, 20, 20, 20, 22, 8, 2, 20, 20, 20, 22, 8, 2, 20, 20, 20, 22, 8, 2, 20, 20, 20, 22, 8, 2, 20, 20, 20, 22, 8, 2, 20, 20, 20, 22, 8, 2, 20, 20, 20, 22, 8, 2, 20, 20, 20, 22, 8, 2, 20, 20, 20, 22, 31, 5, 32, 33, 5, 5, 5, 5, 5, 5, 5, 5, 5, 5, 5, 5, 5, 5, 5, 5, 5, 5, 5, 5, 5, 5, 5, 5, 5, 5, 5, 5, 5, 5, 5, 5, 5, 5, 5, 5, 5, 5, 5, 5, 0, 2, 20, 20, 22, 0, 2, 20, 20, 22, 0, 2, 20, 20, 22, 7, 7, 7, 7, 7, 7, 7, 7, 7, 7, 7, 7, 7, 7, 7, 7, 7, 7, 7, 7, 7, 7, 7, 7, 7, 7, 7, 7, 7, 7, 7, 7, 7, 7, 7, 7, 7, 7, 7, 7, 7, 7, 7, 7, 7, 7, 7, 7, 7, 7, 7, 7, 7, 7, 7, 7, 7, 7, 7, 7, 10, 20, 20, 20, 20, 20, 20, 20, 20, 20, 20, 22, 20, 20, 20, 20, 22, 20, 20, 23, 20, 20, 22, 23, 20, 20, 20, 22, 23, 20, 20, 20, 22, 20, 20, 20, 20, 20, 20, 20, 22, 20, 21]
def gnL : List Nat := [0, 0, 40, 0, 0, 40, 40, 40, 40, 0, 0, 20, 40, 60, 6, 3, 201, 201, 201, 0, 0, 40, 40, 6, 201, 0, 0, 40, 40, 6, 201, 0, 0, 40, 40, 6, 201, 0, 0, 40, 40, 6, 201, 0, 0, 40, 40, 6, 201, 0, 0, 40, 40, 6, 201, 0, 0, 40, 40, 6, 201, 0, 0, 40, 40, 6, 201, 0, 0, 40, 40, 6, 201, 0, 0, 40, 40, 6, 201, 0, 0, 40, 40, 6, 201, 0, 0, 40, 40, 6, 201, 0, 0, 40, 40, 6, 201, 0, 0, 40, 40, 6, 201, 0, 0, 40, 40, 6, 201, 0, 0, 40, 40, 6, 201, 0, 0, 40, 40, 6, 201, 0, 0, 40, 40, 6, 201, 0, 0, 40, 40, 6, 201, 0, 0, 40, 40, 6, 201, 0, 0, 40, 40, 6, 201, 0, 0, 40, 40, 6, 201, 0, 0, 40, 40, 6, 201, 0, 0, 40, 40, 6, 201, 0, 0, 40, 40, 6, 201, 0, 0, 40, 40, 6, 201, 0, 0, 40, 40, 6, 201, 0, 0, 40, 40, 6, 201, 0, 0, 40, 40, 6, 201, 0, 0, 40, 40, 6, 201, 0, 0, 40, 40, 6, 201, 0, 0, 40, 40, 6, 201, 0, 0, 40, 40, 6, 201, 0, 0, 40, 40, 6, 201, 0, 0, 40, 40, 6, 201, 0, 0, 40, 40, 6, 201, 0, 0, 40, 40, 6, 201, 0, 0, 40, 40, 6, 201, 0, 0, 40, 40, 6, 201, 0, 0, 40, 40, 6, 201, 0, 0, 40, 40, 6, 201, 0, 0, 40, 40, 6, 201, 0, 0, 40, 40, 6, 201, 0, 0, 40, 40, 6, 201, 0, 0, 40, 40, 6, 201, 0, 0, 40, 40, 6, 201, 0, 0, 40, 40, 6, 201, 0, 0, 40, 40, 6, 201, 0, 0, 40, 40, 6, 201, 0, 0, 40, 40, 6, 201, 0, 0, 40, 40, 6, 201, 0, 0, 40, 40, 6, 201, 0, 0, 40, 40, 6, 201, 0, 0, 40, 40, 6, 201, 0, 0, 40, 40, 6, 201, 0, 0, 40, 40, 6, 201, 0, 0, 40, 40, 6, 201, 0, 0, 40, 40, 6, 201, 0, 0, 40, 40, 6, 201, 0, 0, 40, 40, 6, 201, 40, 0, 3, 60, 0, 0, 0, 0, 0, 0, 0, 0, 0, 0, 0, 0, 0, 0, 0, 0, 0, 0, 0, 0, 0, 0, 0, 0, 0, 0, 0, 0, 0, 0, 0, 0, 0, 0, 0, 0, 0, 0, 0, 0, 0, 0, 40, 40, 201, 0, 0, 40, 40, 201, 0, 0, 40, 40, 201, 0, 0, 0, 0, 0, 0, 0, 0, 0, 0, 0, 0, 0, 0, 0, 0, 0, 0, 0, 0, 0, 0, 0, 0, 0, 0, 0, 0, 0, 0, 0, 0, 0, 0, 0, 0, 0, 0, 0, 0, 0, 0, 0, 0, 0, 0, 0, 0, 0, 0, 0, 0, 0, 0, 0, 0, 0, 0, 0, 0, 0, 40, 40, 60, 60, 2400, 360, 6, 6, 603, 603, 12060, 60, 40, 40, 40, 40, 40, 40, 3, 3, 3, 3, 3, 3, 120, 3, 603, 3, 3, 3, 3, 3, 3, 60, 60, 60, 60, 60, 40, 48, 48, 1]
def grL : List (List (Option Nat)) := [[some 1, some 3, some 9, some 379, some 380, some 381, some 382], [some 2], [], [some 4, some 7, some 8], [some 5, some 6], [], [], [], [], [some 10, some 13, some 14, some 15], [some 11, some 12], [], [], [some 19, some 25, some 31, some 37, some 43, some 49, some 55, some 61, some 67, some 73, some 79, some 85, some 91, some 97, some 103, some 109, some 115, some 121, some 127, some 133, some 139, some 145, some 151, some 157, some 163, some 169, some 175, some 181, some 187, some 193, some 199, some 205, some 211, some 217, some 223, some 229, some 235, some 241, some 247, some 253, some 259, some 265, some 271, some 277, some 283, some 289, some 295, some 301, some 307, some 313, some 319, some 325, some 331, some 337, some 343, some 349, some 355, some 361, some 367, some 373], [], [some 16, some 17, some 18], [], [], [], [some 20, some 23, some 24], [some 21, some 22], [], [], [], [], [some 26, some 29, some 30], [some 27, some 28], [], [], [], [], [some 32, some 35, some 36], [some 33, some 34], [], [], [], [], [some 38, some 41, some 42], [some 39, some 40], [], [], [], [], [some 44, some 47, some 48], [some 45, some 46], [], [], [], [], [some 50, some 53, some 54], [some 51, some 52], [], [], [], [], [some 56, some 59, some 60], [some 57, some 58], [], [], [], [], [some 62, some 65, some 66], [some 63, some 64], [], [], [], [], [some 68, some 71, some 72], [some 69, some 70], [], [], [], [], [some 74, some 77, some 78], [some 75, some 76], [], [], [], [], [some 80, some 83, some 84], [some 81, some 82], [], [], [], [], [some 86, some 89, some 90], [some 87, some 88], [], [], [], [], [some 92, some 95, some 96], [some 93, some 94], [], [], [], [], [some 98, some 101, some 102], [some 99, some 100], [], [], [], [], [some 104, some 107, some 108], [some 105, some 106], [], [], [], [], [some 110, some 113, some 114], [some 111, some 112], [], [], [], [], [some 116, some 119, some 120], [some 117, some 118], [], [], [], [], [some 122, some 125, some 126], [some 123, some 124], [], [], [], [], [some 128, some 131, some 132], [some 129, some 130], [], [], [], [], [some 134, some 137, some 138], [some 135, some 136], [], [], [], [], [some 140, some 143, some 144], [some 141, some 142], [], [], [], [], [some 146, some 149, some 150], [some 147, some 148], [], [], [], [], [some 152, some 155, some 156], [some 153, some 154], [], [], [], [], [some 158, some 161, some 162], [some 159, some 160], [], [], [], [], [some 164, some 167, some 168], [some 165, some 166], [], [], [], [], [some 170, some 173, some 174], [some 171, some 172], [], [], [], [], [some 176, some 179, some 180], [some 177, some 178], [], [], [], [], [some 182, some 185, some 186], [some 183, some 184], [], [], [], [], [some 188, some 191, some 192], [some 189, some 190], [], [], [], [], [some 194, some 197, some 198], [some 195, some 196], [], [], [], [], [some 200, some 203, some 204], [some 201, some 202], [], [], [], [], [some 206, some 209, some 210], [some 207, some 208], [], [], [], [], [some 212, some 215, some 216], [some 213, some 214], [], [], [], [], [some 218, some 221, some 222], [some 219, some 220], [], [], [], [], [some 224, some 227, some 228], [some 225, some 226], [], [], [], [], [some 230, some 233, some 234], [some 231, some 232], [], [], [], [], [some 236, some 239, some 240], [some 237, some 238], [], [], [], [], [some 242, some 245, some 246], [some 243, some 244], [], [], [], [], [some 248, some 251, some 252], [some 249, some 250], [], [], [], [], [some 254, some 257, some 258], [some 255, some 256], [], [], [], [], [some 260, some 263, some 264], [some 261, some 262], [], [], [], [], [some 266, some 269, some 270], [some 267, some 268], [], [], [], [], [some 272, some 275, some 276], [some 273, some 274], [], [], [], [], [some 278, some 281, some 282], [some 279, some 280], [], [], [], [], [some 284, some 287, some 288], [some 285, some 286], [], [], [], [], [some 290, some 293, some 294], [some 291, some 292], [], [], [], [], [some 296, some 299, some 300], [some 297, some 298], [], [], [], [], [some 302, some 305, some 306], [some 303, some 304], [], [], [], [], [some 308, some 311, some 312], [some 309, some 310], [], [], [], [], [some 314, some 317, some 318], [some 315, some 316], [], [], [], [], [some 320, some 323, some 324], [some 321, some 322], [], [], [], [], [some 326, some 329, some 330], [some 327, some 328], [], [], [], [], [some 332, some 335, some 336], [some 333, some 334], [], [], [], [], [some 338, some 341, some 342], [some 339, some 340], [], [], [], [], [some 344, some 347, some 348], [some 345, some 346], [], [], [], [], [some 350, some 353, some 354], [some 351, some 352], [], [], [], [], [some 356, some 359, some 360], [some 357, some 358], [], [], [], [], [some 362, some 365, some 366], [some 363, some 364], [], [], [], [], [some 368, some 371, some 372], [some 369, some 370], [], [], [], [], [some 374, some 377, some 378], [some 375, some 376], [], [], [], [], [some 383, some 384, some 385, some 386, some 387, some 388, some 389, some 390, some 391, some 392, some 393, some 394, some 395, some 396, some 397, some 398, some 399, some 400, some 401, some 402, some 403, some 404, some 405, some 406, some 407, some 408, some 409, some 410, some 411, some 412, some 413, some 414, some 415, some 416, some 417, some 418, some 419, some 420, some 421, some 422], [], [some 423, some 428, some 433], [some 438, some 439, some 440, some 441, some 442, some 443, some 444, some 445, some 446, some 447, some 448, some 449, some 450, some 451, some 452, some 453, some 454, some 455, some 456, some 457, some 458, some 459, some 460, some 461, some 462, some 463, some 464, some 465, some 466, some 467, some 468, some 469, some 470, some 471, some 472, some 473, some 474, some 475, some 476, some 477, some 478, some 479, some 480, some 481, some 482, some 483, some 484, some 485, some 486, some 487, some 488, some 489, some 490, some 491, some 492, some 493, some 494, some 495, some 496, some 497], [], [], [], [], [], [], [], [], [], [], [], [], [], [], [], [], [], [], [], [], [], [], [], [], [], [], [], [], [], [], [], [], [], [], [], [], [], [], [], [], [some 424, some 427], [some 425, some 426], [], [], [], [some 429, some 432], [some 430, some 431], [], [], [], [some 434, some 437], [some 435, some 436], [], [], [], [], [], [], [], [], [], [], [], [], [], [], [], [], [], [], [], [], [], [], [], [], [], [], [], [], [], [], [], [], [], [], [], [], [], [], [], [], [], [], [], [], [], [], [], [], [], [], [], [], [], [], [], [], [], [], [], [], [], [], [], [none, none, none, some 499, some 500, none, some 501, some 502, some 503, some 504, some 505, some 506, some 507, some 508, none, some 509, some 510, none, some 511, some 512, some 513, some 514, some 515, some 516, some 517, some 518, some 519, some 520, some 521, some 522, some 523, some 524, some 525, some 526, some 527, some 528, some 529, some 530, some 531, none, some 532, some 533, some 534, some 535, some 536, some 537, none, some 538, none, some 539], [], [], [], [], [], [], [], [], [], [], [], [], [], [], [], [], [], [], [], [], [], [], [], [], [], [], [], [], [], [], [], [], [], [], [], [], [], [], [], [], [], []]
def gK (o : Nat) : Nat := am_nt gkL o 0
def gN (o : Nat) : Nat := am_nt gnL o 0
def gR (o j : Nat) : Option Nat := am_nt (am_nt grL o []) j none
def gI0 (o j : Nat) : Int32 := am_nt (eg eC11.reverse o).2.2.1 j 0
def gF0 (o j : Nat) : UInt32 := am_nt (eg eC11.reverse o).2.2.2.1 j 0
def G (X : Nat × (Nat → Int32)) (I : Nat → Nat → Int32) (L : Nat → Nat → Int64) (F : Nat → Nat → UInt32) : AH := (541, gK, gN, I, L, F, gR, X)
theorem am_nt_map {α β : Type} (f : α → β) : ∀ (l : List α) (o : Nat) (d : α), am_nt (l.map f) o (f d) = f (am_nt l o d)
  | [], o, d => by rw [List.map_nil, am_nt_nil, am_nt_nil]
  | a :: l, 0, d => rfl
  | a :: l, o + 1, d => am_nt_map f l o d
set_option maxRecDepth 100000 in
theorem gk_ok : eC11.reverse.map (fun q => q.1) = gkL := by decide +kernel
set_option maxRecDepth 100000 in
theorem gn_ok : eC11.reverse.map (fun q => q.2.1) = gnL := by decide +kernel
set_option maxRecDepth 100000 in
theorem grf_ok : eC11.reverse.map (fun q => q.2.2.2.2) = grL := by decide +kernel
set_option maxRecDepth 100000 in
theorem gl_ok : eC11.length = 541 := by decide +kernel
set_option maxRecDepth 100000 in
theorem ec_G {X : Nat × (Nat → Int32)} : ec X eC11.reverse = G X gI0 (fun _ _ => 0) gF0 := by
  have e1 : (fun o => (eg eC11.reverse o).1) = gK := by
    funext o
    unfold gK
    rw [← gk_ok]
    exact (am_nt_map (fun q : Nat × Nat × List Int32 × List UInt32 × List (Option Nat) => q.1) eC11.reverse o ecd).symm
  have e2 : (fun o => (eg eC11.reverse o).2.1) = gN := by
    funext o
    unfold gN
    rw [← gn_ok]
    exact (am_nt_map (fun q : Nat × Nat × List Int32 × List UInt32 × List (Option Nat) => q.2.1) eC11.reverse o ecd).symm
  have e3 : (fun o j => am_nt (eg eC11.reverse o).2.2.2.2 j none) = gR := by
    funext o j
    unfold gR
    rw [← grf_ok]
    exact congrArg (fun l => am_nt l j none) (am_nt_map (fun q : Nat × Nat × List Int32 × List UInt32 × List (Option Nat) => q.2.2.2.2) eC11.reverse o ecd).symm
  unfold ec
  rw [e1, e2, e3, List.length_reverse, gl_ok]
  rfl
theorem am_h0_ec {L : Nat} {xs : Nat → Int32} : am_h0 L xs = ec (L, xs) ([] : EC).reverse := by
  have e : ∀ o, eg [] o = ecd := fun o => am_nt_nil o ecd
  unfold ec
  simp only [List.reverse_nil, e]
  unfold am_h0 ecd
  simp only [am_nt_nil]
  rfl
theorem am_head {L : Nat} {xs : Nat → Int32} {Q : AQ} (q : WP mL_law 23 [some (.ref 1000000), some (.ref 0), some (.ref 498), some (.ref 540), some (.int 0), none, none] [] (G (L, xs) gI0 (fun _ _ => 0) gF0) 564 60511 Q) : WP mL_law 0 (am_ent 7 [.ref 1000000]) [] (am_h0 L xs) 0 0 Q := by
  rw [am_h0_ec]
  refine w_new rL_law_0 ⟨by rw [er_hn (m := 0) rfl]; decide, by decide, by decide⟩ ?_
  rw [er_new, er_hn (m := 0) rfl]
  refine w_dup rL_law_3 trivial ?_
  refine w_invokespecial rL_law_4 rfl rfl rfl (by decide) ⟨trivial, trivial⟩ ?_ (by decide) (by decide) ?_
  · exact er_is (m := 1) (C := ern [] 9 0) rfl (by decide) (by decide)
  refine ev_ok (L, xs) 20000 59 0 _ _ 1 (ern [] 9 0) 0 0 none 498 eC9 rfl (evB_ok ev_X9) _ (fun hm9 => ?_)
  show WP mL_law 7 _ _ _ _ _ _
  refine w_astore_n rL_law_7 rfl trivial ?_
  refine w_new rL_law_8 ⟨by rw [er_hn hm9]; decide, by decide, by decide⟩ ?_
  rw [er_new, er_hn hm9]
  refine w_dup rL_law_11 trivial ?_
  refine w_invokespecial rL_law_12 rfl rfl rfl (by decide) ⟨trivial, trivial⟩ ?_ (by decide) (by decide) ?_
  · exact er_is (m := 499) (C := ern eC9 10 0) (er_ln hm9) (by decide) (by decide +kernel)
  refine ev_ok (L, xs) 20000 100 0 _ _ 499 (ern eC9 10 0) 0 0 none 540 eC10 (er_ln hm9) (evB_ok ev_X10) _ (fun hm10 => ?_)
  show WP mL_law 15 _ _ _ _ _ _
  refine w_astore_n rL_law_15 rfl trivial ?_
  refine w_iconst rL_law_16 (x := 1) (by decide) ?_
  refine w_newarray rL_law_17 (n := 1) (by decide) (by decide) (by decide) ⟨by rw [er_hn hm10]; decide, by decide, by decide⟩ ?_
  rw [er_new, er_hn hm10]
  refine w_astore_n rL_law_19 rfl trivial ?_
  refine w_iconst rL_law_20 (x := 0) (by decide) ?_
  refine w_istore rL_law_21 rfl trivial ?_
  have e := ec_G (X := (L, xs))
  unfold eC11 at e
  rw [e]
  exact q

