/-! the finished pool: its roles; the first state -/
def IXl : List Nat := [0, 1, 64, 221, 309, 2, 62, 3, 63, 72, 80, 88, 89, 90, 91, 92, 222, 316, 9999, 9999, 65, 66, 67, 68, 69, 70, 71, 9999, 9999, 9999, 73, 74, 75, 76, 77, 78, 79, 9999, 9999, 9999, 81, 82, 83, 84, 85, 86, 87, 9999, 9999, 9999, 10, 11, 18, 12, 13, 14, 15, 16, 17, 19, 20, 21, 22, 9999, 9999, 9999, 9999, 9999, 9999, 9999, 23, 24, 31, 25, 26, 27, 28, 29, 30, 32, 33, 34, 35, 9999, 9999, 9999, 9999, 9999, 9999, 9999, 36, 37, 44, 38, 39, 40, 41, 42, 43, 45, 46, 47, 48, 9999, 9999, 9999, 9999, 9999, 9999, 9999, 49, 50, 57, 51, 52, 53, 54, 55, 56, 58, 59, 60, 61, 9999, 9999, 9999, 9999, 9999, 9999, 9999, 223, 224, 9999, 9999, 9999, 9999, 9999, 9999, 9999, 9999, 9999, 9999, 9999, 9999, 9999, 9999, 9999, 9999, 9999, 9999, 9999, 9999, 9999, 9999, 9999, 9999, 9999, 9999, 9999, 9999, 9999, 9999, 9999, 9999, 9999, 9999, 9999, 9999, 9999, 9999, 9999, 9999, 9999, 9999, 9999, 9999, 9999, 9999, 9999, 9999, 9999, 9999, 9999, 9999, 9999, 9999, 9999, 9999, 9999, 9999, 9999, 9999, 9999, 9999, 9999, 9999, 9999, 9999, 9999, 9999, 4, 5, 6, 7, 8, 9, 93, 94, 95, 96, 225, 226, 227, 228, 310, 311, 312, 313, 314, 315, 97, 98, 99, 100, 101, 102, 103, 104, 105, 106, 107, 108, 109, 110, 111, 112, 113, 114, 115, 116, 117, 118, 119, 120, 121, 122, 123, 124, 125, 126, 127, 128, 129, 130, 131, 132, 133, 134, 135, 136, 137, 138, 139, 140, 141, 142, 143, 144, 145, 146, 147, 148, 149, 150, 151, 152, 153, 154, 155, 156, 157, 158, 159, 160, 161, 162, 163, 164, 165, 166, 167, 168, 169, 170, 171, 172, 173, 174, 175, 176, 177, 178, 179, 180, 181, 182, 183, 184, 185, 186, 187, 188, 189, 190, 191, 192, 193, 194, 9999, 9999, 195, 196, 197, 198, 199, 200, 201, 202, 203, 204, 205, 206, 9999, 9999, 9999, 9999, 9999, 9999, 9999, 9999, 207, 208, 209, 210, 211, 212, 213, 214, 215, 216, 217, 218, 219, 220, 9999, 9999, 9999, 9999, 9999, 9999, 229, 230, 231, 232, 233, 234, 235, 236, 237, 238, 239, 240, 241, 242, 243, 244, 245, 246, 247, 248, 249, 250, 251, 252, 253, 254, 255, 256, 257, 258, 259, 260, 261, 262, 263, 264, 265, 266, 267, 268, 269, 270, 271, 272, 273, 274, 275, 276, 277, 278, 279, 280, 281, 282, 283, 284, 285, 286, 287, 288, 289, 290, 291, 292, 293, 294, 295, 296, 297, 298, 299, 300, 301, 302, 303, 304, 305, 306, 307, 308, 9999, 9999, 9999, 9999, 9999, 9999, 9999, 9999, 9999, 9999, 9999, 9999, 9999, 9999, 9999, 9999, 9999, 9999, 9999, 9999, 9999, 9999, 9999, 9999, 9999, 9999, 9999, 9999, 9999, 9999, 9999, 9999, 9999, 9999, 9999, 9999, 9999, 9999, 9999, 9999, 9999, 9999, 9999, 9999, 9999, 9999, 9999, 9999, 9999, 9999, 9999, 9999, 9999, 9999, 9999, 9999, 9999, 9999, 9999, 9999, 317, 318, 9999, 319, 320, 321, 9999, 9999, 322, 9999, 323, 324, 325, 326, 327, 328, 329, 330, 331, 332, 333, 9999, 334, 335, 336, 9999, 337, 338, 339, 340]
def RXl : List Nat := [0, 1, 5, 7, 200, 201, 202, 203, 204, 205, 50, 51, 53, 54, 55, 56, 57, 58, 52, 59, 60, 61, 62, 70, 71, 73, 74, 75, 76, 77, 78, 72, 79, 80, 81, 82, 90, 91, 93, 94, 95, 96, 97, 98, 92, 99, 100, 101, 102, 110, 111, 113, 114, 115, 116, 117, 118, 112, 119, 120, 121, 122, 6, 8, 2, 20, 21, 22, 23, 24, 25, 26, 9, 30, 31, 32, 33, 34, 35, 36, 10, 40, 41, 42, 43, 44, 45, 46, 11, 12, 13, 14, 15, 206, 207, 208, 209, 220, 221, 222, 223, 224, 225, 226, 227, 228, 229, 230, 231, 232, 233, 234, 235, 236, 237, 238, 239, 240, 241, 242, 243, 244, 245, 246, 247, 248, 249, 250, 251, 252, 253, 254, 255, 256, 257, 258, 259, 260, 261, 262, 263, 264, 265, 266, 267, 268, 269, 270, 271, 272, 273, 274, 275, 276, 277, 278, 279, 280, 281, 282, 283, 284, 285, 286, 287, 288, 289, 290, 291, 292, 293, 294, 295, 296, 297, 298, 299, 300, 301, 302, 303, 304, 305, 306, 307, 308, 309, 310, 311, 312, 313, 314, 315, 316, 317, 320, 321, 322, 323, 324, 325, 326, 327, 328, 329, 330, 331, 340, 341, 342, 343, 344, 345, 346, 347, 348, 349, 350, 351, 352, 353, 3, 16, 130, 131, 210, 211, 212, 213, 360, 361, 362, 363, 364, 365, 366, 367, 368, 369, 370, 371, 372, 373, 374, 375, 376, 377, 378, 379, 380, 381, 382, 383, 384, 385, 386, 387, 388, 389, 390, 391, 392, 393, 394, 395, 396, 397, 398, 399, 400, 401, 402, 403, 404, 405, 406, 407, 408, 409, 410, 411, 412, 413, 414, 415, 416, 417, 418, 419, 420, 421, 422, 423, 424, 425, 426, 427, 428, 429, 430, 431, 432, 433, 434, 435, 436, 437, 438, 439, 4, 214, 215, 216, 217, 218, 219, 17, 500, 501, 503, 504, 505, 508, 510, 511, 512, 513, 514, 515, 516, 517, 518, 519, 520, 522, 523, 524, 526, 527, 528, 529]
def ix (i : Nat) : Nat := IXl.getD i 9999
def mxa (G : Shp) : Nat := G.1.foldr max 0 + 1
def adF (G : Shp) (i : Nat) : Nat := if ix i < 341 then aG G (ix i) else mxa G + i
def roF (G : Shp) (a : Nat) : Nat := if a ∈ G.1 then RXl.getD (G.1.idxOf a) 0 else a - mxa G
theorem mxa_lt {l : List Nat} {a : Nat} (h : a ∈ l) : a ≤ l.foldr max 0 := by
  induction l with
  | nil => cases h
  | cons x l ih =>
    show a ≤ max x (l.foldr max 0)
    rcases List.mem_cons.mp h with e | e
    · rw [e]; exact Nat.le_max_left _ _
    · exact Nat.le_trans (ih e) (Nat.le_max_right _ _)
theorem len_f : refC_f.length = 341 := by decide +kernel
section FI
variable {G : Shp} {D : Dat}
theorem ix_b : ∀ i, i < 530 → ix i < 341 → RXl.getD (ix i) 0 = i := by decide +kernel
theorem roF_ad (h : Em G D refC_f) {i : Nat} (hi : i < 530) : roF G (adF G i) = i := by
  unfold adF
  by_cases q : ix i < 341
  · rw [if_pos q]
    have hm := h.mem (j := ix i) (by rw [len_f]; exact q)
    unfold roF
    rw [if_pos hm]
    have e : G.1.idxOf (aG G (ix i)) = ix i := by
      have hl : ix i < G.1.length := by rw [h.1, len_f]; exact q
      have e2 : aG G (ix i) = G.1[ix i] := by unfold aG; rw [List.getD_eq_getElem?_getD, List.getElem?_eq_getElem hl]; rfl
      rw [e2]
      exact h.2.1.idxOf_getElem _ hl
    rw [e]
    exact ix_b i hi q
  · rw [if_neg q]
    unfold roF
    have : mxa G + i ∉ G.1 := fun w => by
      have := mxa_lt w
      unfold mxa at this
      omega
    rw [if_neg this]
    omega
theorem fo (h : Em G D refC_f) {i k : Nat} (hf : ix i < 341 ∧ (gk refC_f (ix i)).1 = k) : isO G (adF G i) k := h.o (j := ix i) (by rw [len_f]; exact hf.1) hf.2 (if_pos hf.1).symm
theorem fl (h : Em G D refC_f) {i n : Nat} (hf : ix i < 341 ∧ (gk refC_f (ix i)).2.1 = n) : G.2.2.1 (adF G i) = n := h.l (j := ix i) (by rw [len_f]; exact hf.1) hf.2 (if_pos hf.1).symm
theorem fr (h : Em G D refC_f) {i j s : Nat} (hf : ix i < 341 ∧ ix j < 341 ∧ rfI refC_f (ix i) s = some (ix j)) : G.2.2.2 (adF G i) s = some (adF G j) := h.r (j := ix i) (x := ix j) (by rw [len_f]; exact hf.1) hf.2.2 (if_pos hf.1).symm (if_pos hf.2.1).symm
theorem fd (h : Em G D refC_f) {i s v : Nat} (hf : ix i < 341 ∧ ivI refC_f (ix i) s = v) : D.1 (adF G i) s = nI v := by
  rw [show adF G i = aG G (ix i) from if_pos hf.1, (h.2.2 (ix i) (by rw [len_f]; exact hf.1)).2.2.2.2.1 s, hf.2]
theorem fz (h : Em G D refC_f) {i : Nat} (hf : ix i < 341 ∧ (gk refC_f (ix i)).2.2.2 = []) (s : Nat) : D.1 (adF G i) s = 0 := by
  have : ivI refC_f (ix i) s = 0 := by unfold ivI; rw [hf.2]; rfl
  exact fd h ⟨hf.1, this⟩

theorem tt_x : ((ix (0) < 341 ∧ (gk refC_f (ix (0))).1 = 8)) := by decide +kernel
theorem tt_x0 : ((ix (0) < 341 ∧ ix (1) < 341 ∧ rfI refC_f (ix (0)) 0 = some (ix (1)))) := by decide +kernel
theorem tt_x1 : ((ix (0) < 341 ∧ ix (2) < 341 ∧ rfI refC_f (ix (0)) 1 = some (ix (2)))) := by decide +kernel
theorem tt_x2 : ((ix (0) < 341 ∧ ix (3) < 341 ∧ rfI refC_f (ix (0)) 2 = some (ix (3)))) := by decide +kernel
theorem tt_x3 : ((ix (0) < 341 ∧ ix (4) < 341 ∧ rfI refC_f (ix (0)) 3 = some (ix (4)))) := by decide +kernel
theorem tt_x4 : ((ix (0) < 341 ∧ ix (5) < 341 ∧ rfI refC_f (ix (0)) 4 = some (ix (5)))) := by decide +kernel
theorem tt_x5 : ((ix (0) < 341 ∧ ix ((bg 0)) < 341 ∧ rfI refC_f (ix (0)) 5 = some (ix ((bg 0))))) := by decide +kernel
theorem tt_x6 : ((ix (0) < 341 ∧ ix ((bg 1)) < 341 ∧ rfI refC_f (ix (0)) 6 = some (ix ((bg 1))))) := by decide +kernel
theorem tt_x7 : ((ix (0) < 341 ∧ ix ((bg 2)) < 341 ∧ rfI refC_f (ix (0)) 7 = some (ix ((bg 2))))) := by decide +kernel
theorem tt_ra : ((ix (1) < 341 ∧ (gk refC_f (ix (1))).1 = 15)) := by decide +kernel
theorem tt_ral : ((ix (1) < 341 ∧ (gk refC_f (ix (1))).2.1 = 4)) := by decide +kernel
theorem tt_rar : ∀ i, i < 4 → ((ix (1) < 341 ∧ ix ((rb i)) < 341 ∧ rfI refC_f (ix (1)) i = some (ix ((rb i))))) := by decide +kernel
theorem tt_row : ∀ r, r < 4 → ((ix ((rb r)) < 341 ∧ (gk refC_f (ix ((rb r)))).1 = 3)) := by decide +kernel
theorem tt_row0 : ∀ r, r < 4 → ((ix ((rb r)) < 341 ∧ ix ((rb r + 1)) < 341 ∧ rfI refC_f (ix ((rb r))) 0 = some (ix ((rb r + 1))))) := by decide +kernel
theorem tt_row1 : ∀ r, r < 4 → ((ix ((rb r)) < 341 ∧ ix ((rS r 0)) < 341 ∧ rfI refC_f (ix ((rb r))) 1 = some (ix ((rS r 0))))) := by decide +kernel
theorem tt_row2 : ∀ r, r < 4 → ((ix ((rb r)) < 341 ∧ ix ((rS r 1)) < 341 ∧ rfI refC_f (ix ((rb r))) 2 = some (ix ((rS r 1))))) := by decide +kernel
theorem tt_row3 : ∀ r, r < 4 → ((ix ((rb r)) < 341 ∧ ix ((rS r 2)) < 341 ∧ rfI refC_f (ix ((rb r))) 3 = some (ix ((rS r 2))))) := by decide +kernel
theorem tt_row4 : ∀ r, r < 4 → ((ix ((rb r)) < 341 ∧ ix ((rb r + 2)) < 341 ∧ rfI refC_f (ix ((rb r))) 4 = some (ix ((rb r + 2))))) := by decide +kernel
theorem tt_num : ∀ r, r < 4 → ((ix ((rb r + 1)) < 341 ∧ (gk refC_f (ix ((rb r + 1)))).1 = 11)) := by decide +kernel
theorem tt_numl : ∀ r, r < 4 → ((ix ((rb r + 1)) < 341 ∧ (gk refC_f (ix ((rb r + 1)))).2.1 = 40)) := by decide +kernel
theorem tt_fa : ∀ r, r < 4 → ((ix ((rb r + 2)) < 341 ∧ (gk refC_f (ix ((rb r + 2)))).1 = 16)) := by decide +kernel
theorem tt_fal : ∀ r, r < 4 → ((ix ((rb r + 2)) < 341 ∧ (gk refC_f (ix ((rb r + 2)))).2.1 = 2)) := by decide +kernel
theorem tt_far : ∀ r, r < 4 → ∀ i, i < 2 → ((ix ((rb r + 2)) < 341 ∧ ix ((rS r (3 + i))) < 341 ∧ rfI refC_f (ix ((rb r + 2))) i = some (ix ((rS r (3 + i)))))) := by decide +kernel
theorem tt_set : ∀ r, r < 4 → ∀ s, s < 5 → ((ix ((rS r s)) < 341 ∧ (gk refC_f (ix ((rS r s)))).1 = 7) ∧ (ix ((rS r s)) < 341 ∧ ix ((rS r s + 1)) < 341 ∧ rfI refC_f (ix ((rS r s))) 0 = some (ix ((rS r s + 1)))) ∧ (ix ((rS r s + 1)) < 341 ∧ (gk refC_f (ix ((rS r s + 1)))).1 = 13) ∧ (ix ((rS r s + 1)) < 341 ∧ (gk refC_f (ix ((rS r s + 1)))).2.1 = 40)) := by decide +kernel
theorem tt_p : ((ix (2) < 341 ∧ (gk refC_f (ix (2))).1 = 2)) := by decide +kernel
theorem tt_p0 : ((ix (2) < 341 ∧ ix (6) < 341 ∧ rfI refC_f (ix (2)) 0 = some (ix (6)))) := by decide +kernel
theorem tt_p1 : ((ix (2) < 341 ∧ ix (9) < 341 ∧ rfI refC_f (ix (2)) 1 = some (ix (9)))) := by decide +kernel
theorem tt_p2 : ((ix (2) < 341 ∧ ix (10) < 341 ∧ rfI refC_f (ix (2)) 2 = some (ix (10)))) := by decide +kernel
theorem tt_p3 : ((ix (2) < 341 ∧ ix (11) < 341 ∧ rfI refC_f (ix (2)) 3 = some (ix (11)))) := by decide +kernel
theorem tt_p4 : ((ix (2) < 341 ∧ ix (12) < 341 ∧ rfI refC_f (ix (2)) 4 = some (ix (12)))) := by decide +kernel
theorem tt_p5 : ((ix (2) < 341 ∧ ix (13) < 341 ∧ rfI refC_f (ix (2)) 5 = some (ix (13)))) := by decide +kernel
theorem tt_p6 : ((ix (2) < 341 ∧ ix (14) < 341 ∧ rfI refC_f (ix (2)) 6 = some (ix (14)))) := by decide +kernel
theorem tt_p7 : ((ix (2) < 341 ∧ ix (15) < 341 ∧ rfI refC_f (ix (2)) 7 = some (ix (15)))) := by decide +kernel
theorem tt_p8 : ((ix (2) < 341 ∧ ix ((bg 3)) < 341 ∧ rfI refC_f (ix (2)) 8 = some (ix ((bg 3))))) := by decide +kernel
theorem tt_p9 : ((ix (2) < 341 ∧ ix ((bg 4)) < 341 ∧ rfI refC_f (ix (2)) 9 = some (ix ((bg 4))))) := by decide +kernel
theorem tt_co : ((ix (9) < 341 ∧ (gk refC_f (ix (9))).1 = 17)) := by decide +kernel
theorem tt_col : ((ix (9) < 341 ∧ (gk refC_f (ix (9))).2.1 = 7)) := by decide +kernel
theorem tt_cor : ∀ i, i < 7 → ((ix (9) < 341 ∧ ix ((20 + i)) < 341 ∧ rfI refC_f (ix (9)) i = some (ix ((20 + i))))) := by decide +kernel
theorem tt_ci : ∀ i, i < 7 → ((ix ((20 + i)) < 341 ∧ (gk refC_f (ix ((20 + i)))).1 = 12)) := by decide +kernel
theorem tt_cil : ∀ i, i < 7 → ((ix ((20 + i)) < 341 ∧ (gk refC_f (ix ((20 + i)))).2.1 = 80)) := by decide +kernel
theorem tt_po : ((ix (10) < 341 ∧ (gk refC_f (ix (10))).1 = 17)) := by decide +kernel
theorem tt_pol : ((ix (10) < 341 ∧ (gk refC_f (ix (10))).2.1 = 7)) := by decide +kernel
theorem tt_por : ∀ i, i < 7 → ((ix (10) < 341 ∧ ix ((30 + i)) < 341 ∧ rfI refC_f (ix (10)) i = some (ix ((30 + i))))) := by decide +kernel
theorem tt_pi : ∀ i, i < 7 → ((ix ((30 + i)) < 341 ∧ (gk refC_f (ix ((30 + i)))).1 = 12)) := by decide +kernel
theorem tt_pil : ∀ i, i < 7 → ((ix ((30 + i)) < 341 ∧ (gk refC_f (ix ((30 + i)))).2.1 = 7)) := by decide +kernel
theorem tt_so : ((ix (11) < 341 ∧ (gk refC_f (ix (11))).1 = 17)) := by decide +kernel
theorem tt_sol : ((ix (11) < 341 ∧ (gk refC_f (ix (11))).2.1 = 7)) := by decide +kernel
theorem tt_sor : ∀ i, i < 7 → ((ix (11) < 341 ∧ ix ((40 + i)) < 341 ∧ rfI refC_f (ix (11)) i = some (ix ((40 + i))))) := by decide +kernel
theorem tt_si : ∀ i, i < 7 → ((ix ((40 + i)) < 341 ∧ (gk refC_f (ix ((40 + i)))).1 = 12)) := by decide +kernel
theorem tt_sil : ∀ i, i < 7 → ((ix ((40 + i)) < 341 ∧ (gk refC_f (ix ((40 + i)))).2.1 = 7)) := by decide +kernel
theorem tt_pc : ((ix (12) < 341 ∧ (gk refC_f (ix (12))).1 = 12)) := by decide +kernel
theorem tt_pcl : ((ix (12) < 341 ∧ (gk refC_f (ix (12))).2.1 = 7)) := by decide +kernel
theorem tt_ce : ((ix (13) < 341 ∧ (gk refC_f (ix (13))).1 = 14)) := by decide +kernel
theorem tt_cel : ((ix (13) < 341 ∧ (gk refC_f (ix (13))).2.1 = 49)) := by decide +kernel
theorem tt_cer : ∀ i, i < 49 → ((ix (13) < 341 ∧ ix ((bg (10 + i))) < 341 ∧ rfI refC_f (ix (13)) i = some (ix ((bg (10 + i)))))) := by decide +kernel
theorem tt_to : ((ix (14) < 341 ∧ (gk refC_f (ix (14))).1 = 14)) := by decide +kernel
theorem tt_tol : ((ix (14) < 341 ∧ (gk refC_f (ix (14))).2.1 = 6)) := by decide +kernel
theorem tt_tor : ∀ i, i < 6 → ((ix (14) < 341 ∧ ix ((bg (60 + i))) < 341 ∧ rfI refC_f (ix (14)) i = some (ix ((bg (60 + i)))))) := by decide +kernel
theorem tt_pt : ((ix (15) < 341 ∧ (gk refC_f (ix (15))).1 = 14)) := by decide +kernel
theorem tt_ptl : ((ix (15) < 341 ∧ (gk refC_f (ix (15))).2.1 = 7)) := by decide +kernel
theorem tt_ptr : ∀ i, i < 7 → ((ix (15) < 341 ∧ ix ((bg (70 + i))) < 341 ∧ rfI refC_f (ix (15)) i = some (ix ((bg (70 + i)))))) := by decide +kernel
theorem tt_v : ((ix (3) < 341 ∧ (gk refC_f (ix (3))).1 = 5)) := by decide +kernel
theorem tt_v0 : ((ix (3) < 341 ∧ ix (2) < 341 ∧ rfI refC_f (ix (3)) 0 = some (ix (2)))) := by decide +kernel
theorem tt_v1 : ((ix (3) < 341 ∧ ix (6) < 341 ∧ rfI refC_f (ix (3)) 1 = some (ix (6)))) := by decide +kernel
theorem tt_v2 : ((ix (3) < 341 ∧ ix (16) < 341 ∧ rfI refC_f (ix (3)) 2 = some (ix (16)))) := by decide +kernel
theorem tt_v3 : ((ix (3) < 341 ∧ ix (130) < 341 ∧ rfI refC_f (ix (3)) 3 = some (ix (130)))) := by decide +kernel
theorem tt_v4 : ((ix (3) < 341 ∧ ix ((bg 5)) < 341 ∧ rfI refC_f (ix (3)) 4 = some (ix ((bg 5))))) := by decide +kernel
theorem tt_v5 : ((ix (3) < 341 ∧ ix ((bg 6)) < 341 ∧ rfI refC_f (ix (3)) 5 = some (ix ((bg 6))))) := by decide +kernel
theorem tt_sz : ((ix (16) < 341 ∧ (gk refC_f (ix (16))).1 = 14)) := by decide +kernel
theorem tt_szl : ((ix (16) < 341 ∧ (gk refC_f (ix (16))).2.1 = 40)) := by decide +kernel
theorem tt_szr : ∀ i, i < 40 → ((ix (16) < 341 ∧ ix ((bg (80 + i))) < 341 ∧ rfI refC_f (ix (16)) i = some (ix ((bg (80 + i)))))) := by decide +kernel
theorem tt_ah : ((ix (130) < 341 ∧ (gk refC_f (ix (130))).1 = 7) ∧ (ix (130) < 341 ∧ ix (131) < 341 ∧ rfI refC_f (ix (130)) 0 = some (ix (131))) ∧ (ix (131) < 341 ∧ (gk refC_f (ix (131))).1 = 13) ∧ (ix (131) < 341 ∧ (gk refC_f (ix (131))).2.1 = 40)) := by decide +kernel
theorem tt_a : ((ix (4) < 341 ∧ (gk refC_f (ix (4))).1 = 1)) := by decide +kernel
theorem tt_a0 : ((ix (4) < 341 ∧ ix (6) < 341 ∧ rfI refC_f (ix (4)) 0 = some (ix (6)))) := by decide +kernel
theorem tt_a1 : ((ix (4) < 341 ∧ ix ((bg 7)) < 341 ∧ rfI refC_f (ix (4)) 1 = some (ix ((bg 7))))) := by decide +kernel
theorem tt_a2 : ((ix (4) < 341 ∧ ix ((bg 8)) < 341 ∧ rfI refC_f (ix (4)) 2 = some (ix ((bg 8))))) := by decide +kernel
theorem tt_a3 : ((ix (4) < 341 ∧ ix ((bg 9)) < 341 ∧ rfI refC_f (ix (4)) 3 = some (ix ((bg 9))))) := by decide +kernel
theorem tt_a4 : ((ix (4) < 341 ∧ ix (17) < 341 ∧ rfI refC_f (ix (4)) 4 = some (ix (17)))) := by decide +kernel
theorem tt_dv : ((ix (17) < 341 ∧ (gk refC_f (ix (17))).1 = 12)) := by decide +kernel
theorem tt_dvl : ((ix (17) < 341 ∧ (gk refC_f (ix (17))).2.1 = 5)) := by decide +kernel
theorem tt_sh : ((ix (5) < 341 ∧ (gk refC_f (ix (5))).1 = 4)) := by decide +kernel
theorem tt_sh0 : ((ix (5) < 341 ∧ ix (7) < 341 ∧ rfI refC_f (ix (5)) 0 = some (ix (7)))) := by decide +kernel
theorem tt_by : ((ix (7) < 341 ∧ (gk refC_f (ix (7))).1 = 10)) := by decide +kernel
theorem tt_byl : ((ix (7) < 341 ∧ (gk refC_f (ix (7))).2.1 = 256)) := by decide +kernel
theorem tt_tal : ((ix (6) < 341 ∧ (gk refC_f (ix (6))).1 = 6) ∧ (ix (6) < 341 ∧ ix (8) < 341 ∧ rfI refC_f (ix (6)) 0 = some (ix (8))) ∧ (ix (8) < 341 ∧ (gk refC_f (ix (8))).1 = 12) ∧ (ix (8) < 341 ∧ (gk refC_f (ix (8))).2.1 = 12)) := by decide +kernel
theorem t_big : ∀ b, b < 120 → (b < 59 ∨ (60 ≤ b ∧ b < 66) ∨ (70 ≤ b ∧ b < 77) ∨ (80 ≤ b ∧ b < 120)) → ((ix ((bg b)) < 341 ∧ (gk refC_f (ix ((bg b)))).1 = 0) ∧ (ix ((bg b)) < 341 ∧ ix ((bg b + 1)) < 341 ∧ rfI refC_f (ix ((bg b))) 0 = some (ix ((bg b + 1)))) ∧ (ix ((bg b + 1)) < 341 ∧ (gk refC_f (ix ((bg b + 1)))).1 = 12) ∧ (ix ((bg b + 1)) < 341 ∧ (gk refC_f (ix ((bg b + 1)))).2.1 = 12)) := by decide +kernel
theorem cs_f (h : Em G D refC_f) : CS G (adF G) (roF G) := ⟨fun i hi => roF_ad h (by omega), fo h tt_x, fr h tt_x0, fr h tt_x1, fr h tt_x2, fr h tt_x3, fr h tt_x4, fr h tt_x5, fr h tt_x6, fr h tt_x7, fo h tt_ra, fl h tt_ral, fun i hi => fr h (tt_rar i hi), fun r hr => fo h (tt_row r hr), fun r hr => fr h (tt_row0 r hr), fun r hr => fr h (tt_row1 r hr), fun r hr => fr h (tt_row2 r hr), fun r hr => fr h (tt_row3 r hr), fun r hr => fr h (tt_row4 r hr), fun r hr => fo h (tt_num r hr), fun r hr => fl h (tt_numl r hr), fun r hr => fo h (tt_fa r hr), fun r hr => fl h (tt_fal r hr), fun r hr i hi => fr h (tt_far r hr i hi), fun r hr s hs => have t := (tt_set r hr s hs); ⟨fo h t.1, fr h t.2.1, fo h t.2.2.1, fl h t.2.2.2⟩, fo h tt_p, fr h tt_p0, fr h tt_p1, fr h tt_p2, fr h tt_p3, fr h tt_p4, fr h tt_p5, fr h tt_p6, fr h tt_p7, fr h tt_p8, fr h tt_p9, fo h tt_co, fl h tt_col, fun i hi => fr h (tt_cor i hi), fun i hi => fo h (tt_ci i hi), fun i hi => fl h (tt_cil i hi), fo h tt_po, fl h tt_pol, fun i hi => fr h (tt_por i hi), fun i hi => fo h (tt_pi i hi), fun i hi => fl h (tt_pil i hi), fo h tt_so, fl h tt_sol, fun i hi => fr h (tt_sor i hi), fun i hi => fo h (tt_si i hi), fun i hi => fl h (tt_sil i hi), fo h tt_pc, fl h tt_pcl, fo h tt_ce, fl h tt_cel, fun i hi => fr h (tt_cer i hi), fo h tt_to, fl h tt_tol, fun i hi => fr h (tt_tor i hi), fo h tt_pt, fl h tt_ptl, fun i hi => fr h (tt_ptr i hi), fo h tt_v, fr h tt_v0, fr h tt_v1, fr h tt_v2, fr h tt_v3, fr h tt_v4, fr h tt_v5, fo h tt_sz, fl h tt_szl, fun i hi => fr h (tt_szr i hi), have t := tt_ah; ⟨fo h t.1, fr h t.2.1, fo h t.2.2.1, fl h t.2.2.2⟩, fo h tt_a, fr h tt_a0, fr h tt_a1, fr h tt_a2, fr h tt_a3, fr h tt_a4, fo h tt_dv, fl h tt_dvl, fo h tt_sh, fr h tt_sh0, fo h tt_by, fl h tt_byl, have t := tt_tal; ⟨fo h t.1, fr h t.2.1, fo h t.2.2.1, fl h t.2.2.2⟩, fun b hb => have t := t_big b (by unfold okb at hb; omega) hb; ⟨fo h t.1, fr h t.2.1, fo h t.2.2.1, fl h t.2.2.2⟩⟩
theorem u_1 : (ix 500 < 341 ∧ ix (500 + 1) < 341 ∧ rfI refC_f (ix 500) 1 = some (ix (500 + 1))) ∧ (ix (500 + 1) < 341 ∧ (gk refC_f (ix (500 + 1))).1 = 11) ∧ (ix (500 + 1) < 341 ∧ (gk refC_f (ix (500 + 1))).2.1 = 700000) := by decide +kernel
theorem u_3 : (ix 500 < 341 ∧ ix (500 + 3) < 341 ∧ rfI refC_f (ix 500) 3 = some (ix (500 + 3))) ∧ (ix (500 + 3) < 341 ∧ (gk refC_f (ix (500 + 3))).1 = 11) ∧ (ix (500 + 3) < 341 ∧ (gk refC_f (ix (500 + 3))).2.1 = 600) := by decide +kernel
theorem u_4 : (ix 500 < 341 ∧ ix (500 + 4) < 341 ∧ rfI refC_f (ix 500) 4 = some (ix (500 + 4))) ∧ (ix (500 + 4) < 341 ∧ (gk refC_f (ix (500 + 4))).1 = 11) ∧ (ix (500 + 4) < 341 ∧ (gk refC_f (ix (500 + 4))).2.1 = 600) := by decide +kernel
theorem u_5 : (ix 500 < 341 ∧ ix (500 + 5) < 341 ∧ rfI refC_f (ix 500) 5 = some (ix (500 + 5))) ∧ (ix (500 + 5) < 341 ∧ (gk refC_f (ix (500 + 5))).1 = 11) ∧ (ix (500 + 5) < 341 ∧ (gk refC_f (ix (500 + 5))).2.1 = 600) := by decide +kernel
theorem u_8 : (ix 500 < 341 ∧ ix (500 + 8) < 341 ∧ rfI refC_f (ix 500) 8 = some (ix (500 + 8))) ∧ (ix (500 + 8) < 341 ∧ (gk refC_f (ix (500 + 8))).1 = 11) ∧ (ix (500 + 8) < 341 ∧ (gk refC_f (ix (500 + 8))).2.1 = 1500) := by decide +kernel
theorem u_10 : (ix 500 < 341 ∧ ix (500 + 10) < 341 ∧ rfI refC_f (ix 500) 10 = some (ix (500 + 10))) ∧ (ix (500 + 10) < 341 ∧ (gk refC_f (ix (500 + 10))).1 = 11) ∧ (ix (500 + 10) < 341 ∧ (gk refC_f (ix (500 + 10))).2.1 = 160) := by decide +kernel
theorem u_11 : (ix 500 < 341 ∧ ix (500 + 11) < 341 ∧ rfI refC_f (ix 500) 11 = some (ix (500 + 11))) ∧ (ix (500 + 11) < 341 ∧ (gk refC_f (ix (500 + 11))).1 = 11) ∧ (ix (500 + 11) < 341 ∧ (gk refC_f (ix (500 + 11))).2.1 = 4) := by decide +kernel
theorem u_12 : (ix 500 < 341 ∧ ix (500 + 12) < 341 ∧ rfI refC_f (ix 500) 12 = some (ix (500 + 12))) ∧ (ix (500 + 12) < 341 ∧ (gk refC_f (ix (500 + 12))).1 = 11) ∧ (ix (500 + 12) < 341 ∧ (gk refC_f (ix (500 + 12))).2.1 = 4) := by decide +kernel
theorem u_13 : (ix 500 < 341 ∧ ix (500 + 13) < 341 ∧ rfI refC_f (ix 500) 13 = some (ix (500 + 13))) ∧ (ix (500 + 13) < 341 ∧ (gk refC_f (ix (500 + 13))).1 = 11) ∧ (ix (500 + 13) < 341 ∧ (gk refC_f (ix (500 + 13))).2.1 = 12) := by decide +kernel
theorem u_14 : (ix 500 < 341 ∧ ix (500 + 14) < 341 ∧ rfI refC_f (ix 500) 14 = some (ix (500 + 14))) ∧ (ix (500 + 14) < 341 ∧ (gk refC_f (ix (500 + 14))).1 = 11) ∧ (ix (500 + 14) < 341 ∧ (gk refC_f (ix (500 + 14))).2.1 = 4) := by decide +kernel
theorem u_15 : (ix 500 < 341 ∧ ix (500 + 15) < 341 ∧ rfI refC_f (ix 500) 15 = some (ix (500 + 15))) ∧ (ix (500 + 15) < 341 ∧ (gk refC_f (ix (500 + 15))).1 = 13) ∧ (ix (500 + 15) < 341 ∧ (gk refC_f (ix (500 + 15))).2.1 = 160) := by decide +kernel
theorem u_16 : (ix 500 < 341 ∧ ix (500 + 16) < 341 ∧ rfI refC_f (ix 500) 16 = some (ix (500 + 16))) ∧ (ix (500 + 16) < 341 ∧ (gk refC_f (ix (500 + 16))).1 = 13) ∧ (ix (500 + 16) < 341 ∧ (gk refC_f (ix (500 + 16))).2.1 = 160) := by decide +kernel
theorem u_17 : (ix 500 < 341 ∧ ix (500 + 17) < 341 ∧ rfI refC_f (ix 500) 17 = some (ix (500 + 17))) ∧ (ix (500 + 17) < 341 ∧ (gk refC_f (ix (500 + 17))).1 = 13) ∧ (ix (500 + 17) < 341 ∧ (gk refC_f (ix (500 + 17))).2.1 = 4) := by decide +kernel
theorem u_18 : (ix 500 < 341 ∧ ix (500 + 18) < 341 ∧ rfI refC_f (ix 500) 18 = some (ix (500 + 18))) ∧ (ix (500 + 18) < 341 ∧ (gk refC_f (ix (500 + 18))).1 = 13) ∧ (ix (500 + 18) < 341 ∧ (gk refC_f (ix (500 + 18))).2.1 = 320) := by decide +kernel
theorem u_19 : (ix 500 < 341 ∧ ix (500 + 19) < 341 ∧ rfI refC_f (ix 500) 19 = some (ix (500 + 19))) ∧ (ix (500 + 19) < 341 ∧ (gk refC_f (ix (500 + 19))).1 = 11) ∧ (ix (500 + 19) < 341 ∧ (gk refC_f (ix (500 + 19))).2.1 = 19) := by decide +kernel
theorem u_20 : (ix 500 < 341 ∧ ix (500 + 20) < 341 ∧ rfI refC_f (ix 500) 20 = some (ix (500 + 20))) ∧ (ix (500 + 20) < 341 ∧ (gk refC_f (ix (500 + 20))).1 = 11) ∧ (ix (500 + 20) < 341 ∧ (gk refC_f (ix (500 + 20))).2.1 = 19) := by decide +kernel
theorem u_22 : (ix 500 < 341 ∧ ix (500 + 22) < 341 ∧ rfI refC_f (ix 500) 22 = some (ix (500 + 22))) ∧ (ix (500 + 22) < 341 ∧ (gk refC_f (ix (500 + 22))).1 = 12) ∧ (ix (500 + 22) < 341 ∧ (gk refC_f (ix (500 + 22))).2.1 = 361) := by decide +kernel
theorem u_23 : (ix 500 < 341 ∧ ix (500 + 23) < 341 ∧ rfI refC_f (ix 500) 23 = some (ix (500 + 23))) ∧ (ix (500 + 23) < 341 ∧ (gk refC_f (ix (500 + 23))).1 = 12) ∧ (ix (500 + 23) < 341 ∧ (gk refC_f (ix (500 + 23))).2.1 = 19) := by decide +kernel
theorem u_24 : (ix 500 < 341 ∧ ix (500 + 24) < 341 ∧ rfI refC_f (ix 500) 24 = some (ix (500 + 24))) ∧ (ix (500 + 24) < 341 ∧ (gk refC_f (ix (500 + 24))).1 = 11) ∧ (ix (500 + 24) < 341 ∧ (gk refC_f (ix (500 + 24))).2.1 = 380) := by decide +kernel
theorem u_26 : (ix 500 < 341 ∧ ix (500 + 26) < 341 ∧ rfI refC_f (ix 500) 26 = some (ix (500 + 26))) ∧ (ix (500 + 26) < 341 ∧ (gk refC_f (ix (500 + 26))).1 = 11) ∧ (ix (500 + 26) < 341 ∧ (gk refC_f (ix (500 + 26))).2.1 = 1800) := by decide +kernel
theorem u_27 : (ix 500 < 341 ∧ ix (500 + 27) < 341 ∧ rfI refC_f (ix 500) 27 = some (ix (500 + 27))) ∧ (ix (500 + 27) < 341 ∧ (gk refC_f (ix (500 + 27))).1 = 13) ∧ (ix (500 + 27) < 341 ∧ (gk refC_f (ix (500 + 27))).2.1 = 40) := by decide +kernel
theorem u_28 : (ix 500 < 341 ∧ ix (500 + 28) < 341 ∧ rfI refC_f (ix 500) 28 = some (ix (500 + 28))) ∧ (ix (500 + 28) < 341 ∧ (gk refC_f (ix (500 + 28))).1 = 13) ∧ (ix (500 + 28) < 341 ∧ (gk refC_f (ix (500 + 28))).2.1 = 40) := by decide +kernel
theorem u_29 : (ix 500 < 341 ∧ ix (500 + 29) < 341 ∧ rfI refC_f (ix 500) 29 = some (ix (500 + 29))) ∧ (ix (500 + 29) < 341 ∧ (gk refC_f (ix (500 + 29))).1 = 11) ∧ (ix (500 + 29) < 341 ∧ (gk refC_f (ix (500 + 29))).2.1 = 40) := by decide +kernel
theorem rg_f (h : Em G D refC_f) : RG G (adF G) (roF G) := ⟨fun i h1 h2 => roF_ad h h2, fo h (by decide +kernel), ⟨fr h u_1.1, fo h u_1.2.1, fl h u_1.2.2⟩, ⟨fr h u_3.1, fo h u_3.2.1, fl h u_3.2.2⟩, ⟨fr h u_4.1, fo h u_4.2.1, fl h u_4.2.2⟩, ⟨fr h u_5.1, fo h u_5.2.1, fl h u_5.2.2⟩, ⟨fr h u_8.1, fo h u_8.2.1, fl h u_8.2.2⟩, ⟨fr h u_10.1, fo h u_10.2.1, fl h u_10.2.2⟩, ⟨fr h u_11.1, fo h u_11.2.1, fl h u_11.2.2⟩, ⟨fr h u_12.1, fo h u_12.2.1, fl h u_12.2.2⟩, ⟨fr h u_13.1, fo h u_13.2.1, fl h u_13.2.2⟩, ⟨fr h u_14.1, fo h u_14.2.1, fl h u_14.2.2⟩, ⟨fr h u_15.1, fo h u_15.2.1, fl h u_15.2.2⟩, ⟨fr h u_16.1, fo h u_16.2.1, fl h u_16.2.2⟩, ⟨fr h u_17.1, fo h u_17.2.1, fl h u_17.2.2⟩, ⟨fr h u_18.1, fo h u_18.2.1, fl h u_18.2.2⟩, ⟨fr h u_19.1, fo h u_19.2.1, fl h u_19.2.2⟩, ⟨fr h u_20.1, fo h u_20.2.1, fl h u_20.2.2⟩, ⟨fr h u_22.1, fo h u_22.2.1, fl h u_22.2.2⟩, ⟨fr h u_23.1, fo h u_23.2.1, fl h u_23.2.2⟩, ⟨fr h u_24.1, fo h u_24.2.1, fl h u_24.2.2⟩, ⟨fr h u_26.1, fo h u_26.2.1, fl h u_26.2.2⟩, ⟨fr h u_27.1, fo h u_27.2.1, fl h u_27.2.2⟩, ⟨fr h u_28.1, fo h u_28.2.1, fl h u_28.2.2⟩, ⟨fr h u_29.1, fo h u_29.2.1, fl h u_29.2.2⟩⟩
/-- the first state -/
def A0 : AR := (fun _ => 0, fun _ => false, fun _ => false, fun _ => false, fun _ _ => false, 0, false, 0)
def S0 : AS := (fun _ => A0, [], 0)
theorem A0_ok : RowOK A0 := ⟨fun _ => ⟨by show -10000 ≤ (0 : Int); omega, by show (0 : Int) ≤ 10000; omega⟩, rfl, by show ct (fun _ => false) 40 ≤ 3; decide, fun f _ => by show ct (fun _ => false) 40 ≤ 8; decide, fun _ _ _ _ _ => rfl, by show 0 ≤ 2; omega, Or.inl rfl⟩
theorem v_num : ∀ r, r < 4 → ix (rb r + 1) < 341 ∧ (gk refC_f (ix (rb r + 1))).2.2.2 = [] := by decide +kernel
theorem v_set : ∀ r, r < 4 → ∀ s, s < 5 → (ix (rS r s) < 341 ∧ ivI refC_f (ix (rS r s)) 1 = 0) ∧ (ix (rS r s + 1) < 341 ∧ (gk refC_f (ix (rS r s + 1))).2.2.2 = []) := by decide +kernel
theorem v_row : ∀ r, r < 4 → (ix (rb r) < 341 ∧ ivI refC_f (ix (rb r)) 5 = 0) ∧ (ix (rb r) < 341 ∧ ivI refC_f (ix (rb r)) 6 = 0) ∧ (ix (rb r) < 341 ∧ ivI refC_f (ix (rb r)) 7 = 0) := by decide +kernel
theorem set_f (h : Em G D refC_f) {r s : Nat} (hr : r < 4) (hs : s < 5) : SetV D (adF G (rS r s)) (adF G (rS r s + 1)) (fun _ => false) := ⟨fun t _ => fz h (v_set r hr s hs).2 t, by rw [fd h (v_set r hr s hs).1]; rfl⟩
theorem cl_f (h : Em G D refC_f) : ClV (adF G) (roF G) D D S0 := by
  refine ⟨fun r hr => ⟨⟨fun t _ => ?_, set_f h hr (by omega), set_f h hr (by omega), set_f h hr (by omega), fun f hf => set_f h hr (by omega), fd h (v_row r hr).1, fd h (v_row r hr).2.1, fd h (v_row r hr).2.2⟩, A0_ok⟩, ⟨?_, by show 0 ≤ 256; omega, fun k hk => absurd hk (Nat.not_lt_zero k)⟩, ?_, fun _ _ => ⟨rfl, rfl⟩⟩
  · rw [fz h (v_num r hr) t]; rfl
  · exact fd h (i := 5) (s := 1) (v := 256) (by decide +kernel)
  · exact fd h (i := 0) (s := 8) (v := 0) (by decide +kernel)
theorem w_z : ∀ i, i < 9 → (ix (510 + i) < 341 ∧ (gk refC_f (ix (510 + i))).2.2.2 = []) := by decide +kernel
theorem rf_f (h : Em G D refC_f) : RfV (adF G) (roF G) D D S0 := by
  have z : ∀ i, 510 ≤ i → i < 519 → ∀ s, D.1 (adF G i) s = 0 := fun i h1 h2 s => by
    have := w_z (i - 510) (by omega)
    rw [show 510 + (i - 510) = i by omega] at this
    exact fz h this s
  refine ⟨fun r hr => ⟨fun t ht => ⟨?_, ?_, ?_⟩, ?_, ?_, fun k hk => absurd hk (Nat.not_lt_zero k), ?_, ?_, fun f hf => absurd hf (Nat.not_lt_zero f)⟩, ⟨?_, by show 0 ≤ 1000; omega, fun k hk => absurd hk (Nat.not_lt_zero k)⟩, ?_, fun _ _ => ⟨rfl, rfl⟩⟩
  · rw [z 510 (by omega) (by omega)]; rfl
  · rw [z 515 (by omega) (by omega)]; rfl
  · rw [z 516 (by omega) (by omega)]; rfl
  · rw [z 511 (by omega) (by omega)]; rfl
  · rw [z 512 (by omega) (by omega)]; rfl
  · rw [z 514 (by omega) (by omega)]; rfl
  · rw [z 517 (by omega) (by omega)]; rfl
  · exact fd h (i := 500) (s := 9) (v := 0) (by decide +kernel)
  · exact fd h (i := 500) (s := 0) (v := 0) (by decide +kernel)
end FI
