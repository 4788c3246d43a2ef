/-! calls that leave the book alone, over a book on both sides -/
theorem c_mk {c : Nat → Int32} {σ : Nat → Nat} (h : ∀ i, i < 111 → c (390 * 0 + i) = nI (σ i)) : c = mk c σ := by
  funext i
  by_cases e : i < 111
  · rw [← Nat.zero_add i, show mk c σ (0 + i) = nI (σ (0 + i)) from if_pos (by omega)]
    have := h (0 + i) (by omega)
    rw [Nat.mul_zero, ← Nat.add_assoc, Nat.zero_add 0] at this
    exact this
  · exact (if_neg (by omega)).symm
theorem c_sh {c : Nat → Int32} : (fun i => c (390 * 0 + i)) = c := funext fun i => by rw [Nat.mul_zero, Nat.zero_add]
section
variable {c : Nat → Int32} {σ : Nat → Nat} {x1 x2 st st2 th : Int32} {fu : Nat} {dt kn md od xx sd us lt rm sp : Nat → Int32}
variable {b1 b2 b3 b4 b5 b8 b9 b10 b11 b12 b13 b23 b24 b25 : Int32} {b6 b21 b30 : Nat → Int64} {b7 b14 b15 b16 b17 b18 b19 b20 b22 b26 b27 b28 b29 b31 : Nat → Int32} {W : Nat → Int64}
theorem R_many (hb : BKb b1 b2 b3 b4 b5 b6 b7 b8 b9 b10 b11 b12 b13 b14 b15 b16 b17 b18 b19 b20 b21 b22 b23 b24 b25 b26 b27 b28 b29 b30 b31 0 c W) (hfu : 100 < fu) : ∃ r s, f_X11_many fu x1 st b1 b2 b3 b8 b10 b11 b12 b13 b20 = some (r, s) ∧ f_X12_many fu x1 st2 th c = some (r, s, nI 0) := by
  obtain ⟨σ, ⟨w, h4, ⟨rfl, rfl, rfl, rfl, rfl⟩, ⟨rfl, rfl, rfl, rfl, rfl, rfl⟩, ⟨⟨lt, rfl⟩, ⟨dt, rfl⟩, ⟨kn, rfl⟩, ⟨md, rfl⟩, ⟨od, rfl⟩, ⟨xx, rfl⟩, ⟨sd, rfl⟩, ⟨us, rfl⟩, ⟨rm, rfl⟩, ⟨sp, rfl⟩⟩, hn, hR⟩, hσ⟩ := hb
  have ec := c_mk hσ
  rw [ec]
  exact r_many w hfu
end
section
variable {c : Nat → Int32} {σ : Nat → Nat} {x1 x2 st st2 th : Int32} {fu : Nat} {dt kn md od xx sd us lt rm sp : Nat → Int32}
variable {b1 b2 b3 b4 b5 b8 b9 b10 b11 b12 b13 b23 b24 b25 : Int32} {b6 b21 b30 : Nat → Int64} {b7 b14 b15 b16 b17 b18 b19 b20 b22 b26 b27 b28 b29 b31 : Nat → Int32} {W : Nat → Int64}
theorem R_cell (hb : BKb b1 b2 b3 b4 b5 b6 b7 b8 b9 b10 b11 b12 b13 b14 b15 b16 b17 b18 b19 b20 b21 b22 b23 b24 b25 b26 b27 b28 b29 b30 b31 0 c W) (hfu : 100 < fu) : ∃ r s, f_X11_cell fu x1 x2 st b1 b4 b5 b8 b15 b16 b17 b31 = some (r, s) ∧ f_X12_cell fu x1 x2 st2 th c = some (r, s, nI 0) := by
  obtain ⟨σ, ⟨w, h4, ⟨rfl, rfl, rfl, rfl, rfl⟩, ⟨rfl, rfl, rfl, rfl, rfl, rfl⟩, ⟨⟨lt, rfl⟩, ⟨dt, rfl⟩, ⟨kn, rfl⟩, ⟨md, rfl⟩, ⟨od, rfl⟩, ⟨xx, rfl⟩, ⟨sd, rfl⟩, ⟨us, rfl⟩, ⟨rm, rfl⟩, ⟨sp, rfl⟩⟩, hn, hR⟩, hσ⟩ := hb
  have ec := c_mk hσ
  rw [ec]
  exact r_cell w hfu
end
section
variable {c : Nat → Int32} {σ : Nat → Nat} {x1 x2 st st2 th : Int32} {fu : Nat} {dt kn md od xx sd us lt rm sp : Nat → Int32}
variable {b1 b2 b3 b4 b5 b8 b9 b10 b11 b12 b13 b23 b24 b25 : Int32} {b6 b21 b30 : Nat → Int64} {b7 b14 b15 b16 b17 b18 b19 b20 b22 b26 b27 b28 b29 b31 : Nat → Int32} {W : Nat → Int64}
theorem R_secret (hb : BKb b1 b2 b3 b4 b5 b6 b7 b8 b9 b10 b11 b12 b13 b14 b15 b16 b17 b18 b19 b20 b21 b22 b23 b24 b25 b26 b27 b28 b29 b30 b31 0 c W) : ∃ r s, f_X11_secret x1 st b2 b7 = some (r, s) ∧ f_X12_secret x1 st2 th c = some (r, s, nI 0) := by
  obtain ⟨σ, ⟨w, h4, ⟨rfl, rfl, rfl, rfl, rfl⟩, ⟨rfl, rfl, rfl, rfl, rfl, rfl⟩, ⟨⟨lt, rfl⟩, ⟨dt, rfl⟩, ⟨kn, rfl⟩, ⟨md, rfl⟩, ⟨od, rfl⟩, ⟨xx, rfl⟩, ⟨sd, rfl⟩, ⟨us, rfl⟩, ⟨rm, rfl⟩, ⟨sp, rfl⟩⟩, hn, hR⟩, hσ⟩ := hb
  have ec := c_mk hσ
  rw [ec]
  exact r_secret w
end
section
variable {c : Nat → Int32} {σ : Nat → Nat} {x1 x2 st st2 th : Int32} {fu : Nat} {dt kn md od xx sd us lt rm sp : Nat → Int32}
variable {b1 b2 b3 b4 b5 b8 b9 b10 b11 b12 b13 b23 b24 b25 : Int32} {b6 b21 b30 : Nat → Int64} {b7 b14 b15 b16 b17 b18 b19 b20 b22 b26 b27 b28 b29 b31 : Nat → Int32} {W : Nat → Int64}
theorem R_page (hb : BKb b1 b2 b3 b4 b5 b6 b7 b8 b9 b10 b11 b12 b13 b14 b15 b16 b17 b18 b19 b20 b21 b22 b23 b24 b25 b26 b27 b28 b29 b30 b31 0 c W) (hfu : 100 < fu) : ∃ r s, f_X11_page x1 x2 st b3 b18 b19 b20 b22 = some (r, s) ∧ f_X12_page fu x1 x2 st2 th c = some (r, s, nI 0) := by
  obtain ⟨σ, ⟨w, h4, ⟨rfl, rfl, rfl, rfl, rfl⟩, ⟨rfl, rfl, rfl, rfl, rfl, rfl⟩, ⟨⟨lt, rfl⟩, ⟨dt, rfl⟩, ⟨kn, rfl⟩, ⟨md, rfl⟩, ⟨od, rfl⟩, ⟨xx, rfl⟩, ⟨sd, rfl⟩, ⟨us, rfl⟩, ⟨rm, rfl⟩, ⟨sp, rfl⟩⟩, hn, hR⟩, hσ⟩ := hb
  have ec := c_mk hσ
  rw [ec]
  exact r_page w hfu
end
section
variable {c : Nat → Int32} {σ : Nat → Nat} {x1 x2 st st2 th : Int32} {fu : Nat} {dt kn md od xx sd us lt rm sp : Nat → Int32}
variable {b1 b2 b3 b4 b5 b8 b9 b10 b11 b12 b13 b23 b24 b25 : Int32} {b6 b21 b30 : Nat → Int64} {b7 b14 b15 b16 b17 b18 b19 b20 b22 b26 b27 b28 b29 b31 : Nat → Int32} {W : Nat → Int64}
theorem R_pricks (hb : BKb b1 b2 b3 b4 b5 b6 b7 b8 b9 b10 b11 b12 b13 b14 b15 b16 b17 b18 b19 b20 b21 b22 b23 b24 b25 b26 b27 b28 b29 b30 b31 0 c W) : ∃ r s, f_X11_pricks x1 x2 st b2 b3 b14 = some (r, s) ∧ f_X12_pricks x1 x2 st2 th c = some (r, s, nI 0) := by
  obtain ⟨σ, ⟨w, h4, ⟨rfl, rfl, rfl, rfl, rfl⟩, ⟨rfl, rfl, rfl, rfl, rfl, rfl⟩, ⟨⟨lt, rfl⟩, ⟨dt, rfl⟩, ⟨kn, rfl⟩, ⟨md, rfl⟩, ⟨od, rfl⟩, ⟨xx, rfl⟩, ⟨sd, rfl⟩, ⟨us, rfl⟩, ⟨rm, rfl⟩, ⟨sp, rfl⟩⟩, hn, hR⟩, hσ⟩ := hb
  have ec := c_mk hσ
  rw [ec]
  exact r_pricks w
end
section
variable {c : Nat → Int32} {σ : Nat → Nat} {x1 x2 st st2 th : Int32} {fu : Nat} {dt kn md od xx sd us lt rm sp : Nat → Int32}
variable {b1 b2 b3 b4 b5 b8 b9 b10 b11 b12 b13 b23 b24 b25 : Int32} {b6 b21 b30 : Nat → Int64} {b7 b14 b15 b16 b17 b18 b19 b20 b22 b26 b27 b28 b29 b31 : Nat → Int32} {W : Nat → Int64}
theorem R_orderAt (hb : BKb b1 b2 b3 b4 b5 b6 b7 b8 b9 b10 b11 b12 b13 b14 b15 b16 b17 b18 b19 b20 b21 b22 b23 b24 b25 b26 b27 b28 b29 b30 b31 0 c W) : ∃ r s, f_X11_orderAt x1 st b8 b17 = some (r, s) ∧ f_X12_orderAt x1 st2 th c = some (r, s, nI 0) := by
  obtain ⟨σ, ⟨w, h4, ⟨rfl, rfl, rfl, rfl, rfl⟩, ⟨rfl, rfl, rfl, rfl, rfl, rfl⟩, ⟨⟨lt, rfl⟩, ⟨dt, rfl⟩, ⟨kn, rfl⟩, ⟨md, rfl⟩, ⟨od, rfl⟩, ⟨xx, rfl⟩, ⟨sd, rfl⟩, ⟨us, rfl⟩, ⟨rm, rfl⟩, ⟨sp, rfl⟩⟩, hn, hR⟩, hσ⟩ := hb
  have ec := c_mk hσ
  rw [ec]
  exact r_orderAt w
end
section
variable {c : Nat → Int32} {σ : Nat → Nat} {x1 x2 st st2 th : Int32} {fu : Nat} {dt kn md od xx sd us lt rm sp : Nat → Int32}
variable {b1 b2 b3 b4 b5 b8 b9 b10 b11 b12 b13 b23 b24 b25 : Int32} {b6 b21 b30 : Nat → Int64} {b7 b14 b15 b16 b17 b18 b19 b20 b22 b26 b27 b28 b29 b31 : Nat → Int32} {W : Nat → Int64}
theorem R_next (hb : BKb b1 b2 b3 b4 b5 b6 b7 b8 b9 b10 b11 b12 b13 b14 b15 b16 b17 b18 b19 b20 b21 b22 b23 b24 b25 b26 b27 b28 b29 b30 b31 0 c W) (hfu : 100 < fu) : ∃ r s, f_X11_next fu st b8 b9 b10 b17 = some (r, s) ∧ f_X12_next fu st2 th c = some (r, s, nI 0) := by
  obtain ⟨σ, ⟨w, h4, ⟨rfl, rfl, rfl, rfl, rfl⟩, ⟨rfl, rfl, rfl, rfl, rfl, rfl⟩, ⟨⟨lt, rfl⟩, ⟨dt, rfl⟩, ⟨kn, rfl⟩, ⟨md, rfl⟩, ⟨od, rfl⟩, ⟨xx, rfl⟩, ⟨sd, rfl⟩, ⟨us, rfl⟩, ⟨rm, rfl⟩, ⟨sp, rfl⟩⟩, hn, hR⟩, hσ⟩ := hb
  have ec := c_mk hσ
  rw [ec]
  exact r_next w hfu
end
section
variable {c : Nat → Int32} {σ : Nat → Nat} {x1 x2 st st2 th : Int32} {fu : Nat} {dt kn md od xx sd us lt rm sp : Nat → Int32}
variable {b1 b2 b3 b4 b5 b8 b9 b10 b11 b12 b13 b23 b24 b25 : Int32} {b6 b21 b30 : Nat → Int64} {b7 b14 b15 b16 b17 b18 b19 b20 b22 b26 b27 b28 b29 b31 : Nat → Int32} {W : Nat → Int64}
theorem R_knowers (hb : BKb b1 b2 b3 b4 b5 b6 b7 b8 b9 b10 b11 b12 b13 b14 b15 b16 b17 b18 b19 b20 b21 b22 b23 b24 b25 b26 b27 b28 b29 b30 b31 0 c W) (hfu : 100 < fu) : ∃ r s, f_X11_knowers fu x1 st b2 b15 = some (r, s) ∧ f_X12_knowers fu x1 st2 th c = some (r, s, nI 0) := by
  obtain ⟨σ, ⟨w, h4, ⟨rfl, rfl, rfl, rfl, rfl⟩, ⟨rfl, rfl, rfl, rfl, rfl, rfl⟩, ⟨⟨lt, rfl⟩, ⟨dt, rfl⟩, ⟨kn, rfl⟩, ⟨md, rfl⟩, ⟨od, rfl⟩, ⟨xx, rfl⟩, ⟨sd, rfl⟩, ⟨us, rfl⟩, ⟨rm, rfl⟩, ⟨sp, rfl⟩⟩, hn, hR⟩, hσ⟩ := hb
  have ec := c_mk hσ
  rw [ec]
  exact r_knowers w hfu
end
section
variable {c kp : Nat → Int32} {σ : Nat → Nat} {x1 x2 st st2 th : Int32} {fu C S : Nat} {dt kn md od xx sd us lt rm sp : Nat → Int32} {q1 q2 q3 q4 q5 q6 : Int32} {q7 q8 q9 q10 q11 q12 q13 : Nat → Int32}
variable {b1 b2 b3 b4 b5 b8 b9 b10 b11 b12 b13 b23 b24 b25 : Int32} {b6 b21 b30 : Nat → Int64} {b7 b14 b15 b16 b17 b18 b19 b20 b22 b26 b27 b28 b29 b31 : Nat → Int32} {W : Nat → Int64}
theorem R_when (hb : BKb b1 b2 b3 b4 b5 b6 b7 b8 b9 b10 b11 b12 b13 b14 b15 b16 b17 b18 b19 b20 b21 b22 b23 b24 b25 b26 b27 b28 b29 b30 b31 0 c W) (hfu : 2000 < fu) : ∃ r s o kp', f_X11_when fu x1 x2 st q1 q2 q3 q4 q5 q6 q7 q8 q9 q10 q11 q12 q13 b1 b2 b3 b4 b5 b7 b8 b9 b10 b11 b12 b13 b14 b15 b16 b17 b18 b19 b20 b22 b31 = some (r, s, o) ∧ f_X12_when fu x1 x2 st2 th c kp = some (r, s, nI 0, c, kp') := by
  obtain ⟨σ, ⟨w, h4, ⟨rfl, rfl, rfl, rfl, rfl⟩, ⟨rfl, rfl, rfl, rfl, rfl, rfl⟩, ⟨⟨lt, rfl⟩, ⟨dt, rfl⟩, ⟨kn, rfl⟩, ⟨md, rfl⟩, ⟨od, rfl⟩, ⟨xx, rfl⟩, ⟨sd, rfl⟩, ⟨us, rfl⟩, ⟨rm, rfl⟩, ⟨sp, rfl⟩⟩, hn, hR⟩, hσ⟩ := hb
  have ec := c_mk hσ
  rw [ec]
  exact r_when w hfu
end
section
variable {c kp : Nat → Int32} {σ : Nat → Nat} {x1 x2 st st2 th : Int32} {fu C S : Nat} {dt kn md od xx sd us lt rm sp : Nat → Int32} {q1 q2 q3 q4 q5 q6 : Int32} {q7 q8 q9 q10 q11 q12 q13 : Nat → Int32}
variable {b1 b2 b3 b4 b5 b8 b9 b10 b11 b12 b13 b23 b24 b25 : Int32} {b6 b21 b30 : Nat → Int64} {b7 b14 b15 b16 b17 b18 b19 b20 b22 b26 b27 b28 b29 b31 : Nat → Int32} {W : Nat → Int64}
theorem R_heard (hb : BKb b1 b2 b3 b4 b5 b6 b7 b8 b9 b10 b11 b12 b13 b14 b15 b16 b17 b18 b19 b20 b21 b22 b23 b24 b25 b26 b27 b28 b29 b30 b31 0 c W) (hfu : 2000 < fu) : ∃ r s o kp', f_X11_heard fu x1 st q1 q2 q3 q4 q5 q6 q7 q8 q9 q10 q11 q12 q13 b1 b2 b3 b4 b5 b7 b8 b9 b10 b11 b12 b13 b14 b15 b16 b17 b18 b19 b20 b22 b31 = some (r, s, o) ∧ f_X12_heard fu x1 st2 th c kp = some (r, s, nI 0, c, kp') := by
  obtain ⟨σ, ⟨w, h4, ⟨rfl, rfl, rfl, rfl, rfl⟩, ⟨rfl, rfl, rfl, rfl, rfl, rfl⟩, ⟨⟨lt, rfl⟩, ⟨dt, rfl⟩, ⟨kn, rfl⟩, ⟨md, rfl⟩, ⟨od, rfl⟩, ⟨xx, rfl⟩, ⟨sd, rfl⟩, ⟨us, rfl⟩, ⟨rm, rfl⟩, ⟨sp, rfl⟩⟩, hn, hR⟩, hσ⟩ := hb
  have ec := c_mk hσ
  rw [ec]
  exact r_heard w hfu
end
section
variable {c kp : Nat → Int32} {σ : Nat → Nat} {x1 x2 st st2 th : Int32} {fu C S : Nat} {dt kn md od xx sd us lt rm sp : Nat → Int32} {q1 q2 q3 q4 q5 q6 : Int32} {q7 q8 q9 q10 q11 q12 q13 : Nat → Int32}
variable {b1 b2 b3 b4 b5 b8 b9 b10 b11 b12 b13 b23 b24 b25 : Int32} {b6 b21 b30 : Nat → Int64} {b7 b14 b15 b16 b17 b18 b19 b20 b22 b26 b27 b28 b29 b31 : Nat → Int32} {W : Nat → Int64}
theorem R_all (hb : BKb b1 b2 b3 b4 b5 b6 b7 b8 b9 b10 b11 b12 b13 b14 b15 b16 b17 b18 b19 b20 b21 b22 b23 b24 b25 b26 b27 b28 b29 b30 b31 0 c W) (hfu : 2000 < fu) : ∃ r s o kp', f_X11_all fu st q1 q2 q3 q4 q5 q6 q7 q8 q9 q10 q11 q12 q13 b1 b2 b3 b4 b5 b7 b8 b9 b10 b11 b12 b13 b14 b15 b16 b17 b18 b19 b20 b22 b31 = some (r, s, o) ∧ f_X12_all fu st2 th c kp = some (r, s, nI 0, c, kp') := by
  obtain ⟨σ, ⟨w, h4, ⟨rfl, rfl, rfl, rfl, rfl⟩, ⟨rfl, rfl, rfl, rfl, rfl, rfl⟩, ⟨⟨lt, rfl⟩, ⟨dt, rfl⟩, ⟨kn, rfl⟩, ⟨md, rfl⟩, ⟨od, rfl⟩, ⟨xx, rfl⟩, ⟨sd, rfl⟩, ⟨us, rfl⟩, ⟨rm, rfl⟩, ⟨sp, rfl⟩⟩, hn, hR⟩, hσ⟩ := hb
  have ec := c_mk hσ
  rw [ec]
  exact r_all w hfu
end
section
variable {c kp : Nat → Int32} {σ : Nat → Nat} {x1 x2 st st2 th : Int32} {fu C S : Nat} {dt kn md od xx sd us lt rm sp : Nat → Int32} {q1 q2 q3 q4 q5 q6 : Int32} {q7 q8 q9 q10 q11 q12 q13 : Nat → Int32}
variable {b1 b2 b3 b4 b5 b8 b9 b10 b11 b12 b13 b23 b24 b25 : Int32} {b6 b21 b30 : Nat → Int64} {b7 b14 b15 b16 b17 b18 b19 b20 b22 b26 b27 b28 b29 b31 : Nat → Int32} {W : Nat → Int64}
theorem R_later (hb : BKb b1 b2 b3 b4 b5 b6 b7 b8 b9 b10 b11 b12 b13 b14 b15 b16 b17 b18 b19 b20 b21 b22 b23 b24 b25 b26 b27 b28 b29 b30 b31 0 c W) (hfu : 2000 < fu) : ∃ r s o kp', f_X11_later fu x1 x2 st q1 q2 q3 q4 q5 q6 q7 q8 q9 q10 q11 q12 q13 b1 b2 b3 b4 b5 b7 b8 b9 b10 b11 b12 b13 b14 b15 b16 b17 b18 b19 b20 b22 b31 = some (r, s, o) ∧ f_X12_later fu x1 x2 st2 th c kp = some (r, s, nI 0, c, kp') := by
  obtain ⟨σ, ⟨w, h4, ⟨rfl, rfl, rfl, rfl, rfl⟩, ⟨rfl, rfl, rfl, rfl, rfl, rfl⟩, ⟨⟨lt, rfl⟩, ⟨dt, rfl⟩, ⟨kn, rfl⟩, ⟨md, rfl⟩, ⟨od, rfl⟩, ⟨xx, rfl⟩, ⟨sd, rfl⟩, ⟨us, rfl⟩, ⟨rm, rfl⟩, ⟨sp, rfl⟩⟩, hn, hR⟩, hσ⟩ := hb
  have ec := c_mk hσ
  rw [ec]
  exact r_later w hfu
end
section
variable {c kp : Nat → Int32} {σ : Nat → Nat} {x1 x2 st st2 th : Int32} {fu C S : Nat} {dt kn md od xx sd us lt rm sp : Nat → Int32} {q1 q2 q3 q4 q5 q6 : Int32} {q7 q8 q9 q10 q11 q12 q13 : Nat → Int32}
variable {b1 b2 b3 b4 b5 b8 b9 b10 b11 b12 b13 b23 b24 b25 : Int32} {b6 b21 b30 : Nat → Int64} {b7 b14 b15 b16 b17 b18 b19 b20 b22 b26 b27 b28 b29 b31 : Nat → Int32} {W : Nat → Int64}
theorem R_roomIn (hb : BKb b1 b2 b3 b4 b5 b6 b7 b8 b9 b10 b11 b12 b13 b14 b15 b16 b17 b18 b19 b20 b21 b22 b23 b24 b25 b26 b27 b28 b29 b30 b31 0 c W) (hfu : 2000 < fu) : ∃ r s o kp', f_X11_roomIn fu x1 x2 st q1 q2 q3 q4 q5 q6 q7 q8 q9 q10 q11 q12 q13 b2 b3 b4 b5 b7 b8 b9 b10 b11 b12 b13 b14 b15 b16 b17 b18 b19 b20 b22 b31 = some (r, s, o) ∧ f_X12_roomIn fu x1 x2 st2 th c kp = some (r, s, nI 0, c, kp') := by
  obtain ⟨σ, ⟨w, h4, ⟨rfl, rfl, rfl, rfl, rfl⟩, ⟨rfl, rfl, rfl, rfl, rfl, rfl⟩, ⟨⟨lt, rfl⟩, ⟨dt, rfl⟩, ⟨kn, rfl⟩, ⟨md, rfl⟩, ⟨od, rfl⟩, ⟨xx, rfl⟩, ⟨sd, rfl⟩, ⟨us, rfl⟩, ⟨rm, rfl⟩, ⟨sp, rfl⟩⟩, hn, hR⟩, hσ⟩ := hb
  have ec := c_mk hσ
  rw [ec]
  exact r_roomIn w hfu
end
section
variable {c kp : Nat → Int32} {σ : Nat → Nat} {x1 x2 st st2 th : Int32} {fu C S : Nat} {dt kn md od xx sd us lt rm sp : Nat → Int32} {q1 q2 q3 q4 q5 q6 : Int32} {q7 q8 q9 q10 q11 q12 q13 : Nat → Int32}
variable {b1 b2 b3 b4 b5 b8 b9 b10 b11 b12 b13 b23 b24 b25 : Int32} {b6 b21 b30 : Nat → Int64} {b7 b14 b15 b16 b17 b18 b19 b20 b22 b26 b27 b28 b29 b31 : Nat → Int32} {W : Nat → Int64}
theorem R_never (hb : BKb b1 b2 b3 b4 b5 b6 b7 b8 b9 b10 b11 b12 b13 b14 b15 b16 b17 b18 b19 b20 b21 b22 b23 b24 b25 b26 b27 b28 b29 b30 b31 0 c W) (hfu : 2000 < fu) : ∃ r s o kp', f_X11_never fu st q1 q2 q3 q4 q5 q6 q7 q8 q9 q10 q11 q12 q13 b1 b2 b3 b4 b5 b7 b8 b9 b10 b11 b12 b13 b14 b15 b16 b17 b18 b19 b20 b22 b31 = some (r, s, o) ∧ f_X12_never fu st2 th c kp = some (r, s, nI 0, c, kp') := by
  obtain ⟨σ, ⟨w, h4, ⟨rfl, rfl, rfl, rfl, rfl⟩, ⟨rfl, rfl, rfl, rfl, rfl, rfl⟩, ⟨⟨lt, rfl⟩, ⟨dt, rfl⟩, ⟨kn, rfl⟩, ⟨md, rfl⟩, ⟨od, rfl⟩, ⟨xx, rfl⟩, ⟨sd, rfl⟩, ⟨us, rfl⟩, ⟨rm, rfl⟩, ⟨sp, rfl⟩⟩, hn, hR⟩, hσ⟩ := hb
  have ec := c_mk hσ
  rw [ec]
  exact r_never w hfu
end
section
variable {c kp : Nat → Int32} {σ : Nat → Nat} {x1 x2 st st2 th : Int32} {fu C S : Nat} {dt kn md od xx sd us lt rm sp : Nat → Int32} {q1 q2 q3 q4 q5 q6 : Int32} {q7 q8 q9 q10 q11 q12 q13 : Nat → Int32}
variable {b1 b2 b3 b4 b5 b8 b9 b10 b11 b12 b13 b23 b24 b25 : Int32} {b6 b21 b30 : Nat → Int64} {b7 b14 b15 b16 b17 b18 b19 b20 b22 b26 b27 b28 b29 b31 : Nat → Int32} {W : Nat → Int64}
theorem R_firstHeard (hb : BKb b1 b2 b3 b4 b5 b6 b7 b8 b9 b10 b11 b12 b13 b14 b15 b16 b17 b18 b19 b20 b21 b22 b23 b24 b25 b26 b27 b28 b29 b30 b31 0 c W) (hfu : 2000 < fu) : ∃ r s o kp', f_X11_firstHeard fu st q1 q2 q3 q4 q5 q6 q7 q8 q9 q10 q11 q12 q13 b1 b2 b3 b4 b5 b7 b8 b9 b10 b11 b12 b13 b14 b15 b16 b17 b18 b19 b20 b22 b31 = some (r, s, o) ∧ f_X12_firstHeard fu st2 th c kp = some (r, s, nI 0, c, kp') := by
  obtain ⟨σ, ⟨w, h4, ⟨rfl, rfl, rfl, rfl, rfl⟩, ⟨rfl, rfl, rfl, rfl, rfl, rfl⟩, ⟨⟨lt, rfl⟩, ⟨dt, rfl⟩, ⟨kn, rfl⟩, ⟨md, rfl⟩, ⟨od, rfl⟩, ⟨xx, rfl⟩, ⟨sd, rfl⟩, ⟨us, rfl⟩, ⟨rm, rfl⟩, ⟨sp, rfl⟩⟩, hn, hR⟩, hσ⟩ := hb
  have ec := c_mk hσ
  rw [ec]
  exact r_firstHeard w hfu
end
section
variable {c : Nat → Int32} {σ : Nat → Nat} {x1 x2 st st2 th : Int32} {fu : Nat} {xx us lt rm : Nat → Int32}
variable {b1 b2 b3 b4 b5 b8 b9 b10 b11 b12 b13 b23 b24 b25 : Int32} {b6 b21 b30 : Nat → Int64} {b7 b14 b15 b16 b17 b18 b19 b20 b22 b26 b27 b28 b29 b31 : Nat → Int32} {W : Nat → Int64}
theorem R_kept (hb : BKb b1 b2 b3 b4 b5 b6 b7 b8 b9 b10 b11 b12 b13 b14 b15 b16 b17 b18 b19 b20 b21 b22 b23 b24 b25 b26 b27 b28 b29 b30 b31 0 c W) (hfu : 100 < fu) : ∃ r s, f_X11_kept fu st b3 b11 b20 b22 = some (r, s) ∧ f_X12_kept fu st2 th c = some (r, s, nI 0) := by
  obtain ⟨σ, ⟨w, h4, ⟨rfl, rfl, rfl, rfl, rfl⟩, ⟨rfl, rfl, rfl, rfl, rfl, rfl⟩, ⟨⟨lt, rfl⟩, ⟨dt, rfl⟩, ⟨kn, rfl⟩, ⟨md, rfl⟩, ⟨od, rfl⟩, ⟨xx, rfl⟩, ⟨sd, rfl⟩, ⟨us, rfl⟩, ⟨rm, rfl⟩, ⟨sp, rfl⟩⟩, hn, hR⟩, hσ⟩ := hb
  have ec := c_mk hσ
  rw [ec]
  exact r_kept w hfu
end
section
variable {c : Nat → Int32} {σ : Nat → Nat} {st st2 th : Int32} {fu : Nat} {lt rm lo ro : Nat → Int32} {hl : Nat → Int64}
variable {b1 b2 b3 b4 b5 b8 b9 b10 b11 b12 b13 b23 b24 b25 : Int32} {b6 b21 b30 : Nat → Int64} {b7 b14 b15 b16 b17 b18 b19 b20 b22 b26 b27 b28 b29 b31 : Nat → Int32} {W : Nat → Int64}
theorem R_fits (hb : BKb b1 b2 b3 b4 b5 b6 b7 b8 b9 b10 b11 b12 b13 b14 b15 b16 b17 b18 b19 b20 b21 b22 b23 b24 b25 b26 b27 b28 b29 b30 b31 0 c W) (hfu : 100 < fu) : ∃ r s hl' lo' ro', f_X11_fits fu st b2 b3 b7 b22 hl lo = some (r, s, hl', lo') ∧ f_X12_fits fu st2 th c ro = some (r, s, nI 0, ro') := by
  obtain ⟨σ, ⟨w, h4, ⟨rfl, rfl, rfl, rfl, rfl⟩, ⟨rfl, rfl, rfl, rfl, rfl, rfl⟩, ⟨⟨lt, rfl⟩, ⟨dt, rfl⟩, ⟨kn, rfl⟩, ⟨md, rfl⟩, ⟨od, rfl⟩, ⟨xx, rfl⟩, ⟨sd, rfl⟩, ⟨us, rfl⟩, ⟨rm, rfl⟩, ⟨sp, rfl⟩⟩, hn, hR⟩, hσ⟩ := hb
  have ec := c_mk hσ
  rw [ec]
  exact r_fits w hfu
end
section
variable {c : Nat → Int32} {σ : Nat → Nat} {st st2 th : Int32} {fu : Nat} {lt rm lo ro : Nat → Int32} {hl : Nat → Int64}
variable {b1 b2 b3 b4 b5 b8 b9 b10 b11 b12 b13 b23 b24 b25 : Int32} {b6 b21 b30 : Nat → Int64} {b7 b14 b15 b16 b17 b18 b19 b20 b22 b26 b27 b28 b29 b31 : Nat → Int32} {W : Nat → Int64}
theorem R_fitSet (hb : BKb b1 b2 b3 b4 b5 b6 b7 b8 b9 b10 b11 b12 b13 b14 b15 b16 b17 b18 b19 b20 b21 b22 b23 b24 b25 b26 b27 b28 b29 b30 b31 0 c W) (hfu : 100 < fu) : ∃ r s hl' lo' ro', f_X11_fitSet fu st b2 b3 b7 b22 hl lo = some (r, s, hl', lo') ∧ f_X12_fitSet fu st2 th c ro = some (r, s, nI 0, ro') := by
  obtain ⟨σ, ⟨w, h4, ⟨rfl, rfl, rfl, rfl, rfl⟩, ⟨rfl, rfl, rfl, rfl, rfl, rfl⟩, ⟨⟨lt, rfl⟩, ⟨dt, rfl⟩, ⟨kn, rfl⟩, ⟨md, rfl⟩, ⟨od, rfl⟩, ⟨xx, rfl⟩, ⟨sd, rfl⟩, ⟨us, rfl⟩, ⟨rm, rfl⟩, ⟨sp, rfl⟩⟩, hn, hR⟩, hσ⟩ := hb
  have ec := c_mk hσ
  rw [ec]
  exact r_fitSet w hfu
end
section
variable {c : Nat → Int32} {σ : Nat → Nat} {x1 x2 st st2 th : Int32} {fu : Nat} {xx us : Nat → Int32} {ab be ma mu al : Int64}
variable {b1 b2 b3 b4 b5 b8 b9 b10 b11 b12 b13 b23 b24 b25 : Int32} {b6 b21 b30 : Nat → Int64} {b7 b14 b15 b16 b17 b18 b19 b20 b22 b26 b27 b28 b29 b31 : Nat → Int32} {W : Nat → Int64}
theorem R_caught (hb : BKb b1 b2 b3 b4 b5 b6 b7 b8 b9 b10 b11 b12 b13 b14 b15 b16 b17 b18 b19 b20 b21 b22 b23 b24 b25 b26 b27 b28 b29 b30 b31 0 c W) (hfu : 300 < fu) : ∃ r s a b al', f_X11_caught fu st b3 b11 b18 b20 ab be = some (r, s, a, b) ∧ f_X12_caught fu st2 th ab be al c = some (r, s, nI 0, a, b, al') := by
  obtain ⟨σ, ⟨w, h4, ⟨rfl, rfl, rfl, rfl, rfl⟩, ⟨rfl, rfl, rfl, rfl, rfl, rfl⟩, ⟨⟨lt, rfl⟩, ⟨dt, rfl⟩, ⟨kn, rfl⟩, ⟨md, rfl⟩, ⟨od, rfl⟩, ⟨xx, rfl⟩, ⟨sd, rfl⟩, ⟨us, rfl⟩, ⟨rm, rfl⟩, ⟨sp, rfl⟩⟩, hn, hR⟩, hσ⟩ := hb
  have ec := c_mk hσ
  rw [ec]
  exact r_caught w hfu
end
section
variable {c : Nat → Int32} {σ : Nat → Nat} {x1 x2 st st2 th : Int32} {fu : Nat} {xx us : Nat → Int32} {ab be ma mu al : Int64}
variable {b1 b2 b3 b4 b5 b8 b9 b10 b11 b12 b13 b23 b24 b25 : Int32} {b6 b21 b30 : Nat → Int64} {b7 b14 b15 b16 b17 b18 b19 b20 b22 b26 b27 b28 b29 b31 : Nat → Int32} {W : Nat → Int64}
theorem R_risk (hb : BKb b1 b2 b3 b4 b5 b6 b7 b8 b9 b10 b11 b12 b13 b14 b15 b16 b17 b18 b19 b20 b21 b22 b23 b24 b25 b26 b27 b28 b29 b30 b31 0 c W) (hfu : 300 < fu) : ∃ r s a b al', f_X11_risk fu x1 st b3 b11 b18 b20 ab be = some (r, s, a, b) ∧ f_X12_risk fu x1 st2 th ab be al c = some (r, s, nI 0, a, b, al') := by
  obtain ⟨σ, ⟨w, h4, ⟨rfl, rfl, rfl, rfl, rfl⟩, ⟨rfl, rfl, rfl, rfl, rfl, rfl⟩, ⟨⟨lt, rfl⟩, ⟨dt, rfl⟩, ⟨kn, rfl⟩, ⟨md, rfl⟩, ⟨od, rfl⟩, ⟨xx, rfl⟩, ⟨sd, rfl⟩, ⟨us, rfl⟩, ⟨rm, rfl⟩, ⟨sp, rfl⟩⟩, hn, hR⟩, hσ⟩ := hb
  have ec := c_mk hσ
  rw [ec]
  exact r_risk w hfu
end
section
variable {c : Nat → Int32} {σ : Nat → Nat} {x1 x2 st st2 th : Int32} {fu : Nat} {xx us lt rm : Nat → Int32}
variable {b1 b2 b3 b4 b5 b8 b9 b10 b11 b12 b13 b23 b24 b25 : Int32} {b6 b21 b30 : Nat → Int64} {b7 b14 b15 b16 b17 b18 b19 b20 b22 b26 b27 b28 b29 b31 : Nat → Int32} {W : Nat → Int64}
theorem R_hide (hb : BKb b1 b2 b3 b4 b5 b6 b7 b8 b9 b10 b11 b12 b13 b14 b15 b16 b17 b18 b19 b20 b21 b22 b23 b24 b25 b26 b27 b28 b29 b30 b31 0 c W) (hfu : 100 < fu) : ∃ r s, f_X11_hide fu x1 st b2 b3 b7 b11 b18 b20 b22 = some (r, s) ∧ f_X12_hide fu x1 st2 th c = some (r, s, nI 0) := by
  obtain ⟨σ, ⟨w, h4, ⟨rfl, rfl, rfl, rfl, rfl⟩, ⟨rfl, rfl, rfl, rfl, rfl, rfl⟩, ⟨⟨lt, rfl⟩, ⟨dt, rfl⟩, ⟨kn, rfl⟩, ⟨md, rfl⟩, ⟨od, rfl⟩, ⟨xx, rfl⟩, ⟨sd, rfl⟩, ⟨us, rfl⟩, ⟨rm, rfl⟩, ⟨sp, rfl⟩⟩, hn, hR⟩, hσ⟩ := hb
  have ec := c_mk hσ
  rw [ec]
  exact r_hide w hfu
end
section
variable {c : Nat → Int32} {σ : Nat → Nat} {x1 x2 st st2 th : Int32} {fu : Nat} {xx us : Nat → Int32} {ab be ma mu al : Int64} {g1 g2 : Int32} {g3 g4 : Int64}
variable {b1 b2 b3 b4 b5 b8 b9 b10 b11 b12 b13 b23 b24 b25 : Int32} {b6 b21 b30 : Nat → Int64} {b7 b14 b15 b16 b17 b18 b19 b20 b22 b26 b27 b28 b29 b31 : Nat → Int32} {W : Nat → Int64}
theorem R_game (hb : BKb b1 b2 b3 b4 b5 b6 b7 b8 b9 b10 b11 b12 b13 b14 b15 b16 b17 b18 b19 b20 b21 b22 b23 b24 b25 b26 b27 b28 b29 b30 b31 0 c W) (hfu : 300 < fu) : ∃ r s a b o1 o2 o3 o4, f_X11_game fu st b3 b11 b18 ab be = some (r, s, a, b) ∧ f_X12_game fu st2 th ab be g1 g2 g3 g4 c = some (r, s, nI 0, a, b, o1, o2, o3, o4) := by
  obtain ⟨σ, ⟨w, h4, ⟨rfl, rfl, rfl, rfl, rfl⟩, ⟨rfl, rfl, rfl, rfl, rfl, rfl⟩, ⟨⟨lt, rfl⟩, ⟨dt, rfl⟩, ⟨kn, rfl⟩, ⟨md, rfl⟩, ⟨od, rfl⟩, ⟨xx, rfl⟩, ⟨sd, rfl⟩, ⟨us, rfl⟩, ⟨rm, rfl⟩, ⟨sp, rfl⟩⟩, hn, hR⟩, hσ⟩ := hb
  have ec := c_mk hσ
  rw [ec]
  exact r_game w hfu
end
section
variable {c : Nat → Int32} {σ : Nat → Nat} {x1 x2 st st2 th : Int32} {fu : Nat} {xx us : Nat → Int32} {ab be ma mu al : Int64} {g1 g2 : Int32} {g3 g4 : Int64}
variable {b1 b2 b3 b4 b5 b8 b9 b10 b11 b12 b13 b23 b24 b25 : Int32} {b6 b21 b30 : Nat → Int64} {b7 b14 b15 b16 b17 b18 b19 b20 b22 b26 b27 b28 b29 b31 : Nat → Int32} {W : Nat → Int64}
theorem R_mix (hb : BKb b1 b2 b3 b4 b5 b6 b7 b8 b9 b10 b11 b12 b13 b14 b15 b16 b17 b18 b19 b20 b21 b22 b23 b24 b25 b26 b27 b28 b29 b30 b31 0 c W) (hfu : 300 < fu) : ∃ r s a b o1 o2 o3 o4, f_X11_mix fu x1 st b3 b11 b18 ab be = some (r, s, a, b) ∧ f_X12_mix fu x1 st2 th ab be g1 g2 g3 g4 c = some (r, s, nI 0, a, b, o1, o2, o3, o4) := by
  obtain ⟨σ, ⟨w, h4, ⟨rfl, rfl, rfl, rfl, rfl⟩, ⟨rfl, rfl, rfl, rfl, rfl, rfl⟩, ⟨⟨lt, rfl⟩, ⟨dt, rfl⟩, ⟨kn, rfl⟩, ⟨md, rfl⟩, ⟨od, rfl⟩, ⟨xx, rfl⟩, ⟨sd, rfl⟩, ⟨us, rfl⟩, ⟨rm, rfl⟩, ⟨sp, rfl⟩⟩, hn, hR⟩, hσ⟩ := hb
  have ec := c_mk hσ
  rw [ec]
  exact r_mix w hfu
end
section
variable {c : Nat → Int32} {σ : Nat → Nat} {x1 x2 x3 st st2 th : Int32} {ab un : Int64} {fu z ns n : Nat} {co ma on ot lt rm sp xx dt kn md od sd us be : Nat → Int32} {pr sp1 rs rz : Int32}
variable {b1 b2 b3 b4 b5 b8 b9 b10 b11 b12 b13 b23 b24 b25 : Int32} {b6 b21 b30 : Nat → Int64} {b7 b14 b15 b16 b17 b18 b19 b20 b22 b26 b27 b28 b29 b31 : Nat → Int32} {W : Nat → Int64}
theorem R_mean {l1 l2 l3 l4 l5 l6 l7 i1 i2 i3 i4 i5 i6 i7 : Int32} {ll : Nat → Int32} {q1 q2 q3 q4 q5 q6 : Int32} {q7 q8 q9 q10 q11 q12 q13 : Nat → Int32} (hb : BKb b1 b2 b3 b4 b5 b6 b7 b8 b9 b10 b11 b12 b13 b14 b15 b16 b17 b18 b19 b20 b21 b22 b23 b24 b25 b26 b27 b28 b29 b30 b31 0 c W) (hfu : 40000 < fu) : ∃ r s a b o1 o2 o3 o4 o5 o6 o7 ll' p1 p2 p3 p4 p5 p6 p7 p8 p9 p10 p11 p12 p13 i1' i2' i3' i4' i5' i6' i7' be', f_X11_mean fu x1 x2 x3 st b1 b2 b3 b4 b5 b7 b8 b9 b10 b11 b12 b13 b14 b15 b16 b17 b18 b19 b20 b22 b23 b25 b26 b27 b28 b29 b31 l1 l2 l3 l4 l5 l6 l7 ll q1 q2 q3 q4 q5 q6 q7 q8 q9 q10 q11 q12 q13 ab un = some (r, s, o1, o2, o3, o4, o5, o6, o7, ll', p1, p2, p3, p4, p5, p6, p7, p8, p9, p10, p11, p12, p13, a, b) ∧ f_X12_mean fu x1 x2 x3 st2 th ab un i1 i2 i3 i4 i5 i6 i7 be c = some (r, s, nI 0, a, b, i1', i2', i3', i4', i5', i6', i7', be', c) := by
  obtain ⟨σ, ⟨w, h4, ⟨rfl, rfl, rfl, rfl, rfl⟩, ⟨rfl, rfl, rfl, rfl, rfl, rfl⟩, ⟨⟨lt, rfl⟩, ⟨dt, rfl⟩, ⟨kn, rfl⟩, ⟨md, rfl⟩, ⟨od, rfl⟩, ⟨xx, rfl⟩, ⟨sd, rfl⟩, ⟨us, rfl⟩, ⟨rm, rfl⟩, ⟨sp, rfl⟩⟩, hn, hR⟩, hσ⟩ := hb
  have ec := c_mk hσ
  rw [c_sh] at hR
  rw [ec]
  exact r_mean w h4 hR hfu
end
section
variable {c kp : Nat → Int32} {σ : Nat → Nat} {fu : Nat} {st st2 th om ob : Int32} {dt kn md od xx sd us lt rm sp oe ow row : Nat → Int32} {q1 q2 q3 q4 q5 q6 : Int32} {q7 q8 q9 q10 q11 q12 q13 : Nat → Int32} {bm : Int32} {be tr : Nat → Int32}
variable {b1 b2 b3 b4 b5 b8 b9 b10 b11 b12 b13 b23 b24 b25 : Int32} {b6 b21 b30 : Nat → Int64} {b7 b14 b15 b16 b17 b18 b19 b20 b22 b26 b27 b28 b29 b31 : Nat → Int32} {W : Nat → Int64}
theorem R_bestOrder (hb : BKb b1 b2 b3 b4 b5 b6 b7 b8 b9 b10 b11 b12 b13 b14 b15 b16 b17 b18 b19 b20 b21 b22 b23 b24 b25 b26 b27 b28 b29 b30 b31 0 c W) (hB : BoRel bm be om oe) (hfu : 2000 < fu) : ∃ r s bm' be' o om' ob' kp' ow' oe' row', f_X11_bestOrder fu st bm be q1 q2 q3 q4 q5 q6 q7 q8 q9 q10 q11 q12 q13 tr b1 b2 b3 b4 b5 b7 b8 b9 b10 b11 b12 b13 b14 b15 b16 b17 b18 b19 b20 b22 b31 = some (r, s, bm', be', o) ∧ f_X12_bestOrder fu st2 th om ob c kp ow oe row = some (r, s, nI 0, om', ob', c, kp', ow', oe', row') ∧ BoRel bm' be' om' oe' := by
  obtain ⟨σ, ⟨w, h4, ⟨rfl, rfl, rfl, rfl, rfl⟩, ⟨rfl, rfl, rfl, rfl, rfl, rfl⟩, ⟨⟨lt, rfl⟩, ⟨dt, rfl⟩, ⟨kn, rfl⟩, ⟨md, rfl⟩, ⟨od, rfl⟩, ⟨xx, rfl⟩, ⟨sd, rfl⟩, ⟨us, rfl⟩, ⟨rm, rfl⟩, ⟨sp, rfl⟩⟩, hn, hR⟩, hσ⟩ := hb
  have ec := c_mk hσ
  rw [ec]
  exact r_bestOrder w hB hfu
end
section
variable {c : Nat → Int32} {σ : Nat → Nat} {R : Nat → Nat → Int64} {so le dt : Nat → Int32} {nu : Nat → Int64} {tm ts : Nat → Int32} {x1 x2 x3 x4 x5 st st2 th : Int32} {fu : Nat}
variable {b1 b2 b3 b4 b5 b8 b9 b10 b11 b12 b13 b23 b24 b25 : Int32} {b6 b21 b30 : Nat → Int64} {b7 b14 b15 b16 b17 b18 b19 b20 b22 b26 b27 b28 b29 b31 : Nat → Int32} {W : Nat → Int64}
theorem R_copyPage (hb : BKb b1 b2 b3 b4 b5 b6 b7 b8 b9 b10 b11 b12 b13 b14 b15 b16 b17 b18 b19 b20 b21 b22 b23 b24 b25 b26 b27 b28 b29 b30 b31 0 c W) (h : TrRel R so le nu tm ts) (hfu : 100 < fu) : ∃ r s R' nu', f_X11_copyPage fu x1 x2 st b2 b3 b14 le (R 0) (R 1) (R 2) (R 3) so = some (r, s, R' 0, R' 1, R' 2, R' 3) ∧ f_X12_copyPage fu x1 x2 st2 th c nu tm = some (r, s, nI 0, nu') ∧ TrRel R' so le nu' tm ts := by
  obtain ⟨σ, ⟨w, h4, ⟨rfl, rfl, rfl, rfl, rfl⟩, ⟨rfl, rfl, rfl, rfl, rfl, rfl⟩, ⟨⟨lt, rfl⟩, ⟨dt, rfl⟩, ⟨kn, rfl⟩, ⟨md, rfl⟩, ⟨od, rfl⟩, ⟨xx, rfl⟩, ⟨sd, rfl⟩, ⟨us, rfl⟩, ⟨rm, rfl⟩, ⟨sp, rfl⟩⟩, hn, hR⟩, hσ⟩ := hb
  have ec := c_mk hσ
  rw [ec]
  exact r_copyPage w h hfu
end
