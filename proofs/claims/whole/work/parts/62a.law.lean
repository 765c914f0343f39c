/-! THE LAW'S LOOP, references resolved (by program) -/
section Gl
variable {xs : Int → Int} {L : Int}
noncomputable def GL_law (xs : Int → Int) (L : Int) (RU : MH → Option (Int × MH)) : Nat → Int → MH → Option (Int × MH)
  | 0, _, _ => none
  | f + 1, v3, h =>
    (if (m_w32 (L - 6)) < v3 then
     some (1, h)
    else
     gd [IB v3 L] (
      (if (m_band (xs v3) 63) = 0 then
       gd [IB (m_w32 (v3 + 1)) L] (
        gd [IB (m_w32 (v3 + 2)) L] (
         gd [IB (m_w32 (v3 + 3)) L] (
          gd [IB (m_w32 (v3 + 4)) L] (
           gd [IB (m_w32 (v3 + 5)) L] (
            (bd (GX11_feed (xs (m_w32 (v3 + 1))) (xs (m_w32 (v3 + 2))) (xs (m_w32 (v3 + 3))) (xs (m_w32 (v3 + 4))) (xs (m_w32 (v3 + 5))) h) (fun x2 h1 =>
             gd [IB (m_w32 (v3 + 1)) L] (
              gd [IB (m_w32 (v3 + 2)) L] (
               gd [IB (m_w32 (v3 + 3)) L] (
                gd [IB (m_w32 (v3 + 4)) L] (
                 gd [IB (m_w32 (v3 + 5)) L] (
                  (bd (GX12_feed (xs (m_w32 (v3 + 1))) (xs (m_w32 (v3 + 2))) (xs (m_w32 (v3 + 3))) (xs (m_w32 (v3 + 4))) (xs (m_w32 (v3 + 5))) h1) (fun x4 h3 =>
                   (if x2 = x4 then
                    GL_law xs L RU f (m_w32 (v3 + 6)) h3
                   else
                    some (0, h3))))))))))))))))
      else
      (if (m_band (xs v3) 63) = 1 then
       gd [IB (m_w32 (v3 + 1)) L] (
        (bd (GX11_end (xs (m_w32 (v3 + 1))) h) (fun x6 h5 =>
         gd [IB (m_w32 (v3 + 1)) L] (
          (bd (GX12_end (xs (m_w32 (v3 + 1))) h5) (fun x8 h7 =>
           (if x6 = x8 then
            GL_law xs L RU f (m_w32 (v3 + 6)) h7
           else
            some (0, h7))))))))
      else
      (if (m_band (xs v3) 63) = 2 then
       (bd (GX11_frame h) (fun x10 h9 =>
        (bd (GX12_frame h9) (fun x12 h11 =>
         (if x10 = x12 then
          GL_law xs L RU f (m_w32 (v3 + 6)) h11
         else
          some (0, h11))))))
      else
      (if (m_band (xs v3) 63) = 3 then
       (bd (RU h) (fun x14 h13 =>
        (bd (GX12_rule h13) (fun x16 h15 =>
         (if x14 = x16 then
          GL_law xs L RU f (m_w32 (v3 + 6)) h15
         else
          some (0, h15))))))
      else
      (if (m_band (xs v3) 63) = 4 then
       gd [IB (m_w32 (v3 + 1)) L] (
        (bd (GX11_force (xs (m_w32 (v3 + 1))) h) (fun x18 h17 =>
         gd [IB (m_w32 (v3 + 1)) L] (
          (bd (GX12_force (xs (m_w32 (v3 + 1))) h17) (fun x20 h19 =>
           (if x18 = x20 then
            GL_law xs L RU f (m_w32 (v3 + 6)) h19
           else
            some (0, h19))))))))
      else
      (if (m_band (xs v3) 63) = 5 then
       gd [IB (m_w32 (v3 + 1)) L] (
        gd [IB (m_w32 (v3 + 2)) L] (
         (bd (GX11_hole (xs (m_w32 (v3 + 1))) (xs (m_w32 (v3 + 2))) h) (fun x22 h21 =>
          gd [IB (m_w32 (v3 + 1)) L] (
           gd [IB (m_w32 (v3 + 2)) L] (
            (bd (GX12_hole (xs (m_w32 (v3 + 1))) (xs (m_w32 (v3 + 2))) h21) (fun x24 h23 =>
             (if x22 = x24 then
              GL_law xs L RU f (m_w32 (v3 + 6)) h23
             else
              some (0, h23))))))))))
      else
      (if (m_band (xs v3) 63) = 6 then
       gd [IB (m_w32 (v3 + 1)) L] (
        gd [IB (m_w32 (v3 + 2)) L] (
         (bd (GX11_entry (xs (m_w32 (v3 + 1))) (xs (m_w32 (v3 + 2))) h) (fun x26 h25 =>
          gd [IB (m_w32 (v3 + 1)) L] (
           gd [IB (m_w32 (v3 + 2)) L] (
            (bd (GX12_entry (xs (m_w32 (v3 + 1))) (xs (m_w32 (v3 + 2))) h25) (fun x28 h27 =>
             (if x26 = x28 then
              GL_law xs L RU f (m_w32 (v3 + 6)) h27
             else
              some (0, h27))))))))))
      else
      (if (m_band (xs v3) 63) = 7 then
       gd [IB (m_w32 (v3 + 1)) L] (
        (bd (GX11_waits (xs (m_w32 (v3 + 1))) h) (fun x30 h29 =>
         gd [IB (m_w32 (v3 + 1)) L] (
          (bd (GX12_waits (xs (m_w32 (v3 + 1))) h29) (fun x32 h31 =>
           (if x30 = x32 then
            GL_law xs L RU f (m_w32 (v3 + 6)) h31
           else
            some (0, h31))))))))
      else
      (if (m_band (xs v3) 63) = 8 then
       (bd (GX11_turn h) (fun x34 h33 =>
        (bd (GX12_turn h33) (fun x36 h35 =>
         (if x34 = x36 then
          GL_law xs L RU f (m_w32 (v3 + 6)) h35
         else
          some (0, h35))))))
      else
      (if (m_band (xs v3) 63) = 9 then
       gd [IB (m_w32 (v3 + 1)) L] (
        (bd (GX11_post (xs (m_w32 (v3 + 1))) h) (fun x38 h37 =>
         gd [IB (m_w32 (v3 + 1)) L] (
          (bd (GX12_post (xs (m_w32 (v3 + 1))) h37) (fun x40 h39 =>
           (if x38 = x40 then
            GL_law xs L RU f (m_w32 (v3 + 6)) h39
           else
            some (0, h39))))))))
      else
      (if (m_band (xs v3) 63) = 10 then
       gd [IB (m_w32 (v3 + 1)) L] (
        (bd (GX11_tie (xs (m_w32 (v3 + 1))) h) (fun x42 h41 =>
         gd [IB (m_w32 (v3 + 1)) L] (
          (bd (GX12_tie (xs (m_w32 (v3 + 1))) h41) (fun x44 h43 =>
           (if x42 = x44 then
            GL_law xs L RU f (m_w32 (v3 + 6)) h43
           else
            some (0, h43))))))))
      else
      (if (m_band (xs v3) 63) = 11 then
       gd [IB (m_w32 (v3 + 1)) L] (
        gd [IB (m_w32 (v3 + 2)) L] (
         gd [IB (m_w32 (v3 + 3)) L] (
          (bd (GX11_enter (xs (m_w32 (v3 + 1))) (xs (m_w32 (v3 + 2))) (xs (m_w32 (v3 + 3))) h) (fun x46 h45 =>
           gd [IB (m_w32 (v3 + 1)) L] (
            gd [IB (m_w32 (v3 + 2)) L] (
             gd [IB (m_w32 (v3 + 3)) L] (
              (bd (GX12_enter (xs (m_w32 (v3 + 1))) (xs (m_w32 (v3 + 2))) (xs (m_w32 (v3 + 3))) h45) (fun x48 h47 =>
               (if x46 = x48 then
                GL_law xs L RU f (m_w32 (v3 + 6)) h47
               else
                some (0, h47))))))))))))
      else
      (if (m_band (xs v3) 63) = 12 then
       gd [IB (m_w32 (v3 + 1)) L] (
        (bd (GX11_strike (xs (m_w32 (v3 + 1))) h) (fun x50 h49 =>
         gd [IB (m_w32 (v3 + 1)) L] (
          (bd (GX12_strike (xs (m_w32 (v3 + 1))) h49) (fun x52 h51 =>
           (if x50 = x52 then
            GL_law xs L RU f (m_w32 (v3 + 6)) h51
           else
            some (0, h51))))))))
      else
      (if (m_band (xs v3) 63) = 13 then
       (bd (GX11_undo h) (fun x54 h53 =>
        (bd (GX12_undo h53) (fun x56 h55 =>
         (if x54 = x56 then
          GL_law xs L RU f (m_w32 (v3 + 6)) h55
         else
          some (0, h55))))))
      else
      (if (m_band (xs v3) 63) = 14 then
       gd [IB (m_w32 (v3 + 1)) L] (
        gd [IB (m_w32 (v3 + 2)) L] (
         (bd (GX11_where (xs (m_w32 (v3 + 1))) (xs (m_w32 (v3 + 2))) h) (fun x58 h57 =>
          gd [IB (m_w32 (v3 + 1)) L] (
           gd [IB (m_w32 (v3 + 2)) L] (
            (bd (GX12_where (xs (m_w32 (v3 + 1))) (xs (m_w32 (v3 + 2))) h57) (fun x60 h59 =>
             (if x58 = x60 then
              GL_law xs L RU f (m_w32 (v3 + 6)) h59
             else
              some (0, h59))))))))))
      else
      (if (m_band (xs v3) 63) = 15 then
       gd [IB (m_w32 (v3 + 1)) L] (
        (bd (GX11_may (xs (m_w32 (v3 + 1))) h) (fun x62 h61 =>
         gd [IB (m_w32 (v3 + 1)) L] (
          (bd (GX12_may (xs (m_w32 (v3 + 1))) h61) (fun x64 h63 =>
           (if x62 = x64 then
            GL_law xs L RU f (m_w32 (v3 + 6)) h63
           else
            some (0, h63))))))))
      else
      (if (m_band (xs v3) 63) = 16 then
       gd [IB (m_w32 (v3 + 1)) L] (
        gd [IB (m_w32 (v3 + 2)) L] (
         (bd (GX11_read (xs (m_w32 (v3 + 1))) (xs (m_w32 (v3 + 2))) h) (fun x66 h65 =>
          gd [IB (m_w32 (v3 + 1)) L] (
           gd [IB (m_w32 (v3 + 2)) L] (
            (bd (GX12_read (xs (m_w32 (v3 + 1))) (xs (m_w32 (v3 + 2))) h65) (fun x68 h67 =>
             (if x66 = x68 then
              GL_law xs L RU f (m_w32 (v3 + 6)) h67
             else
              some (0, h67))))))))))
      else
      (if (m_band (xs v3) 63) = 17 then
       gd [IB (m_w32 (v3 + 1)) L] (
        gd [IB (m_w32 (v3 + 2)) L] (
         (bd (GX11_codes (xs (m_w32 (v3 + 1))) (xs (m_w32 (v3 + 2))) h) (fun x70 h69 =>
          gd [IB (m_w32 (v3 + 1)) L] (
           gd [IB (m_w32 (v3 + 2)) L] (
            (bd (GX12_codes (xs (m_w32 (v3 + 1))) (xs (m_w32 (v3 + 2))) h69) (fun x72 h71 =>
             (if x70 = x72 then
              GL_law xs L RU f (m_w32 (v3 + 6)) h71
             else
              some (0, h71))))))))))
      else
      (if (m_band (xs v3) 63) = 18 then
       gd [IB (m_w32 (v3 + 1)) L] (
        (bd (GX11_slips (xs (m_w32 (v3 + 1))) h) (fun x74 h73 =>
         gd [IB (m_w32 (v3 + 1)) L] (
          (bd (GX12_slips (xs (m_w32 (v3 + 1))) h73) (fun x76 h75 =>
           (if x74 = x76 then
            GL_law xs L RU f (m_w32 (v3 + 6)) h75
           else
            some (0, h75))))))))
      else
      (if (m_band (xs v3) 63) = 19 then
       gd [IB (m_w32 (v3 + 1)) L] (
        (bd (GX11_worst (xs (m_w32 (v3 + 1))) h) (fun x78 h77 =>
         gd [IB (m_w32 (v3 + 1)) L] (
          (bd (GX12_worst (xs (m_w32 (v3 + 1))) h77) (fun x80 h79 =>
           (if x78 = x80 then
            GL_law xs L RU f (m_w32 (v3 + 6)) h79
           else
            some (0, h79))))))))
      else
      (if (m_band (xs v3) 63) = 20 then
       (bd (GX11_idle h) (fun x82 h81 =>
        (bd (GX12_idle h81) (fun x84 h83 =>
         (if x82 = x84 then
          GL_law xs L RU f (m_w32 (v3 + 6)) h83
         else
          some (0, h83))))))
      else
      (if (m_band (xs v3) 63) = 21 then
       (bd (GX11_least h) (fun x86 h85 =>
        (bd (GX12_least h85) (fun x88 h87 =>
         (if x86 = x88 then
          GL_law xs L RU f (m_w32 (v3 + 6)) h87
         else
          some (0, h87))))))
      else
      (if (m_band (xs v3) 63) = 22 then
       gd [IB (m_w32 (v3 + 1)) L] (
        (bd (GX11_one (xs (m_w32 (v3 + 1))) h) (fun x90 h89 =>
         gd [IB (m_w32 (v3 + 1)) L] (
          (bd (GX12_one (xs (m_w32 (v3 + 1))) h89) (fun x92 h91 =>
           (if x90 = x92 then
            GL_law xs L RU f (m_w32 (v3 + 6)) h91
           else
            some (0, h91))))))))
      else
      (if (m_band (xs v3) 63) = 23 then
       gd [IB (m_w32 (v3 + 1)) L] (
        (bd (GX11_change (xs (m_w32 (v3 + 1))) h) (fun x94 h93 =>
         gd [IB (m_w32 (v3 + 1)) L] (
          (bd (GX12_change (xs (m_w32 (v3 + 1))) h93) (fun x96 h95 =>
           (if x94 = x96 then
            GL_law xs L RU f (m_w32 (v3 + 6)) h95
           else
            some (0, h95))))))))
      else
      (if (m_band (xs v3) 63) = 24 then
       gd [IB (m_w32 (v3 + 1)) L] (
        gd [IB (m_w32 (v3 + 2)) L] (
         gd [IB (m_w32 (v3 + 3)) L] (
          (bd (GX11_ahead (xs (m_w32 (v3 + 1))) (xs (m_w32 (v3 + 2))) (xs (m_w32 (v3 + 3))) h) (fun x98 h97 =>
           gd [IB (m_w32 (v3 + 1)) L] (
            gd [IB (m_w32 (v3 + 2)) L] (
             gd [IB (m_w32 (v3 + 3)) L] (
              (bd (GX12_ahead (xs (m_w32 (v3 + 1))) (xs (m_w32 (v3 + 2))) (xs (m_w32 (v3 + 3))) h97) (fun x100 h99 =>
               (if x98 = x100 then
                GL_law xs L RU f (m_w32 (v3 + 6)) h99
               else
                some (0, h99))))))))))))
      else
      (if (m_band (xs v3) 63) = 25 then
       (bd (GX11_sorted h) (fun x102 h101 =>
        (bd (GX12_sorted h101) (fun x104 h103 =>
         (if x102 = x104 then
          GL_law xs L RU f (m_w32 (v3 + 6)) h103
         else
          some (0, h103))))))
      else
      (if (m_band (xs v3) 63) = 26 then
       gd [IB (m_w32 (v3 + 1)) L] (
        (bd (GX11_tied (xs (m_w32 (v3 + 1))) h) (fun x106 h105 =>
         gd [IB (m_w32 (v3 + 1)) L] (
          (bd (GX12_tied (xs (m_w32 (v3 + 1))) h105) (fun x108 h107 =>
           (if x106 = x108 then
            GL_law xs L RU f (m_w32 (v3 + 6)) h107
           else
            some (0, h107))))))))
      else
      (if (m_band (xs v3) 63) = 27 then
       gd [IB (m_w32 (v3 + 1)) L] (
        gd [IB (m_w32 (v3 + 2)) L] (
         (bd (GX11_enough (xs (m_w32 (v3 + 1))) (xs (m_w32 (v3 + 2))) h) (fun x110 h109 =>
          gd [IB (m_w32 (v3 + 1)) L] (
           gd [IB (m_w32 (v3 + 2)) L] (
            (bd (GX12_enough (xs (m_w32 (v3 + 1))) (xs (m_w32 (v3 + 2))) h109) (fun x112 h111 =>
             (if x110 = x112 then
              GL_law xs L RU f (m_w32 (v3 + 6)) h111
             else
              some (0, h111))))))))))
      else
      (if (m_band (xs v3) 63) = 28 then
       gd [IB (m_w32 (v3 + 1)) L] (
        gd [IB (m_w32 (v3 + 2)) L] (
         (bd (GX11_said (xs (m_w32 (v3 + 1))) (xs (m_w32 (v3 + 2))) h) (fun x114 h113 =>
          gd [IB (m_w32 (v3 + 1)) L] (
           gd [IB (m_w32 (v3 + 2)) L] (
            (bd (GX12_said (xs (m_w32 (v3 + 1))) (xs (m_w32 (v3 + 2))) h113) (fun x116 h115 =>
             (if x114 = x116 then
              GL_law xs L RU f (m_w32 (v3 + 6)) h115
             else
              some (0, h115))))))))))
      else
      (if (m_band (xs v3) 63) = 29 then
       gd [IB (m_w32 (v3 + 1)) L] (
        (bd (GX11_sent (xs (m_w32 (v3 + 1))) h) (fun x118 h117 =>
         gd [IB (m_w32 (v3 + 1)) L] (
          (bd (GX12_sent (xs (m_w32 (v3 + 1))) h117) (fun x120 h119 =>
           (if x118 = x120 then
            GL_law xs L RU f (m_w32 (v3 + 6)) h119
           else
            some (0, h119))))))))
      else
      (if (m_band (xs v3) 63) = 30 then
       gd [IB (m_w32 (v3 + 1)) L] (
        gd [IB (m_w32 (v3 + 2)) L] (
         (bd (GX11_pence (xs (m_w32 (v3 + 1))) (xs (m_w32 (v3 + 2))) h) (fun x122 h121 =>
          gd [IB (m_w32 (v3 + 1)) L] (
           gd [IB (m_w32 (v3 + 2)) L] (
            (bd (GX12_pence (xs (m_w32 (v3 + 1))) (xs (m_w32 (v3 + 2))) h121) (fun x124 h123 =>
             (if x122 = x124 then
              GL_law xs L RU f (m_w32 (v3 + 6)) h123
             else
              some (0, h123))))))))))
      else
      (if (m_band (xs v3) 63) = 31 then
       gd [IB (m_w32 (v3 + 1)) L] (
        gd [IB (m_w32 (v3 + 2)) L] (
         gd [IB (m_w32 (v3 + 3)) L] (
          (bd (GX11_note (xs (m_w32 (v3 + 1))) (xs (m_w32 (v3 + 2))) (xs (m_w32 (v3 + 3))) h) (fun x126 h125 =>
           gd [IB (m_w32 (v3 + 1)) L] (
            gd [IB (m_w32 (v3 + 2)) L] (
             gd [IB (m_w32 (v3 + 3)) L] (
              (bd (GX12_note (xs (m_w32 (v3 + 1))) (xs (m_w32 (v3 + 2))) (xs (m_w32 (v3 + 3))) h125) (fun x128 h127 =>
               (if x126 = x128 then
                GL_law xs L RU f (m_w32 (v3 + 6)) h127
               else
                some (0, h127))))))))))))
      else
      (if (m_band (xs v3) 63) = 32 then
       gd [IB (m_w32 (v3 + 1)) L] (
        (bd (GX11_ruled (xs (m_w32 (v3 + 1))) h) (fun x130 h129 =>
         gd [IB (m_w32 (v3 + 1)) L] (
          (bd (GX12_ruled (xs (m_w32 (v3 + 1))) h129) (fun x132 h131 =>
           (if x130 = x132 then
            GL_law xs L RU f (m_w32 (v3 + 6)) h131
           else
            some (0, h131))))))))
      else
      (if (m_band (xs v3) 63) = 33 then
       gd [IB (m_w32 (v3 + 1)) L] (
        gd [IB (m_w32 (v3 + 2)) L] (
         (bd (GX11_look (xs (m_w32 (v3 + 1))) (xs (m_w32 (v3 + 2))) h) (fun x134 h133 =>
          gd [IB (m_w32 (v3 + 1)) L] (
           gd [IB (m_w32 (v3 + 2)) L] (
            (bd (GX12_look (xs (m_w32 (v3 + 1))) (xs (m_w32 (v3 + 2))) h133) (fun x136 h135 =>
             (if x134 = x136 then
              GL_law xs L RU f (m_w32 (v3 + 6)) h135
             else
              some (0, h135))))))))))
      else
      (if (m_band (xs v3) 63) = 34 then
       gd [IB (m_w32 (v3 + 1)) L] (
        (bd (GX11_seed (xs (m_w32 (v3 + 1))) h) (fun x138 h137 =>
         gd [IB (m_w32 (v3 + 1)) L] (
          (bd (GX12_seed (xs (m_w32 (v3 + 1))) h137) (fun x140 h139 =>
           (if x138 = x140 then
            GL_law xs L RU f (m_w32 (v3 + 6)) h139
           else
            some (0, h139))))))))
      else
      (if (m_band (xs v3) 63) = 35 then
       gd [IB (m_w32 (v3 + 1)) L] (
        gd [IB (m_w32 (v3 + 2)) L] (
         gd [IB (m_w32 (v3 + 3)) L] (
          gd [IB (m_w32 (v3 + 4)) L] (
           (bd (GX11_posts (xs (m_w32 (v3 + 1))) (xs (m_w32 (v3 + 2))) (xs (m_w32 (v3 + 3))) (xs (m_w32 (v3 + 4))) h) (fun x142 h141 =>
            gd [IB (m_w32 (v3 + 1)) L] (
             gd [IB (m_w32 (v3 + 2)) L] (
              gd [IB (m_w32 (v3 + 3)) L] (
               gd [IB (m_w32 (v3 + 4)) L] (
                (bd (GX12_posts (xs (m_w32 (v3 + 1))) (xs (m_w32 (v3 + 2))) (xs (m_w32 (v3 + 3))) (xs (m_w32 (v3 + 4))) h141) (fun x144 h143 =>
                 (if x142 = x144 then
                  GL_law xs L RU f (m_w32 (v3 + 6)) h143
                 else
                  some (0, h143))))))))))))))
      else
      (if (m_band (xs v3) 63) = 36 then
       gd [IB (m_w32 (v3 + 1)) L] (
        (bd (GX11_count (xs (m_w32 (v3 + 1))) h) (fun x146 h145 =>
         gd [IB (m_w32 (v3 + 1)) L] (
          (bd (GX12_count (xs (m_w32 (v3 + 1))) h145) (fun x148 h147 =>
           (if x146 = x148 then
            GL_law xs L RU f (m_w32 (v3 + 6)) h147
           else
            some (0, h147))))))))
      else
      (if (m_band (xs v3) 63) = 37 then
       gd [IB (m_w32 (v3 + 1)) L] (
        (bd (GX11_image (xs (m_w32 (v3 + 1))) h) (fun x150 h149 =>
         gd [IB (m_w32 (v3 + 1)) L] (
          (bd (GX12_image (xs (m_w32 (v3 + 1))) h149) (fun x152 h151 =>
           (if x150 = x152 then
            GL_law xs L RU f (m_w32 (v3 + 6)) h151
           else
            some (0, h151))))))))
      else
      (if (m_band (xs v3) 63) = 38 then
       gd [IB (m_w32 (v3 + 1)) L] (
        (bd (GX11_back (xs (m_w32 (v3 + 1))) h) (fun x154 h153 =>
         gd [IB (m_w32 (v3 + 1)) L] (
          (bd (GX12_back (xs (m_w32 (v3 + 1))) h153) (fun x156 h155 =>
           (if x154 = x156 then
            GL_law xs L RU f (m_w32 (v3 + 6)) h155
           else
            some (0, h155))))))))
      else
       GL_law xs L RU f (m_w32 (v3 + 6)) h)))))))))))))))))))))))))))))))))))))))))
theorem DL_law {RU : MH → Option (Int × MH)} {r : Int × MH} {h0 : MH} (hR_RU : ∀ (h : MH) (r : Int × MH), LR h → RU h = some r → RN xs L iX11_rule 50 0 (lvE 0 [.inr (.inr 0)]) [] h (RIo r) ∧ LR r.2 ∧ KD h r.2) : ∀ (f : Nat) (v3 : Int) (h : MH), LR h → KD h0 h → GL_law xs L RU f v3 h = some r → RK xs L iL_law 51 18 [(0, .inr (.inr (-2))), (1, .inr (.inr 0)), (2, .inr (.inr 334)), (3, .inl v3)] [] h (RIo r) h0 r.2 := by
  intro f
  induction f with
  | zero =>
    intro v3 h hL hK hF
    cases hF
  | succ f ih =>
    intro v3 h hL hK hF
    unfold GL_law at hF
    refine RK.of (RN.blk (ops := [(18, .iload_n 3), (19, .aload_n 0)]) (pc' := 20) (lv' := [(0, .inr (.inr (-2))), (1, .inr (.inr 0)), (2, .inr (.inr 334)), (3, .inl v3)]) (st' := [.inr (.inr (-2)), .inl v3]) (h' := h) (cs := []) (by decide +kernel) rfl trivial) ?_
    refine RK.of (RN.xl (by decide +kernel)) ?_
    refine RK.of (RN.blk (ops := [(21, .bipush 6), (23, .isub)]) (pc' := 24) (lv' := [(0, .inr (.inr (-2))), (1, .inr (.inr 0)), (2, .inr (.inr 334)), (3, .inl v3)]) (st' := [.inl (m_w32 (L - 6)), .inl v3]) (h' := h) (cs := []) (by decide +kernel) rfl trivial) ?_
    rcases it_of hF with ⟨hb, hF⟩ | ⟨hb, hF⟩
    · refine RK.of (RN.ict (cd := .gt) (off := 1233) (tgt := 1257) (by decide +kernel) (mif_gt hb)) ?_
      refine RK.of (RN.blk (ops := [(1257, .iconst 1)]) (pc' := 1258) (lv' := [(0, .inr (.inr (-2))), (1, .inr (.inr 0)), (2, .inr (.inr 334)), (3, .inl v3)]) (st' := [.inl 1]) (h' := h) (cs := []) (by decide +kernel) rfl trivial) ?_
      exact RK.zR (by decide +kernel) rfl (Or.inr rfl) hL hK hF
    · refine RK.of (RN.icf (cd := .gt) (off := 1233) (tgt := 1257) (by decide +kernel) (mif_gtn hb)) ?_
      refine RK.of (RN.blk (ops := [(27, .aload_n 0), (28, .iload_n 3)]) (pc' := 29) (lv' := [(0, .inr (.inr (-2))), (1, .inr (.inr 0)), (2, .inr (.inr 334)), (3, .inl v3)]) (st' := [.inl v3, .inr (.inr (-2))]) (h' := h) (cs := []) (by decide +kernel) rfl trivial) ?_
      obtain ⟨hc, hF⟩ := gd_of hF
      refine RK.of (RN.xa (by decide +kernel) hc.1.1 hc.1.2) ?_
      refine RK.of (RN.blk (ops := [(30, .bipush 63), (32, .iand)]) (pc' := 33) (lv' := [(0, .inr (.inr (-2))), (1, .inr (.inr 0)), (2, .inr (.inr 334)), (3, .inl v3)]) (st' := [.inl (m_band (xs v3) 63)]) (h' := h) (cs := []) (by decide +kernel) rfl trivial) ?_
      rcases it_of hF with ⟨hb0, hF⟩ | ⟨hb0, hF⟩
      · refine RK.of (fun k9 => RN.tsw (dflt := 1218) (lo := 0) (hi := 38) (offs := #[171, 234, 257, 270, 283, 306, 339, 372, 395, 408, 431, 454, 497, 520, 533, 566, 589, 622, 655, 678, 701, 714, 727, 750, 773, 816, 829, 852, 885, 918, 941, 974, 1017, 1040, 1073, 1096, 1149, 1172, 1195]) (by decide +kernel) (RN.sth hb0 (tgt := 204) rfl k9)) ?_
        refine RK.of (RN.blk (ops := [(204, .aload_n 1), (205, .aload_n 0), (206, .iload_n 3), (207, .iconst 1), (208, .iadd)]) (pc' := 209) (lv' := [(0, .inr (.inr (-2))), (1, .inr (.inr 0)), (2, .inr (.inr 334)), (3, .inl v3)]) (st' := [.inl (m_w32 (v3 + 1)), .inr (.inr (-2)), .inr (.inr 0)]) (h' := h) (cs := []) (by decide +kernel) rfl trivial) ?_
        obtain ⟨hc, hF⟩ := gd_of hF
        refine RK.of (RN.xa (by decide +kernel) hc.1.1 hc.1.2) ?_
        refine RK.of (RN.blk (ops := [(210, .aload_n 0), (211, .iload_n 3), (212, .iconst 2), (213, .iadd)]) (pc' := 214) (lv' := [(0, .inr (.inr (-2))), (1, .inr (.inr 0)), (2, .inr (.inr 334)), (3, .inl v3)]) (st' := [.inl (m_w32 (v3 + 2)), .inr (.inr (-2)), .inl (xs (m_w32 (v3 + 1))), .inr (.inr 0)]) (h' := h) (cs := []) (by decide +kernel) rfl trivial) ?_
        obtain ⟨hc, hF⟩ := gd_of hF
        refine RK.of (RN.xa (by decide +kernel) hc.1.1 hc.1.2) ?_
        refine RK.of (RN.blk (ops := [(215, .aload_n 0), (216, .iload_n 3), (217, .iconst 3), (218, .iadd)]) (pc' := 219) (lv' := [(0, .inr (.inr (-2))), (1, .inr (.inr 0)), (2, .inr (.inr 334)), (3, .inl v3)]) (st' := [.inl (m_w32 (v3 + 3)), .inr (.inr (-2)), .inl (xs (m_w32 (v3 + 2))), .inl (xs (m_w32 (v3 + 1))), .inr (.inr 0)]) (h' := h) (cs := []) (by decide +kernel) rfl trivial) ?_
        obtain ⟨hc, hF⟩ := gd_of hF
        refine RK.of (RN.xa (by decide +kernel) hc.1.1 hc.1.2) ?_
        refine RK.of (RN.blk (ops := [(220, .aload_n 0), (221, .iload_n 3), (222, .iconst 4), (223, .iadd)]) (pc' := 224) (lv' := [(0, .inr (.inr (-2))), (1, .inr (.inr 0)), (2, .inr (.inr 334)), (3, .inl v3)]) (st' := [.inl (m_w32 (v3 + 4)), .inr (.inr (-2)), .inl (xs (m_w32 (v3 + 3))), .inl (xs (m_w32 (v3 + 2))), .inl (xs (m_w32 (v3 + 1))), .inr (.inr 0)]) (h' := h) (cs := []) (by decide +kernel) rfl trivial) ?_
        obtain ⟨hc, hF⟩ := gd_of hF
        refine RK.of (RN.xa (by decide +kernel) hc.1.1 hc.1.2) ?_
        refine RK.of (RN.blk (ops := [(225, .aload_n 0), (226, .iload_n 3), (227, .iconst 5), (228, .iadd)]) (pc' := 229) (lv' := [(0, .inr (.inr (-2))), (1, .inr (.inr 0)), (2, .inr (.inr 334)), (3, .inl v3)]) (st' := [.inl (m_w32 (v3 + 5)), .inr (.inr (-2)), .inl (xs (m_w32 (v3 + 4))), .inl (xs (m_w32 (v3 + 3))), .inl (xs (m_w32 (v3 + 2))), .inl (xs (m_w32 (v3 + 1))), .inr (.inr 0)]) (h' := h) (cs := []) (by decide +kernel) rfl trivial) ?_
        obtain ⟨hc, hF⟩ := gd_of hF
        refine RK.of (RN.xa (by decide +kernel) hc.1.1 hc.1.2) ?_
        obtain ⟨x2, h1, hG, hF⟩ := bd_of hF
        have hq := rcv_ok (as := [.inl (xs (m_w32 (v3 + 1))), .inl (xs (m_w32 (v3 + 2))), .inl (xs (m_w32 (v3 + 3))), .inl (xs (m_w32 (v3 + 4))), .inl (xs (m_w32 (v3 + 5)))]) (TO.gk (o_0 hL))
        obtain ⟨hN, hL, hQ⟩ := DX11_feed (d := 49) hL  hG
        refine RK.of (RN.cv (i := 13) (k := 110) (q2 := iX11_feed) (as := [.inr (.inr 0), .inl (xs (m_w32 (v3 + 1))), .inl (xs (m_w32 (v3 + 2))), .inl (xs (m_w32 (v3 + 3))), .inl (xs (m_w32 (v3 + 4))), .inl (xs (m_w32 (v3 + 5)))]) (r := []) (v := some (.inl x2)) (h1 := h1) (by decide +kernel) rfl rfl rfl rfl rfl hq hN) ?_
        have hK := hK.tr hQ
        refine RK.of (RN.blk (ops := [(233, .aload_n 2), (234, .aload_n 0), (235, .iload_n 3), (236, .iconst 1), (237, .iadd)]) (pc' := 238) (lv' := [(0, .inr (.inr (-2))), (1, .inr (.inr 0)), (2, .inr (.inr 334)), (3, .inl v3)]) (st' := [.inl (m_w32 (v3 + 1)), .inr (.inr (-2)), .inr (.inr 334), .inl x2]) (h' := h1) (cs := []) (by decide +kernel) rfl trivial) ?_
        obtain ⟨hc, hF⟩ := gd_of hF
        refine RK.of (RN.xa (by decide +kernel) hc.1.1 hc.1.2) ?_
        refine RK.of (RN.blk (ops := [(239, .aload_n 0), (240, .iload_n 3), (241, .iconst 2), (242, .iadd)]) (pc' := 243) (lv' := [(0, .inr (.inr (-2))), (1, .inr (.inr 0)), (2, .inr (.inr 334)), (3, .inl v3)]) (st' := [.inl (m_w32 (v3 + 2)), .inr (.inr (-2)), .inl (xs (m_w32 (v3 + 1))), .inr (.inr 334), .inl x2]) (h' := h1) (cs := []) (by decide +kernel) rfl trivial) ?_
        obtain ⟨hc, hF⟩ := gd_of hF
        refine RK.of (RN.xa (by decide +kernel) hc.1.1 hc.1.2) ?_
        refine RK.of (RN.blk (ops := [(244, .aload_n 0), (245, .iload_n 3), (246, .iconst 3), (247, .iadd)]) (pc' := 248) (lv' := [(0, .inr (.inr (-2))), (1, .inr (.inr 0)), (2, .inr (.inr 334)), (3, .inl v3)]) (st' := [.inl (m_w32 (v3 + 3)), .inr (.inr (-2)), .inl (xs (m_w32 (v3 + 2))), .inl (xs (m_w32 (v3 + 1))), .inr (.inr 334), .inl x2]) (h' := h1) (cs := []) (by decide +kernel) rfl trivial) ?_
        obtain ⟨hc, hF⟩ := gd_of hF
        refine RK.of (RN.xa (by decide +kernel) hc.1.1 hc.1.2) ?_
        refine RK.of (RN.blk (ops := [(249, .aload_n 0), (250, .iload_n 3), (251, .iconst 4), (252, .iadd)]) (pc' := 253) (lv' := [(0, .inr (.inr (-2))), (1, .inr (.inr 0)), (2, .inr (.inr 334)), (3, .inl v3)]) (st' := [.inl (m_w32 (v3 + 4)), .inr (.inr (-2)), .inl (xs (m_w32 (v3 + 3))), .inl (xs (m_w32 (v3 + 2))), .inl (xs (m_w32 (v3 + 1))), .inr (.inr 334), .inl x2]) (h' := h1) (cs := []) (by decide +kernel) rfl trivial) ?_
        obtain ⟨hc, hF⟩ := gd_of hF
        refine RK.of (RN.xa (by decide +kernel) hc.1.1 hc.1.2) ?_
        refine RK.of (RN.blk (ops := [(254, .aload_n 0), (255, .iload_n 3), (256, .iconst 5), (257, .iadd)]) (pc' := 258) (lv' := [(0, .inr (.inr (-2))), (1, .inr (.inr 0)), (2, .inr (.inr 334)), (3, .inl v3)]) (st' := [.inl (m_w32 (v3 + 5)), .inr (.inr (-2)), .inl (xs (m_w32 (v3 + 4))), .inl (xs (m_w32 (v3 + 3))), .inl (xs (m_w32 (v3 + 2))), .inl (xs (m_w32 (v3 + 1))), .inr (.inr 334), .inl x2]) (h' := h1) (cs := []) (by decide +kernel) rfl trivial) ?_
        obtain ⟨hc, hF⟩ := gd_of hF
        refine RK.of (RN.xa (by decide +kernel) hc.1.1 hc.1.2) ?_
        obtain ⟨x4, h3, hG, hF⟩ := bd_of hF
        have hq := rcv_ok (as := [.inl (xs (m_w32 (v3 + 1))), .inl (xs (m_w32 (v3 + 2))), .inl (xs (m_w32 (v3 + 3))), .inl (xs (m_w32 (v3 + 4))), .inl (xs (m_w32 (v3 + 5)))]) (TO.gk (o_334 hL))
        obtain ⟨hN, hL, hQ⟩ := DX12_feed (d := 49) hL  hG
        refine RK.of (RN.cv (i := 17) (k := 161) (q2 := iX12_feed) (as := [.inr (.inr 334), .inl (xs (m_w32 (v3 + 1))), .inl (xs (m_w32 (v3 + 2))), .inl (xs (m_w32 (v3 + 3))), .inl (xs (m_w32 (v3 + 4))), .inl (xs (m_w32 (v3 + 5)))]) (r := [.inl x2]) (v := some (.inl x4)) (h1 := h3) (by decide +kernel) rfl rfl rfl rfl rfl hq hN) ?_
        have hK := hK.tr hQ
        rcases it_of hF with ⟨hb, hF⟩ | ⟨hb, hF⟩
        · refine RK.of (RN.ict (cd := .eq) (off := 989) (tgt := 1251) (by decide +kernel) (mif_eq hb)) ?_
          refine RK.of (RN.blk (ops := [(1251, .iinc 3 6)]) (pc' := 1254) (lv' := [(3, .inl (m_w32 (v3 + 6))), (0, .inr (.inr (-2))), (1, .inr (.inr 0)), (2, .inr (.inr 334))]) (st' := []) (h' := h3) (cs := []) (by decide +kernel) rfl trivial) ?_
          refine RK.of (RN.goto (off := -1236) (tgt := 18) (by decide +kernel)) ?_
          exact RK.sub (ih _ _ hL hK hF) (sub_cons rfl (sub_cons rfl (sub_cons rfl (sub_cons rfl sub_nil))))
        · refine RK.of (RN.icf (cd := .eq) (off := 989) (tgt := 1251) (by decide +kernel) (mif_eqn hb)) ?_
          refine RK.of (RN.blk (ops := [(265, .iconst 0)]) (pc' := 266) (lv' := [(0, .inr (.inr (-2))), (1, .inr (.inr 0)), (2, .inr (.inr 334)), (3, .inl v3)]) (st' := [.inl 0]) (h' := h3) (cs := []) (by decide +kernel) rfl trivial) ?_
          exact RK.zR (by decide +kernel) rfl (Or.inl rfl) hL hK hF
      rcases it_of hF with ⟨hb1, hF⟩ | ⟨hb1, hF⟩
      · refine RK.of (fun k9 => RN.tsw (dflt := 1218) (lo := 0) (hi := 38) (offs := #[171, 234, 257, 270, 283, 306, 339, 372, 395, 408, 431, 454, 497, 520, 533, 566, 589, 622, 655, 678, 701, 714, 727, 750, 773, 816, 829, 852, 885, 918, 941, 974, 1017, 1040, 1073, 1096, 1149, 1172, 1195]) (by decide +kernel) (RN.stm hb0 (RN.sth hb1 (tgt := 267) rfl k9))) ?_
        refine RK.of (RN.blk (ops := [(267, .aload_n 1), (268, .aload_n 0), (269, .iload_n 3), (270, .iconst 1), (271, .iadd)]) (pc' := 272) (lv' := [(0, .inr (.inr (-2))), (1, .inr (.inr 0)), (2, .inr (.inr 334)), (3, .inl v3)]) (st' := [.inl (m_w32 (v3 + 1)), .inr (.inr (-2)), .inr (.inr 0)]) (h' := h) (cs := []) (by decide +kernel) rfl trivial) ?_
        obtain ⟨hc, hF⟩ := gd_of hF
        refine RK.of (RN.xa (by decide +kernel) hc.1.1 hc.1.2) ?_
        obtain ⟨x6, h5, hG, hF⟩ := bd_of hF
        have hq := rcv_ok (as := [.inl (xs (m_w32 (v3 + 1)))]) (TO.gk (o_0 hL))
        obtain ⟨hN, hL, hQ⟩ := DX11_end (d := 50) hL  hG
        refine RK.of (RN.cv (i := 18) (k := 111) (q2 := iX11_end) (as := [.inr (.inr 0), .inl (xs (m_w32 (v3 + 1)))]) (r := []) (v := some (.inl x6)) (h1 := h5) (by decide +kernel) rfl rfl rfl rfl rfl hq hN) ?_
        have hK := hK.tr hQ
        refine RK.of (RN.blk (ops := [(276, .aload_n 2), (277, .aload_n 0), (278, .iload_n 3), (279, .iconst 1), (280, .iadd)]) (pc' := 281) (lv' := [(0, .inr (.inr (-2))), (1, .inr (.inr 0)), (2, .inr (.inr 334)), (3, .inl v3)]) (st' := [.inl (m_w32 (v3 + 1)), .inr (.inr (-2)), .inr (.inr 334), .inl x6]) (h' := h5) (cs := []) (by decide +kernel) rfl trivial) ?_
        obtain ⟨hc, hF⟩ := gd_of hF
        refine RK.of (RN.xa (by decide +kernel) hc.1.1 hc.1.2) ?_
        obtain ⟨x8, h7, hG, hF⟩ := bd_of hF
        have hq := rcv_ok (as := [.inl (xs (m_w32 (v3 + 1)))]) (TO.gk (o_334 hL))
        obtain ⟨hN, hL, hQ⟩ := DX12_end (d := 50) hL  hG
        refine RK.of (RN.cv (i := 22) (k := 162) (q2 := iX12_end) (as := [.inr (.inr 334), .inl (xs (m_w32 (v3 + 1)))]) (r := [.inl x6]) (v := some (.inl x8)) (h1 := h7) (by decide +kernel) rfl rfl rfl rfl rfl hq hN) ?_
        have hK := hK.tr hQ
        rcases it_of hF with ⟨hb, hF⟩ | ⟨hb, hF⟩
        · refine RK.of (RN.ict (cd := .eq) (off := 966) (tgt := 1251) (by decide +kernel) (mif_eq hb)) ?_
          refine RK.of (RN.blk (ops := [(1251, .iinc 3 6)]) (pc' := 1254) (lv' := [(3, .inl (m_w32 (v3 + 6))), (0, .inr (.inr (-2))), (1, .inr (.inr 0)), (2, .inr (.inr 334))]) (st' := []) (h' := h7) (cs := []) (by decide +kernel) rfl trivial) ?_
          refine RK.of (RN.goto (off := -1236) (tgt := 18) (by decide +kernel)) ?_
          exact RK.sub (ih _ _ hL hK hF) (sub_cons rfl (sub_cons rfl (sub_cons rfl (sub_cons rfl sub_nil))))
        · refine RK.of (RN.icf (cd := .eq) (off := 966) (tgt := 1251) (by decide +kernel) (mif_eqn hb)) ?_
          refine RK.of (RN.blk (ops := [(288, .iconst 0)]) (pc' := 289) (lv' := [(0, .inr (.inr (-2))), (1, .inr (.inr 0)), (2, .inr (.inr 334)), (3, .inl v3)]) (st' := [.inl 0]) (h' := h7) (cs := []) (by decide +kernel) rfl trivial) ?_
          exact RK.zR (by decide +kernel) rfl (Or.inl rfl) hL hK hF
      rcases it_of hF with ⟨hb2, hF⟩ | ⟨hb2, hF⟩
      · refine RK.of (fun k9 => RN.tsw (dflt := 1218) (lo := 0) (hi := 38) (offs := #[171, 234, 257, 270, 283, 306, 339, 372, 395, 408, 431, 454, 497, 520, 533, 566, 589, 622, 655, 678, 701, 714, 727, 750, 773, 816, 829, 852, 885, 918, 941, 974, 1017, 1040, 1073, 1096, 1149, 1172, 1195]) (by decide +kernel) (RN.stm hb0 (RN.stm hb1 (RN.sth hb2 (tgt := 290) rfl k9)))) ?_
        refine RK.of (RN.blk (ops := [(290, .aload_n 1)]) (pc' := 291) (lv' := [(0, .inr (.inr (-2))), (1, .inr (.inr 0)), (2, .inr (.inr 334)), (3, .inl v3)]) (st' := [.inr (.inr 0)]) (h' := h) (cs := []) (by decide +kernel) rfl trivial) ?_
        obtain ⟨x10, h9, hG, hF⟩ := bd_of hF
        have hq := rcv_ok (as := []) (TO.gk (o_0 hL))
        obtain ⟨hN, hL, hQ⟩ := DX11_frame (d := 40) hL  hG
        refine RK.of (RN.cv (i := 23) (k := 112) (q2 := iX11_frame) (as := [.inr (.inr 0)]) (r := []) (v := some (.inl x10)) (h1 := h9) (by decide +kernel) rfl rfl rfl rfl rfl hq hN) ?_
        have hK := hK.tr hQ
        refine RK.of (RN.blk (ops := [(294, .aload_n 2)]) (pc' := 295) (lv' := [(0, .inr (.inr (-2))), (1, .inr (.inr 0)), (2, .inr (.inr 334)), (3, .inl v3)]) (st' := [.inr (.inr 334), .inl x10]) (h' := h9) (cs := []) (by decide +kernel) rfl trivial) ?_
        obtain ⟨x12, h11, hG, hF⟩ := bd_of hF
        have hq := rcv_ok (as := []) (TO.gk (o_334 hL))
        obtain ⟨hN, hL, hQ⟩ := DX12_frame (d := 38) hL  hG
        refine RK.of (RN.cv (i := 27) (k := 196) (q2 := iX12_frame) (as := [.inr (.inr 334)]) (r := [.inl x10]) (v := some (.inl x12)) (h1 := h11) (by decide +kernel) rfl rfl rfl rfl rfl hq hN) ?_
        have hK := hK.tr hQ
        rcases it_of hF with ⟨hb, hF⟩ | ⟨hb, hF⟩
        · refine RK.of (RN.ict (cd := .eq) (off := 953) (tgt := 1251) (by decide +kernel) (mif_eq hb)) ?_
          refine RK.of (RN.blk (ops := [(1251, .iinc 3 6)]) (pc' := 1254) (lv' := [(3, .inl (m_w32 (v3 + 6))), (0, .inr (.inr (-2))), (1, .inr (.inr 0)), (2, .inr (.inr 334))]) (st' := []) (h' := h11) (cs := []) (by decide +kernel) rfl trivial) ?_
          refine RK.of (RN.goto (off := -1236) (tgt := 18) (by decide +kernel)) ?_
          exact RK.sub (ih _ _ hL hK hF) (sub_cons rfl (sub_cons rfl (sub_cons rfl (sub_cons rfl sub_nil))))
        · refine RK.of (RN.icf (cd := .eq) (off := 953) (tgt := 1251) (by decide +kernel) (mif_eqn hb)) ?_
          refine RK.of (RN.blk (ops := [(301, .iconst 0)]) (pc' := 302) (lv' := [(0, .inr (.inr (-2))), (1, .inr (.inr 0)), (2, .inr (.inr 334)), (3, .inl v3)]) (st' := [.inl 0]) (h' := h11) (cs := []) (by decide +kernel) rfl trivial) ?_
          exact RK.zR (by decide +kernel) rfl (Or.inl rfl) hL hK hF
      rcases it_of hF with ⟨hb3, hF⟩ | ⟨hb3, hF⟩
      · refine RK.of (fun k9 => RN.tsw (dflt := 1218) (lo := 0) (hi := 38) (offs := #[171, 234, 257, 270, 283, 306, 339, 372, 395, 408, 431, 454, 497, 520, 533, 566, 589, 622, 655, 678, 701, 714, 727, 750, 773, 816, 829, 852, 885, 918, 941, 974, 1017, 1040, 1073, 1096, 1149, 1172, 1195]) (by decide +kernel) (RN.stm hb0 (RN.stm hb1 (RN.stm hb2 (RN.sth hb3 (tgt := 303) rfl k9))))) ?_
        refine RK.of (RN.blk (ops := [(303, .aload_n 1)]) (pc' := 304) (lv' := [(0, .inr (.inr (-2))), (1, .inr (.inr 0)), (2, .inr (.inr 334)), (3, .inl v3)]) (st' := [.inr (.inr 0)]) (h' := h) (cs := []) (by decide +kernel) rfl trivial) ?_
        obtain ⟨x14, h13, hG, hF⟩ := bd_of hF
        have hq := rcv_ok (as := []) (TO.gk (o_0 hL))
        obtain ⟨hN, hL, hQ⟩ := hR_RU _ _ hL hG
        refine RK.of (RN.cv (i := 28) (k := 113) (q2 := iX11_rule) (as := [.inr (.inr 0)]) (r := []) (v := some (.inl x14)) (h1 := h13) (by decide +kernel) rfl rfl rfl rfl rfl hq hN) ?_
        have hK := hK.tr hQ
        refine RK.of (RN.blk (ops := [(307, .aload_n 2)]) (pc' := 308) (lv' := [(0, .inr (.inr (-2))), (1, .inr (.inr 0)), (2, .inr (.inr 334)), (3, .inl v3)]) (st' := [.inr (.inr 334), .inl x14]) (h' := h13) (cs := []) (by decide +kernel) rfl trivial) ?_
        obtain ⟨x16, h15, hG, hF⟩ := bd_of hF
        have hq := rcv_ok (as := []) (TO.gk (o_334 hL))
        obtain ⟨hN, hL, hQ⟩ := DX12_rule (d := 38) hL  hG
        refine RK.of (RN.cv (i := 31) (k := 195) (q2 := iX12_rule) (as := [.inr (.inr 334)]) (r := [.inl x14]) (v := some (.inl x16)) (h1 := h15) (by decide +kernel) rfl rfl rfl rfl rfl hq hN) ?_
        have hK := hK.tr hQ
        rcases it_of hF with ⟨hb, hF⟩ | ⟨hb, hF⟩
        · refine RK.of (RN.ict (cd := .eq) (off := 940) (tgt := 1251) (by decide +kernel) (mif_eq hb)) ?_
          refine RK.of (RN.blk (ops := [(1251, .iinc 3 6)]) (pc' := 1254) (lv' := [(3, .inl (m_w32 (v3 + 6))), (0, .inr (.inr (-2))), (1, .inr (.inr 0)), (2, .inr (.inr 334))]) (st' := []) (h' := h15) (cs := []) (by decide +kernel) rfl trivial) ?_
          refine RK.of (RN.goto (off := -1236) (tgt := 18) (by decide +kernel)) ?_
          exact RK.sub (ih _ _ hL hK hF) (sub_cons rfl (sub_cons rfl (sub_cons rfl (sub_cons rfl sub_nil))))
        · refine RK.of (RN.icf (cd := .eq) (off := 940) (tgt := 1251) (by decide +kernel) (mif_eqn hb)) ?_
          refine RK.of (RN.blk (ops := [(314, .iconst 0)]) (pc' := 315) (lv' := [(0, .inr (.inr (-2))), (1, .inr (.inr 0)), (2, .inr (.inr 334)), (3, .inl v3)]) (st' := [.inl 0]) (h' := h15) (cs := []) (by decide +kernel) rfl trivial) ?_
          exact RK.zR (by decide +kernel) rfl (Or.inl rfl) hL hK hF
      rcases it_of hF with ⟨hb4, hF⟩ | ⟨hb4, hF⟩
      · refine RK.of (fun k9 => RN.tsw (dflt := 1218) (lo := 0) (hi := 38) (offs := #[171, 234, 257, 270, 283, 306, 339, 372, 395, 408, 431, 454, 497, 520, 533, 566, 589, 622, 655, 678, 701, 714, 727, 750, 773, 816, 829, 852, 885, 918, 941, 974, 1017, 1040, 1073, 1096, 1149, 1172, 1195]) (by decide +kernel) (RN.stm hb0 (RN.stm hb1 (RN.stm hb2 (RN.stm hb3 (RN.sth hb4 (tgt := 316) rfl k9)))))) ?_
        refine RK.of (RN.blk (ops := [(316, .aload_n 1), (317, .aload_n 0), (318, .iload_n 3), (319, .iconst 1), (320, .iadd)]) (pc' := 321) (lv' := [(0, .inr (.inr (-2))), (1, .inr (.inr 0)), (2, .inr (.inr 334)), (3, .inl v3)]) (st' := [.inl (m_w32 (v3 + 1)), .inr (.inr (-2)), .inr (.inr 0)]) (h' := h) (cs := []) (by decide +kernel) rfl trivial) ?_
        obtain ⟨hc, hF⟩ := gd_of hF
        refine RK.of (RN.xa (by decide +kernel) hc.1.1 hc.1.2) ?_
        obtain ⟨x18, h17, hG, hF⟩ := bd_of hF
        have hq := rcv_ok (as := [.inl (xs (m_w32 (v3 + 1)))]) (TO.gk (o_0 hL))
        obtain ⟨hN, hL, hQ⟩ := DX11_force (d := 50) hL  hG
        refine RK.of (RN.cv (i := 32) (k := 114) (q2 := iX11_force) (as := [.inr (.inr 0), .inl (xs (m_w32 (v3 + 1)))]) (r := []) (v := some (.inl x18)) (h1 := h17) (by decide +kernel) rfl rfl rfl rfl rfl hq hN) ?_
        have hK := hK.tr hQ
        refine RK.of (RN.blk (ops := [(325, .aload_n 2), (326, .aload_n 0), (327, .iload_n 3), (328, .iconst 1), (329, .iadd)]) (pc' := 330) (lv' := [(0, .inr (.inr (-2))), (1, .inr (.inr 0)), (2, .inr (.inr 334)), (3, .inl v3)]) (st' := [.inl (m_w32 (v3 + 1)), .inr (.inr (-2)), .inr (.inr 334), .inl x18]) (h' := h17) (cs := []) (by decide +kernel) rfl trivial) ?_
        obtain ⟨hc, hF⟩ := gd_of hF
        refine RK.of (RN.xa (by decide +kernel) hc.1.1 hc.1.2) ?_
        obtain ⟨x20, h19, hG, hF⟩ := bd_of hF
        have hq := rcv_ok (as := [.inl (xs (m_w32 (v3 + 1)))]) (TO.gk (o_334 hL))
        obtain ⟨hN, hL, hQ⟩ := DX12_force (d := 49) hL  hG
        refine RK.of (RN.cv (i := 35) (k := 212) (q2 := iX12_force) (as := [.inr (.inr 334), .inl (xs (m_w32 (v3 + 1)))]) (r := [.inl x18]) (v := some (.inl x20)) (h1 := h19) (by decide +kernel) rfl rfl rfl rfl rfl hq hN) ?_
        have hK := hK.tr hQ
        rcases it_of hF with ⟨hb, hF⟩ | ⟨hb, hF⟩
        · refine RK.of (RN.ict (cd := .eq) (off := 917) (tgt := 1251) (by decide +kernel) (mif_eq hb)) ?_
          refine RK.of (RN.blk (ops := [(1251, .iinc 3 6)]) (pc' := 1254) (lv' := [(3, .inl (m_w32 (v3 + 6))), (0, .inr (.inr (-2))), (1, .inr (.inr 0)), (2, .inr (.inr 334))]) (st' := []) (h' := h19) (cs := []) (by decide +kernel) rfl trivial) ?_
          refine RK.of (RN.goto (off := -1236) (tgt := 18) (by decide +kernel)) ?_
          exact RK.sub (ih _ _ hL hK hF) (sub_cons rfl (sub_cons rfl (sub_cons rfl (sub_cons rfl sub_nil))))
        · refine RK.of (RN.icf (cd := .eq) (off := 917) (tgt := 1251) (by decide +kernel) (mif_eqn hb)) ?_
          refine RK.of (RN.blk (ops := [(337, .iconst 0)]) (pc' := 338) (lv' := [(0, .inr (.inr (-2))), (1, .inr (.inr 0)), (2, .inr (.inr 334)), (3, .inl v3)]) (st' := [.inl 0]) (h' := h19) (cs := []) (by decide +kernel) rfl trivial) ?_
          exact RK.zR (by decide +kernel) rfl (Or.inl rfl) hL hK hF
      rcases it_of hF with ⟨hb5, hF⟩ | ⟨hb5, hF⟩
      · refine RK.of (fun k9 => RN.tsw (dflt := 1218) (lo := 0) (hi := 38) (offs := #[171, 234, 257, 270, 283, 306, 339, 372, 395, 408, 431, 454, 497, 520, 533, 566, 589, 622, 655, 678, 701, 714, 727, 750, 773, 816, 829, 852, 885, 918, 941, 974, 1017, 1040, 1073, 1096, 1149, 1172, 1195]) (by decide +kernel) (RN.stm hb0 (RN.stm hb1 (RN.stm hb2 (RN.stm hb3 (RN.stm hb4 (RN.sth hb5 (tgt := 339) rfl k9))))))) ?_
        refine RK.of (RN.blk (ops := [(339, .aload_n 1), (340, .aload_n 0), (341, .iload_n 3), (342, .iconst 1), (343, .iadd)]) (pc' := 344) (lv' := [(0, .inr (.inr (-2))), (1, .inr (.inr 0)), (2, .inr (.inr 334)), (3, .inl v3)]) (st' := [.inl (m_w32 (v3 + 1)), .inr (.inr (-2)), .inr (.inr 0)]) (h' := h) (cs := []) (by decide +kernel) rfl trivial) ?_
        obtain ⟨hc, hF⟩ := gd_of hF
        refine RK.of (RN.xa (by decide +kernel) hc.1.1 hc.1.2) ?_
        refine RK.of (RN.blk (ops := [(345, .aload_n 0), (346, .iload_n 3), (347, .iconst 2), (348, .iadd)]) (pc' := 349) (lv' := [(0, .inr (.inr (-2))), (1, .inr (.inr 0)), (2, .inr (.inr 334)), (3, .inl v3)]) (st' := [.inl (m_w32 (v3 + 2)), .inr (.inr (-2)), .inl (xs (m_w32 (v3 + 1))), .inr (.inr 0)]) (h' := h) (cs := []) (by decide +kernel) rfl trivial) ?_
        obtain ⟨hc, hF⟩ := gd_of hF
        refine RK.of (RN.xa (by decide +kernel) hc.1.1 hc.1.2) ?_
        obtain ⟨x22, h21, hG, hF⟩ := bd_of hF
        have hq := rcv_ok (as := [.inl (xs (m_w32 (v3 + 1))), .inl (xs (m_w32 (v3 + 2)))]) (TO.gk (o_0 hL))
        obtain ⟨hN, hL, hQ⟩ := DX11_hole (d := 49) hL  hG
        refine RK.of (RN.cv (i := 36) (k := 115) (q2 := iX11_hole) (as := [.inr (.inr 0), .inl (xs (m_w32 (v3 + 1))), .inl (xs (m_w32 (v3 + 2)))]) (r := []) (v := some (.inl x22)) (h1 := h21) (by decide +kernel) rfl rfl rfl rfl rfl hq hN) ?_
        have hK := hK.tr hQ
        refine RK.of (RN.blk (ops := [(353, .aload_n 2), (354, .aload_n 0), (355, .iload_n 3), (356, .iconst 1), (357, .iadd)]) (pc' := 358) (lv' := [(0, .inr (.inr (-2))), (1, .inr (.inr 0)), (2, .inr (.inr 334)), (3, .inl v3)]) (st' := [.inl (m_w32 (v3 + 1)), .inr (.inr (-2)), .inr (.inr 334), .inl x22]) (h' := h21) (cs := []) (by decide +kernel) rfl trivial) ?_
        obtain ⟨hc, hF⟩ := gd_of hF
        refine RK.of (RN.xa (by decide +kernel) hc.1.1 hc.1.2) ?_
        refine RK.of (RN.blk (ops := [(359, .aload_n 0), (360, .iload_n 3), (361, .iconst 2), (362, .iadd)]) (pc' := 363) (lv' := [(0, .inr (.inr (-2))), (1, .inr (.inr 0)), (2, .inr (.inr 334)), (3, .inl v3)]) (st' := [.inl (m_w32 (v3 + 2)), .inr (.inr (-2)), .inl (xs (m_w32 (v3 + 1))), .inr (.inr 334), .inl x22]) (h' := h21) (cs := []) (by decide +kernel) rfl trivial) ?_
        obtain ⟨hc, hF⟩ := gd_of hF
        refine RK.of (RN.xa (by decide +kernel) hc.1.1 hc.1.2) ?_
        obtain ⟨x24, h23, hG, hF⟩ := bd_of hF
        have hq := rcv_ok (as := [.inl (xs (m_w32 (v3 + 1))), .inl (xs (m_w32 (v3 + 2)))]) (TO.gk (o_334 hL))
        obtain ⟨hN, hL, hQ⟩ := DX12_hole (d := 49) hL  hG
        refine RK.of (RN.cv (i := 40) (k := 213) (q2 := iX12_hole) (as := [.inr (.inr 334), .inl (xs (m_w32 (v3 + 1))), .inl (xs (m_w32 (v3 + 2)))]) (r := [.inl x22]) (v := some (.inl x24)) (h1 := h23) (by decide +kernel) rfl rfl rfl rfl rfl hq hN) ?_
        have hK := hK.tr hQ
        rcases it_of hF with ⟨hb, hF⟩ | ⟨hb, hF⟩
        · refine RK.of (RN.ict (cd := .eq) (off := 884) (tgt := 1251) (by decide +kernel) (mif_eq hb)) ?_
          refine RK.of (RN.blk (ops := [(1251, .iinc 3 6)]) (pc' := 1254) (lv' := [(3, .inl (m_w32 (v3 + 6))), (0, .inr (.inr (-2))), (1, .inr (.inr 0)), (2, .inr (.inr 334))]) (st' := []) (h' := h23) (cs := []) (by decide +kernel) rfl trivial) ?_
          refine RK.of (RN.goto (off := -1236) (tgt := 18) (by decide +kernel)) ?_
          exact RK.sub (ih _ _ hL hK hF) (sub_cons rfl (sub_cons rfl (sub_cons rfl (sub_cons rfl sub_nil))))
        · refine RK.of (RN.icf (cd := .eq) (off := 884) (tgt := 1251) (by decide +kernel) (mif_eqn hb)) ?_
          refine RK.of (RN.blk (ops := [(370, .iconst 0)]) (pc' := 371) (lv' := [(0, .inr (.inr (-2))), (1, .inr (.inr 0)), (2, .inr (.inr 334)), (3, .inl v3)]) (st' := [.inl 0]) (h' := h23) (cs := []) (by decide +kernel) rfl trivial) ?_
          exact RK.zR (by decide +kernel) rfl (Or.inl rfl) hL hK hF
      rcases it_of hF with ⟨hb6, hF⟩ | ⟨hb6, hF⟩
      · refine RK.of (fun k9 => RN.tsw (dflt := 1218) (lo := 0) (hi := 38) (offs := #[171, 234, 257, 270, 283, 306, 339, 372, 395, 408, 431, 454, 497, 520, 533, 566, 589, 622, 655, 678, 701, 714, 727, 750, 773, 816, 829, 852, 885, 918, 941, 974, 1017, 1040, 1073, 1096, 1149, 1172, 1195]) (by decide +kernel) (RN.stm hb0 (RN.stm hb1 (RN.stm hb2 (RN.stm hb3 (RN.stm hb4 (RN.stm hb5 (RN.sth hb6 (tgt := 372) rfl k9)))))))) ?_
        refine RK.of (RN.blk (ops := [(372, .aload_n 1), (373, .aload_n 0), (374, .iload_n 3), (375, .iconst 1), (376, .iadd)]) (pc' := 377) (lv' := [(0, .inr (.inr (-2))), (1, .inr (.inr 0)), (2, .inr (.inr 334)), (3, .inl v3)]) (st' := [.inl (m_w32 (v3 + 1)), .inr (.inr (-2)), .inr (.inr 0)]) (h' := h) (cs := []) (by decide +kernel) rfl trivial) ?_
        obtain ⟨hc, hF⟩ := gd_of hF
        refine RK.of (RN.xa (by decide +kernel) hc.1.1 hc.1.2) ?_
        refine RK.of (RN.blk (ops := [(378, .aload_n 0), (379, .iload_n 3), (380, .iconst 2), (381, .iadd)]) (pc' := 382) (lv' := [(0, .inr (.inr (-2))), (1, .inr (.inr 0)), (2, .inr (.inr 334)), (3, .inl v3)]) (st' := [.inl (m_w32 (v3 + 2)), .inr (.inr (-2)), .inl (xs (m_w32 (v3 + 1))), .inr (.inr 0)]) (h' := h) (cs := []) (by decide +kernel) rfl trivial) ?_
        obtain ⟨hc, hF⟩ := gd_of hF
        refine RK.of (RN.xa (by decide +kernel) hc.1.1 hc.1.2) ?_
        obtain ⟨x26, h25, hG, hF⟩ := bd_of hF
        have hq := rcv_ok (as := [.inl (xs (m_w32 (v3 + 1))), .inl (xs (m_w32 (v3 + 2)))]) (TO.gk (o_0 hL))
        obtain ⟨hN, hL, hQ⟩ := DX11_entry (d := 49) hL  hG
        refine RK.of (RN.cv (i := 41) (k := 116) (q2 := iX11_entry) (as := [.inr (.inr 0), .inl (xs (m_w32 (v3 + 1))), .inl (xs (m_w32 (v3 + 2)))]) (r := []) (v := some (.inl x26)) (h1 := h25) (by decide +kernel) rfl rfl rfl rfl rfl hq hN) ?_
        have hK := hK.tr hQ
        refine RK.of (RN.blk (ops := [(386, .aload_n 2), (387, .aload_n 0), (388, .iload_n 3), (389, .iconst 1), (390, .iadd)]) (pc' := 391) (lv' := [(0, .inr (.inr (-2))), (1, .inr (.inr 0)), (2, .inr (.inr 334)), (3, .inl v3)]) (st' := [.inl (m_w32 (v3 + 1)), .inr (.inr (-2)), .inr (.inr 334), .inl x26]) (h' := h25) (cs := []) (by decide +kernel) rfl trivial) ?_
        obtain ⟨hc, hF⟩ := gd_of hF
        refine RK.of (RN.xa (by decide +kernel) hc.1.1 hc.1.2) ?_
        refine RK.of (RN.blk (ops := [(392, .aload_n 0), (393, .iload_n 3), (394, .iconst 2), (395, .iadd)]) (pc' := 396) (lv' := [(0, .inr (.inr (-2))), (1, .inr (.inr 0)), (2, .inr (.inr 334)), (3, .inl v3)]) (st' := [.inl (m_w32 (v3 + 2)), .inr (.inr (-2)), .inl (xs (m_w32 (v3 + 1))), .inr (.inr 334), .inl x26]) (h' := h25) (cs := []) (by decide +kernel) rfl trivial) ?_
        obtain ⟨hc, hF⟩ := gd_of hF
        refine RK.of (RN.xa (by decide +kernel) hc.1.1 hc.1.2) ?_
        obtain ⟨x28, h27, hG, hF⟩ := bd_of hF
        have hq := rcv_ok (as := [.inl (xs (m_w32 (v3 + 1))), .inl (xs (m_w32 (v3 + 2)))]) (TO.gk (o_334 hL))
        obtain ⟨hN, hL, hQ⟩ := DX12_entry (d := 49) hL  hG
        refine RK.of (RN.cv (i := 44) (k := 214) (q2 := iX12_entry) (as := [.inr (.inr 334), .inl (xs (m_w32 (v3 + 1))), .inl (xs (m_w32 (v3 + 2)))]) (r := [.inl x26]) (v := some (.inl x28)) (h1 := h27) (by decide +kernel) rfl rfl rfl rfl rfl hq hN) ?_
        have hK := hK.tr hQ
        rcases it_of hF with ⟨hb, hF⟩ | ⟨hb, hF⟩
        · refine RK.of (RN.ict (cd := .eq) (off := 851) (tgt := 1251) (by decide +kernel) (mif_eq hb)) ?_
          refine RK.of (RN.blk (ops := [(1251, .iinc 3 6)]) (pc' := 1254) (lv' := [(3, .inl (m_w32 (v3 + 6))), (0, .inr (.inr (-2))), (1, .inr (.inr 0)), (2, .inr (.inr 334))]) (st' := []) (h' := h27) (cs := []) (by decide +kernel) rfl trivial) ?_
          refine RK.of (RN.goto (off := -1236) (tgt := 18) (by decide +kernel)) ?_
          exact RK.sub (ih _ _ hL hK hF) (sub_cons rfl (sub_cons rfl (sub_cons rfl (sub_cons rfl sub_nil))))
        · refine RK.of (RN.icf (cd := .eq) (off := 851) (tgt := 1251) (by decide +kernel) (mif_eqn hb)) ?_
          refine RK.of (RN.blk (ops := [(403, .iconst 0)]) (pc' := 404) (lv' := [(0, .inr (.inr (-2))), (1, .inr (.inr 0)), (2, .inr (.inr 334)), (3, .inl v3)]) (st' := [.inl 0]) (h' := h27) (cs := []) (by decide +kernel) rfl trivial) ?_
          exact RK.zR (by decide +kernel) rfl (Or.inl rfl) hL hK hF
      rcases it_of hF with ⟨hb7, hF⟩ | ⟨hb7, hF⟩
      · refine RK.of (fun k9 => RN.tsw (dflt := 1218) (lo := 0) (hi := 38) (offs := #[171, 234, 257, 270, 283, 306, 339, 372, 395, 408, 431, 454, 497, 520, 533, 566, 589, 622, 655, 678, 701, 714, 727, 750, 773, 816, 829, 852, 885, 918, 941, 974, 1017, 1040, 1073, 1096, 1149, 1172, 1195]) (by decide +kernel) (RN.stm hb0 (RN.stm hb1 (RN.stm hb2 (RN.stm hb3 (RN.stm hb4 (RN.stm hb5 (RN.stm hb6 (RN.sth hb7 (tgt := 405) rfl k9))))))))) ?_
        refine RK.of (RN.blk (ops := [(405, .aload_n 1), (406, .aload_n 0), (407, .iload_n 3), (408, .iconst 1), (409, .iadd)]) (pc' := 410) (lv' := [(0, .inr (.inr (-2))), (1, .inr (.inr 0)), (2, .inr (.inr 334)), (3, .inl v3)]) (st' := [.inl (m_w32 (v3 + 1)), .inr (.inr (-2)), .inr (.inr 0)]) (h' := h) (cs := []) (by decide +kernel) rfl trivial) ?_
        obtain ⟨hc, hF⟩ := gd_of hF
        refine RK.of (RN.xa (by decide +kernel) hc.1.1 hc.1.2) ?_
        obtain ⟨x30, h29, hG, hF⟩ := bd_of hF
        have hq := rcv_ok (as := [.inl (xs (m_w32 (v3 + 1)))]) (TO.gk (o_0 hL))
        obtain ⟨hN, hL, hQ⟩ := DX11_waits (d := 50) hL  hG
        refine RK.of (RN.cv (i := 45) (k := 117) (q2 := iX11_waits) (as := [.inr (.inr 0), .inl (xs (m_w32 (v3 + 1)))]) (r := []) (v := some (.inl x30)) (h1 := h29) (by decide +kernel) rfl rfl rfl rfl rfl hq hN) ?_
        have hK := hK.tr hQ
        refine RK.of (RN.blk (ops := [(414, .aload_n 2), (415, .aload_n 0), (416, .iload_n 3), (417, .iconst 1), (418, .iadd)]) (pc' := 419) (lv' := [(0, .inr (.inr (-2))), (1, .inr (.inr 0)), (2, .inr (.inr 334)), (3, .inl v3)]) (st' := [.inl (m_w32 (v3 + 1)), .inr (.inr (-2)), .inr (.inr 334), .inl x30]) (h' := h29) (cs := []) (by decide +kernel) rfl trivial) ?_
        obtain ⟨hc, hF⟩ := gd_of hF
        refine RK.of (RN.xa (by decide +kernel) hc.1.1 hc.1.2) ?_
        obtain ⟨x32, h31, hG, hF⟩ := bd_of hF
        have hq := rcv_ok (as := [.inl (xs (m_w32 (v3 + 1)))]) (TO.gk (o_334 hL))
        obtain ⟨hN, hL, hQ⟩ := DX12_waits (d := 50) hL  hG
        refine RK.of (RN.cv (i := 48) (k := 215) (q2 := iX12_waits) (as := [.inr (.inr 334), .inl (xs (m_w32 (v3 + 1)))]) (r := [.inl x30]) (v := some (.inl x32)) (h1 := h31) (by decide +kernel) rfl rfl rfl rfl rfl hq hN) ?_
        have hK := hK.tr hQ
        rcases it_of hF with ⟨hb, hF⟩ | ⟨hb, hF⟩
        · refine RK.of (RN.ict (cd := .eq) (off := 828) (tgt := 1251) (by decide +kernel) (mif_eq hb)) ?_
          refine RK.of (RN.blk (ops := [(1251, .iinc 3 6)]) (pc' := 1254) (lv' := [(3, .inl (m_w32 (v3 + 6))), (0, .inr (.inr (-2))), (1, .inr (.inr 0)), (2, .inr (.inr 334))]) (st' := []) (h' := h31) (cs := []) (by decide +kernel) rfl trivial) ?_
          refine RK.of (RN.goto (off := -1236) (tgt := 18) (by decide +kernel)) ?_
          exact RK.sub (ih _ _ hL hK hF) (sub_cons rfl (sub_cons rfl (sub_cons rfl (sub_cons rfl sub_nil))))
        · refine RK.of (RN.icf (cd := .eq) (off := 828) (tgt := 1251) (by decide +kernel) (mif_eqn hb)) ?_
          refine RK.of (RN.blk (ops := [(426, .iconst 0)]) (pc' := 427) (lv' := [(0, .inr (.inr (-2))), (1, .inr (.inr 0)), (2, .inr (.inr 334)), (3, .inl v3)]) (st' := [.inl 0]) (h' := h31) (cs := []) (by decide +kernel) rfl trivial) ?_
          exact RK.zR (by decide +kernel) rfl (Or.inl rfl) hL hK hF
      rcases it_of hF with ⟨hb8, hF⟩ | ⟨hb8, hF⟩
      · refine RK.of (fun k9 => RN.tsw (dflt := 1218) (lo := 0) (hi := 38) (offs := #[171, 234, 257, 270, 283, 306, 339, 372, 395, 408, 431, 454, 497, 520, 533, 566, 589, 622, 655, 678, 701, 714, 727, 750, 773, 816, 829, 852, 885, 918, 941, 974, 1017, 1040, 1073, 1096, 1149, 1172, 1195]) (by decide +kernel) (RN.stm hb0 (RN.stm hb1 (RN.stm hb2 (RN.stm hb3 (RN.stm hb4 (RN.stm hb5 (RN.stm hb6 (RN.stm hb7 (RN.sth hb8 (tgt := 428) rfl k9)))))))))) ?_
        refine RK.of (RN.blk (ops := [(428, .aload_n 1)]) (pc' := 429) (lv' := [(0, .inr (.inr (-2))), (1, .inr (.inr 0)), (2, .inr (.inr 334)), (3, .inl v3)]) (st' := [.inr (.inr 0)]) (h' := h) (cs := []) (by decide +kernel) rfl trivial) ?_
        obtain ⟨x34, h33, hG, hF⟩ := bd_of hF
        have hq := rcv_ok (as := []) (TO.gk (o_0 hL))
        obtain ⟨hN, hL, hQ⟩ := DX11_turn (d := 45) hL  hG
        refine RK.of (RN.cv (i := 49) (k := 119) (q2 := iX11_turn) (as := [.inr (.inr 0)]) (r := []) (v := some (.inl x34)) (h1 := h33) (by decide +kernel) rfl rfl rfl rfl rfl hq hN) ?_
        have hK := hK.tr hQ
        refine RK.of (RN.blk (ops := [(432, .aload_n 2)]) (pc' := 433) (lv' := [(0, .inr (.inr (-2))), (1, .inr (.inr 0)), (2, .inr (.inr 334)), (3, .inl v3)]) (st' := [.inr (.inr 334), .inl x34]) (h' := h33) (cs := []) (by decide +kernel) rfl trivial) ?_
        obtain ⟨x36, h35, hG, hF⟩ := bd_of hF
        have hq := rcv_ok (as := []) (TO.gk (o_334 hL))
        obtain ⟨hN, hL, hQ⟩ := DX12_turn (d := 43) hL  hG
        refine RK.of (RN.cv (i := 52) (k := 226) (q2 := iX12_turn) (as := [.inr (.inr 334)]) (r := [.inl x34]) (v := some (.inl x36)) (h1 := h35) (by decide +kernel) rfl rfl rfl rfl rfl hq hN) ?_
        have hK := hK.tr hQ
        rcases it_of hF with ⟨hb, hF⟩ | ⟨hb, hF⟩
        · refine RK.of (RN.ict (cd := .eq) (off := 815) (tgt := 1251) (by decide +kernel) (mif_eq hb)) ?_
          refine RK.of (RN.blk (ops := [(1251, .iinc 3 6)]) (pc' := 1254) (lv' := [(3, .inl (m_w32 (v3 + 6))), (0, .inr (.inr (-2))), (1, .inr (.inr 0)), (2, .inr (.inr 334))]) (st' := []) (h' := h35) (cs := []) (by decide +kernel) rfl trivial) ?_
          refine RK.of (RN.goto (off := -1236) (tgt := 18) (by decide +kernel)) ?_
          exact RK.sub (ih _ _ hL hK hF) (sub_cons rfl (sub_cons rfl (sub_cons rfl (sub_cons rfl sub_nil))))
        · refine RK.of (RN.icf (cd := .eq) (off := 815) (tgt := 1251) (by decide +kernel) (mif_eqn hb)) ?_
          refine RK.of (RN.blk (ops := [(439, .iconst 0)]) (pc' := 440) (lv' := [(0, .inr (.inr (-2))), (1, .inr (.inr 0)), (2, .inr (.inr 334)), (3, .inl v3)]) (st' := [.inl 0]) (h' := h35) (cs := []) (by decide +kernel) rfl trivial) ?_
          exact RK.zR (by decide +kernel) rfl (Or.inl rfl) hL hK hF
      rcases it_of hF with ⟨hb9, hF⟩ | ⟨hb9, hF⟩
      · refine RK.of (fun k9 => RN.tsw (dflt := 1218) (lo := 0) (hi := 38) (offs := #[171, 234, 257, 270, 283, 306, 339, 372, 395, 408, 431, 454, 497, 520, 533, 566, 589, 622, 655, 678, 701, 714, 727, 750, 773, 816, 829, 852, 885, 918, 941, 974, 1017, 1040, 1073, 1096, 1149, 1172, 1195]) (by decide +kernel) (RN.stm hb0 (RN.stm hb1 (RN.stm hb2 (RN.stm hb3 (RN.stm hb4 (RN.stm hb5 (RN.stm hb6 (RN.stm hb7 (RN.stm hb8 (RN.sth hb9 (tgt := 441) rfl k9))))))))))) ?_
        refine RK.of (RN.blk (ops := [(441, .aload_n 1), (442, .aload_n 0), (443, .iload_n 3), (444, .iconst 1), (445, .iadd)]) (pc' := 446) (lv' := [(0, .inr (.inr (-2))), (1, .inr (.inr 0)), (2, .inr (.inr 334)), (3, .inl v3)]) (st' := [.inl (m_w32 (v3 + 1)), .inr (.inr (-2)), .inr (.inr 0)]) (h' := h) (cs := []) (by decide +kernel) rfl trivial) ?_
        obtain ⟨hc, hF⟩ := gd_of hF
        refine RK.of (RN.xa (by decide +kernel) hc.1.1 hc.1.2) ?_
        obtain ⟨x38, h37, hG, hF⟩ := bd_of hF
        have hq := rcv_ok (as := [.inl (xs (m_w32 (v3 + 1)))]) (TO.gk (o_0 hL))
        obtain ⟨hN, hL, hQ⟩ := DX11_post (d := 46) hL  hG
        refine RK.of (RN.cv (i := 53) (k := 120) (q2 := iX11_post) (as := [.inr (.inr 0), .inl (xs (m_w32 (v3 + 1)))]) (r := []) (v := some (.inl x38)) (h1 := h37) (by decide +kernel) rfl rfl rfl rfl rfl hq hN) ?_
        have hK := hK.tr hQ
        refine RK.of (RN.blk (ops := [(450, .aload_n 2), (451, .aload_n 0), (452, .iload_n 3), (453, .iconst 1), (454, .iadd)]) (pc' := 455) (lv' := [(0, .inr (.inr (-2))), (1, .inr (.inr 0)), (2, .inr (.inr 334)), (3, .inl v3)]) (st' := [.inl (m_w32 (v3 + 1)), .inr (.inr (-2)), .inr (.inr 334), .inl x38]) (h' := h37) (cs := []) (by decide +kernel) rfl trivial) ?_
        obtain ⟨hc, hF⟩ := gd_of hF
        refine RK.of (RN.xa (by decide +kernel) hc.1.1 hc.1.2) ?_
        obtain ⟨x40, h39, hG, hF⟩ := bd_of hF
        have hq := rcv_ok (as := [.inl (xs (m_w32 (v3 + 1)))]) (TO.gk (o_334 hL))
        obtain ⟨hN, hL, hQ⟩ := DX12_post (d := 47) hL  hG
        refine RK.of (RN.cv (i := 56) (k := 228) (q2 := iX12_post) (as := [.inr (.inr 334), .inl (xs (m_w32 (v3 + 1)))]) (r := [.inl x38]) (v := some (.inl x40)) (h1 := h39) (by decide +kernel) rfl rfl rfl rfl rfl hq hN) ?_
        have hK := hK.tr hQ
        rcases it_of hF with ⟨hb, hF⟩ | ⟨hb, hF⟩
        · refine RK.of (RN.ict (cd := .eq) (off := 792) (tgt := 1251) (by decide +kernel) (mif_eq hb)) ?_
          refine RK.of (RN.blk (ops := [(1251, .iinc 3 6)]) (pc' := 1254) (lv' := [(3, .inl (m_w32 (v3 + 6))), (0, .inr (.inr (-2))), (1, .inr (.inr 0)), (2, .inr (.inr 334))]) (st' := []) (h' := h39) (cs := []) (by decide +kernel) rfl trivial) ?_
          refine RK.of (RN.goto (off := -1236) (tgt := 18) (by decide +kernel)) ?_
          exact RK.sub (ih _ _ hL hK hF) (sub_cons rfl (sub_cons rfl (sub_cons rfl (sub_cons rfl sub_nil))))
        · refine RK.of (RN.icf (cd := .eq) (off := 792) (tgt := 1251) (by decide +kernel) (mif_eqn hb)) ?_
          refine RK.of (RN.blk (ops := [(462, .iconst 0)]) (pc' := 463) (lv' := [(0, .inr (.inr (-2))), (1, .inr (.inr 0)), (2, .inr (.inr 334)), (3, .inl v3)]) (st' := [.inl 0]) (h' := h39) (cs := []) (by decide +kernel) rfl trivial) ?_
          exact RK.zR (by decide +kernel) rfl (Or.inl rfl) hL hK hF
      rcases it_of hF with ⟨hb10, hF⟩ | ⟨hb10, hF⟩
      · refine RK.of (fun k9 => RN.tsw (dflt := 1218) (lo := 0) (hi := 38) (offs := #[171, 234, 257, 270, 283, 306, 339, 372, 395, 408, 431, 454, 497, 520, 533, 566, 589, 622, 655, 678, 701, 714, 727, 750, 773, 816, 829, 852, 885, 918, 941, 974, 1017, 1040, 1073, 1096, 1149, 1172, 1195]) (by decide +kernel) (RN.stm hb0 (RN.stm hb1 (RN.stm hb2 (RN.stm hb3 (RN.stm hb4 (RN.stm hb5 (RN.stm hb6 (RN.stm hb7 (RN.stm hb8 (RN.stm hb9 (RN.sth hb10 (tgt := 464) rfl k9)))))))))))) ?_
        refine RK.of (RN.blk (ops := [(464, .aload_n 1), (465, .aload_n 0), (466, .iload_n 3), (467, .iconst 1), (468, .iadd)]) (pc' := 469) (lv' := [(0, .inr (.inr (-2))), (1, .inr (.inr 0)), (2, .inr (.inr 334)), (3, .inl v3)]) (st' := [.inl (m_w32 (v3 + 1)), .inr (.inr (-2)), .inr (.inr 0)]) (h' := h) (cs := []) (by decide +kernel) rfl trivial) ?_
        obtain ⟨hc, hF⟩ := gd_of hF
        refine RK.of (RN.xa (by decide +kernel) hc.1.1 hc.1.2) ?_
        obtain ⟨x42, h41, hG, hF⟩ := bd_of hF
        have hq := rcv_ok (as := [.inl (xs (m_w32 (v3 + 1)))]) (TO.gk (o_0 hL))
        obtain ⟨hN, hL, hQ⟩ := DX11_tie (d := 46) hL  hG
        refine RK.of (RN.cv (i := 57) (k := 121) (q2 := iX11_tie) (as := [.inr (.inr 0), .inl (xs (m_w32 (v3 + 1)))]) (r := []) (v := some (.inl x42)) (h1 := h41) (by decide +kernel) rfl rfl rfl rfl rfl hq hN) ?_
        have hK := hK.tr hQ
        refine RK.of (RN.blk (ops := [(473, .aload_n 2), (474, .aload_n 0), (475, .iload_n 3), (476, .iconst 1), (477, .iadd)]) (pc' := 478) (lv' := [(0, .inr (.inr (-2))), (1, .inr (.inr 0)), (2, .inr (.inr 334)), (3, .inl v3)]) (st' := [.inl (m_w32 (v3 + 1)), .inr (.inr (-2)), .inr (.inr 334), .inl x42]) (h' := h41) (cs := []) (by decide +kernel) rfl trivial) ?_
        obtain ⟨hc, hF⟩ := gd_of hF
        refine RK.of (RN.xa (by decide +kernel) hc.1.1 hc.1.2) ?_
        obtain ⟨x44, h43, hG, hF⟩ := bd_of hF
        have hq := rcv_ok (as := [.inl (xs (m_w32 (v3 + 1)))]) (TO.gk (o_334 hL))
        obtain ⟨hN, hL, hQ⟩ := DX12_tie (d := 49) hL  hG
        refine RK.of (RN.cv (i := 60) (k := 229) (q2 := iX12_tie) (as := [.inr (.inr 334), .inl (xs (m_w32 (v3 + 1)))]) (r := [.inl x42]) (v := some (.inl x44)) (h1 := h43) (by decide +kernel) rfl rfl rfl rfl rfl hq hN) ?_
        have hK := hK.tr hQ
        rcases it_of hF with ⟨hb, hF⟩ | ⟨hb, hF⟩
        · refine RK.of (RN.ict (cd := .eq) (off := 769) (tgt := 1251) (by decide +kernel) (mif_eq hb)) ?_
          refine RK.of (RN.blk (ops := [(1251, .iinc 3 6)]) (pc' := 1254) (lv' := [(3, .inl (m_w32 (v3 + 6))), (0, .inr (.inr (-2))), (1, .inr (.inr 0)), (2, .inr (.inr 334))]) (st' := []) (h' := h43) (cs := []) (by decide +kernel) rfl trivial) ?_
          refine RK.of (RN.goto (off := -1236) (tgt := 18) (by decide +kernel)) ?_
          exact RK.sub (ih _ _ hL hK hF) (sub_cons rfl (sub_cons rfl (sub_cons rfl (sub_cons rfl sub_nil))))
        · refine RK.of (RN.icf (cd := .eq) (off := 769) (tgt := 1251) (by decide +kernel) (mif_eqn hb)) ?_
          refine RK.of (RN.blk (ops := [(485, .iconst 0)]) (pc' := 486) (lv' := [(0, .inr (.inr (-2))), (1, .inr (.inr 0)), (2, .inr (.inr 334)), (3, .inl v3)]) (st' := [.inl 0]) (h' := h43) (cs := []) (by decide +kernel) rfl trivial) ?_
          exact RK.zR (by decide +kernel) rfl (Or.inl rfl) hL hK hF
      rcases it_of hF with ⟨hb11, hF⟩ | ⟨hb11, hF⟩
      · refine RK.of (fun k9 => RN.tsw (dflt := 1218) (lo := 0) (hi := 38) (offs := #[171, 234, 257, 270, 283, 306, 339, 372, 395, 408, 431, 454, 497, 520, 533, 566, 589, 622, 655, 678, 701, 714, 727, 750, 773, 816, 829, 852, 885, 918, 941, 974, 1017, 1040, 1073, 1096, 1149, 1172, 1195]) (by decide +kernel) (RN.stm hb0 (RN.stm hb1 (RN.stm hb2 (RN.stm hb3 (RN.stm hb4 (RN.stm hb5 (RN.stm hb6 (RN.stm hb7 (RN.stm hb8 (RN.stm hb9 (RN.stm hb10 (RN.sth hb11 (tgt := 487) rfl k9))))))))))))) ?_
        refine RK.of (RN.blk (ops := [(487, .aload_n 1), (488, .aload_n 0), (489, .iload_n 3), (490, .iconst 1), (491, .iadd)]) (pc' := 492) (lv' := [(0, .inr (.inr (-2))), (1, .inr (.inr 0)), (2, .inr (.inr 334)), (3, .inl v3)]) (st' := [.inl (m_w32 (v3 + 1)), .inr (.inr (-2)), .inr (.inr 0)]) (h' := h) (cs := []) (by decide +kernel) rfl trivial) ?_
        obtain ⟨hc, hF⟩ := gd_of hF
        refine RK.of (RN.xa (by decide +kernel) hc.1.1 hc.1.2) ?_
        refine RK.of (RN.blk (ops := [(493, .aload_n 0), (494, .iload_n 3), (495, .iconst 2), (496, .iadd)]) (pc' := 497) (lv' := [(0, .inr (.inr (-2))), (1, .inr (.inr 0)), (2, .inr (.inr 334)), (3, .inl v3)]) (st' := [.inl (m_w32 (v3 + 2)), .inr (.inr (-2)), .inl (xs (m_w32 (v3 + 1))), .inr (.inr 0)]) (h' := h) (cs := []) (by decide +kernel) rfl trivial) ?_
        obtain ⟨hc, hF⟩ := gd_of hF
        refine RK.of (RN.xa (by decide +kernel) hc.1.1 hc.1.2) ?_
        refine RK.of (RN.blk (ops := [(498, .aload_n 0), (499, .iload_n 3), (500, .iconst 3), (501, .iadd)]) (pc' := 502) (lv' := [(0, .inr (.inr (-2))), (1, .inr (.inr 0)), (2, .inr (.inr 334)), (3, .inl v3)]) (st' := [.inl (m_w32 (v3 + 3)), .inr (.inr (-2)), .inl (xs (m_w32 (v3 + 2))), .inl (xs (m_w32 (v3 + 1))), .inr (.inr 0)]) (h' := h) (cs := []) (by decide +kernel) rfl trivial) ?_
        obtain ⟨hc, hF⟩ := gd_of hF
        refine RK.of (RN.xa (by decide +kernel) hc.1.1 hc.1.2) ?_
        obtain ⟨x46, h45, hG, hF⟩ := bd_of hF
        have hq := rcv_ok (as := [.inl (xs (m_w32 (v3 + 1))), .inl (xs (m_w32 (v3 + 2))), .inl (xs (m_w32 (v3 + 3)))]) (TO.gk (o_0 hL))
        obtain ⟨hN, hL, hQ⟩ := DX11_enter (d := 46) hL  hG
        refine RK.of (RN.cv (i := 61) (k := 122) (q2 := iX11_enter) (as := [.inr (.inr 0), .inl (xs (m_w32 (v3 + 1))), .inl (xs (m_w32 (v3 + 2))), .inl (xs (m_w32 (v3 + 3)))]) (r := []) (v := some (.inl x46)) (h1 := h45) (by decide +kernel) rfl rfl rfl rfl rfl hq hN) ?_
        have hK := hK.tr hQ
        refine RK.of (RN.blk (ops := [(506, .aload_n 2), (507, .aload_n 0), (508, .iload_n 3), (509, .iconst 1), (510, .iadd)]) (pc' := 511) (lv' := [(0, .inr (.inr (-2))), (1, .inr (.inr 0)), (2, .inr (.inr 334)), (3, .inl v3)]) (st' := [.inl (m_w32 (v3 + 1)), .inr (.inr (-2)), .inr (.inr 334), .inl x46]) (h' := h45) (cs := []) (by decide +kernel) rfl trivial) ?_
        obtain ⟨hc, hF⟩ := gd_of hF
        refine RK.of (RN.xa (by decide +kernel) hc.1.1 hc.1.2) ?_
        refine RK.of (RN.blk (ops := [(512, .aload_n 0), (513, .iload_n 3), (514, .iconst 2), (515, .iadd)]) (pc' := 516) (lv' := [(0, .inr (.inr (-2))), (1, .inr (.inr 0)), (2, .inr (.inr 334)), (3, .inl v3)]) (st' := [.inl (m_w32 (v3 + 2)), .inr (.inr (-2)), .inl (xs (m_w32 (v3 + 1))), .inr (.inr 334), .inl x46]) (h' := h45) (cs := []) (by decide +kernel) rfl trivial) ?_
        obtain ⟨hc, hF⟩ := gd_of hF
        refine RK.of (RN.xa (by decide +kernel) hc.1.1 hc.1.2) ?_
        refine RK.of (RN.blk (ops := [(517, .aload_n 0), (518, .iload_n 3), (519, .iconst 3), (520, .iadd)]) (pc' := 521) (lv' := [(0, .inr (.inr (-2))), (1, .inr (.inr 0)), (2, .inr (.inr 334)), (3, .inl v3)]) (st' := [.inl (m_w32 (v3 + 3)), .inr (.inr (-2)), .inl (xs (m_w32 (v3 + 2))), .inl (xs (m_w32 (v3 + 1))), .inr (.inr 334), .inl x46]) (h' := h45) (cs := []) (by decide +kernel) rfl trivial) ?_
        obtain ⟨hc, hF⟩ := gd_of hF
        refine RK.of (RN.xa (by decide +kernel) hc.1.1 hc.1.2) ?_
        obtain ⟨x48, h47, hG, hF⟩ := bd_of hF
        have hq := rcv_ok (as := [.inl (xs (m_w32 (v3 + 1))), .inl (xs (m_w32 (v3 + 2))), .inl (xs (m_w32 (v3 + 3)))]) (TO.gk (o_334 hL))
        obtain ⟨hN, hL, hQ⟩ := DX12_enter (d := 48) hL  hG
        refine RK.of (RN.cv (i := 65) (k := 233) (q2 := iX12_enter) (as := [.inr (.inr 334), .inl (xs (m_w32 (v3 + 1))), .inl (xs (m_w32 (v3 + 2))), .inl (xs (m_w32 (v3 + 3)))]) (r := [.inl x46]) (v := some (.inl x48)) (h1 := h47) (by decide +kernel) rfl rfl rfl rfl rfl hq hN) ?_
        have hK := hK.tr hQ
        rcases it_of hF with ⟨hb, hF⟩ | ⟨hb, hF⟩
        · refine RK.of (RN.ict (cd := .eq) (off := 726) (tgt := 1251) (by decide +kernel) (mif_eq hb)) ?_
          refine RK.of (RN.blk (ops := [(1251, .iinc 3 6)]) (pc' := 1254) (lv' := [(3, .inl (m_w32 (v3 + 6))), (0, .inr (.inr (-2))), (1, .inr (.inr 0)), (2, .inr (.inr 334))]) (st' := []) (h' := h47) (cs := []) (by decide +kernel) rfl trivial) ?_
          refine RK.of (RN.goto (off := -1236) (tgt := 18) (by decide +kernel)) ?_
          exact RK.sub (ih _ _ hL hK hF) (sub_cons rfl (sub_cons rfl (sub_cons rfl (sub_cons rfl sub_nil))))
        · refine RK.of (RN.icf (cd := .eq) (off := 726) (tgt := 1251) (by decide +kernel) (mif_eqn hb)) ?_
          refine RK.of (RN.blk (ops := [(528, .iconst 0)]) (pc' := 529) (lv' := [(0, .inr (.inr (-2))), (1, .inr (.inr 0)), (2, .inr (.inr 334)), (3, .inl v3)]) (st' := [.inl 0]) (h' := h47) (cs := []) (by decide +kernel) rfl trivial) ?_
          exact RK.zR (by decide +kernel) rfl (Or.inl rfl) hL hK hF
      rcases it_of hF with ⟨hb12, hF⟩ | ⟨hb12, hF⟩
      · refine RK.of (fun k9 => RN.tsw (dflt := 1218) (lo := 0) (hi := 38) (offs := #[171, 234, 257, 270, 283, 306, 339, 372, 395, 408, 431, 454, 497, 520, 533, 566, 589, 622, 655, 678, 701, 714, 727, 750, 773, 816, 829, 852, 885, 918, 941, 974, 1017, 1040, 1073, 1096, 1149, 1172, 1195]) (by decide +kernel) (RN.stm hb0 (RN.stm hb1 (RN.stm hb2 (RN.stm hb3 (RN.stm hb4 (RN.stm hb5 (RN.stm hb6 (RN.stm hb7 (RN.stm hb8 (RN.stm hb9 (RN.stm hb10 (RN.stm hb11 (RN.sth hb12 (tgt := 530) rfl k9)))))))))))))) ?_
        refine RK.of (RN.blk (ops := [(530, .aload_n 1), (531, .aload_n 0), (532, .iload_n 3), (533, .iconst 1), (534, .iadd)]) (pc' := 535) (lv' := [(0, .inr (.inr (-2))), (1, .inr (.inr 0)), (2, .inr (.inr 334)), (3, .inl v3)]) (st' := [.inl (m_w32 (v3 + 1)), .inr (.inr (-2)), .inr (.inr 0)]) (h' := h) (cs := []) (by decide +kernel) rfl trivial) ?_
        obtain ⟨hc, hF⟩ := gd_of hF
        refine RK.of (RN.xa (by decide +kernel) hc.1.1 hc.1.2) ?_
        obtain ⟨x50, h49, hG, hF⟩ := bd_of hF
        have hq := rcv_ok (as := [.inl (xs (m_w32 (v3 + 1)))]) (TO.gk (o_0 hL))
        obtain ⟨hN, hL, hQ⟩ := DX11_strike (d := 46) hL  hG
        refine RK.of (RN.cv (i := 66) (k := 123) (q2 := iX11_strike) (as := [.inr (.inr 0), .inl (xs (m_w32 (v3 + 1)))]) (r := []) (v := some (.inl x50)) (h1 := h49) (by decide +kernel) rfl rfl rfl rfl rfl hq hN) ?_
        have hK := hK.tr hQ
        refine RK.of (RN.blk (ops := [(539, .aload_n 2), (540, .aload_n 0), (541, .iload_n 3), (542, .iconst 1), (543, .iadd)]) (pc' := 544) (lv' := [(0, .inr (.inr (-2))), (1, .inr (.inr 0)), (2, .inr (.inr 334)), (3, .inl v3)]) (st' := [.inl (m_w32 (v3 + 1)), .inr (.inr (-2)), .inr (.inr 334), .inl x50]) (h' := h49) (cs := []) (by decide +kernel) rfl trivial) ?_
        obtain ⟨hc, hF⟩ := gd_of hF
        refine RK.of (RN.xa (by decide +kernel) hc.1.1 hc.1.2) ?_
        obtain ⟨x52, h51, hG, hF⟩ := bd_of hF
        have hq := rcv_ok (as := [.inl (xs (m_w32 (v3 + 1)))]) (TO.gk (o_334 hL))
        obtain ⟨hN, hL, hQ⟩ := DX12_strike (d := 49) hL  hG
        refine RK.of (RN.cv (i := 69) (k := 234) (q2 := iX12_strike) (as := [.inr (.inr 334), .inl (xs (m_w32 (v3 + 1)))]) (r := [.inl x50]) (v := some (.inl x52)) (h1 := h51) (by decide +kernel) rfl rfl rfl rfl rfl hq hN) ?_
        have hK := hK.tr hQ
        rcases it_of hF with ⟨hb, hF⟩ | ⟨hb, hF⟩
        · refine RK.of (RN.ict (cd := .eq) (off := 703) (tgt := 1251) (by decide +kernel) (mif_eq hb)) ?_
          refine RK.of (RN.blk (ops := [(1251, .iinc 3 6)]) (pc' := 1254) (lv' := [(3, .inl (m_w32 (v3 + 6))), (0, .inr (.inr (-2))), (1, .inr (.inr 0)), (2, .inr (.inr 334))]) (st' := []) (h' := h51) (cs := []) (by decide +kernel) rfl trivial) ?_
          refine RK.of (RN.goto (off := -1236) (tgt := 18) (by decide +kernel)) ?_
          exact RK.sub (ih _ _ hL hK hF) (sub_cons rfl (sub_cons rfl (sub_cons rfl (sub_cons rfl sub_nil))))
        · refine RK.of (RN.icf (cd := .eq) (off := 703) (tgt := 1251) (by decide +kernel) (mif_eqn hb)) ?_
          refine RK.of (RN.blk (ops := [(551, .iconst 0)]) (pc' := 552) (lv' := [(0, .inr (.inr (-2))), (1, .inr (.inr 0)), (2, .inr (.inr 334)), (3, .inl v3)]) (st' := [.inl 0]) (h' := h51) (cs := []) (by decide +kernel) rfl trivial) ?_
          exact RK.zR (by decide +kernel) rfl (Or.inl rfl) hL hK hF
      rcases it_of hF with ⟨hb13, hF⟩ | ⟨hb13, hF⟩
      · refine RK.of (fun k9 => RN.tsw (dflt := 1218) (lo := 0) (hi := 38) (offs := #[171, 234, 257, 270, 283, 306, 339, 372, 395, 408, 431, 454, 497, 520, 533, 566, 589, 622, 655, 678, 701, 714, 727, 750, 773, 816, 829, 852, 885, 918, 941, 974, 1017, 1040, 1073, 1096, 1149, 1172, 1195]) (by decide +kernel) (RN.stm hb0 (RN.stm hb1 (RN.stm hb2 (RN.stm hb3 (RN.stm hb4 (RN.stm hb5 (RN.stm hb6 (RN.stm hb7 (RN.stm hb8 (RN.stm hb9 (RN.stm hb10 (RN.stm hb11 (RN.stm hb12 (RN.sth hb13 (tgt := 553) rfl k9))))))))))))))) ?_
        refine RK.of (RN.blk (ops := [(553, .aload_n 1)]) (pc' := 554) (lv' := [(0, .inr (.inr (-2))), (1, .inr (.inr 0)), (2, .inr (.inr 334)), (3, .inl v3)]) (st' := [.inr (.inr 0)]) (h' := h) (cs := []) (by decide +kernel) rfl trivial) ?_
        obtain ⟨x54, h53, hG, hF⟩ := bd_of hF
        have hq := rcv_ok (as := []) (TO.gk (o_0 hL))
        obtain ⟨hN, hL, hQ⟩ := DX11_undo (d := 47) hL  hG
        refine RK.of (RN.cv (i := 70) (k := 124) (q2 := iX11_undo) (as := [.inr (.inr 0)]) (r := []) (v := some (.inl x54)) (h1 := h53) (by decide +kernel) rfl rfl rfl rfl rfl hq hN) ?_
        have hK := hK.tr hQ
        refine RK.of (RN.blk (ops := [(557, .aload_n 2)]) (pc' := 558) (lv' := [(0, .inr (.inr (-2))), (1, .inr (.inr 0)), (2, .inr (.inr 334)), (3, .inl v3)]) (st' := [.inr (.inr 334), .inl x54]) (h' := h53) (cs := []) (by decide +kernel) rfl trivial) ?_
        obtain ⟨x56, h55, hG, hF⟩ := bd_of hF
        have hq := rcv_ok (as := []) (TO.gk (o_334 hL))
        obtain ⟨hN, hL, hQ⟩ := DX12_undo (d := 50) hL  hG
        refine RK.of (RN.cv (i := 73) (k := 225) (q2 := iX12_undo) (as := [.inr (.inr 334)]) (r := [.inl x54]) (v := some (.inl x56)) (h1 := h55) (by decide +kernel) rfl rfl rfl rfl rfl hq hN) ?_
        have hK := hK.tr hQ
        rcases it_of hF with ⟨hb, hF⟩ | ⟨hb, hF⟩
        · refine RK.of (RN.ict (cd := .eq) (off := 690) (tgt := 1251) (by decide +kernel) (mif_eq hb)) ?_
          refine RK.of (RN.blk (ops := [(1251, .iinc 3 6)]) (pc' := 1254) (lv' := [(3, .inl (m_w32 (v3 + 6))), (0, .inr (.inr (-2))), (1, .inr (.inr 0)), (2, .inr (.inr 334))]) (st' := []) (h' := h55) (cs := []) (by decide +kernel) rfl trivial) ?_
          refine RK.of (RN.goto (off := -1236) (tgt := 18) (by decide +kernel)) ?_
          exact RK.sub (ih _ _ hL hK hF) (sub_cons rfl (sub_cons rfl (sub_cons rfl (sub_cons rfl sub_nil))))
        · refine RK.of (RN.icf (cd := .eq) (off := 690) (tgt := 1251) (by decide +kernel) (mif_eqn hb)) ?_
          refine RK.of (RN.blk (ops := [(564, .iconst 0)]) (pc' := 565) (lv' := [(0, .inr (.inr (-2))), (1, .inr (.inr 0)), (2, .inr (.inr 334)), (3, .inl v3)]) (st' := [.inl 0]) (h' := h55) (cs := []) (by decide +kernel) rfl trivial) ?_
          exact RK.zR (by decide +kernel) rfl (Or.inl rfl) hL hK hF
      rcases it_of hF with ⟨hb14, hF⟩ | ⟨hb14, hF⟩
      · refine RK.of (fun k9 => RN.tsw (dflt := 1218) (lo := 0) (hi := 38) (offs := #[171, 234, 257, 270, 283, 306, 339, 372, 395, 408, 431, 454, 497, 520, 533, 566, 589, 622, 655, 678, 701, 714, 727, 750, 773, 816, 829, 852, 885, 918, 941, 974, 1017, 1040, 1073, 1096, 1149, 1172, 1195]) (by decide +kernel) (RN.stm hb0 (RN.stm hb1 (RN.stm hb2 (RN.stm hb3 (RN.stm hb4 (RN.stm hb5 (RN.stm hb6 (RN.stm hb7 (RN.stm hb8 (RN.stm hb9 (RN.stm hb10 (RN.stm hb11 (RN.stm hb12 (RN.stm hb13 (RN.sth hb14 (tgt := 566) rfl k9)))))))))))))))) ?_
        refine RK.of (RN.blk (ops := [(566, .aload_n 1), (567, .aload_n 0), (568, .iload_n 3), (569, .iconst 1), (570, .iadd)]) (pc' := 571) (lv' := [(0, .inr (.inr (-2))), (1, .inr (.inr 0)), (2, .inr (.inr 334)), (3, .inl v3)]) (st' := [.inl (m_w32 (v3 + 1)), .inr (.inr (-2)), .inr (.inr 0)]) (h' := h) (cs := []) (by decide +kernel) rfl trivial) ?_
        obtain ⟨hc, hF⟩ := gd_of hF
        refine RK.of (RN.xa (by decide +kernel) hc.1.1 hc.1.2) ?_
        refine RK.of (RN.blk (ops := [(572, .aload_n 0), (573, .iload_n 3), (574, .iconst 2), (575, .iadd)]) (pc' := 576) (lv' := [(0, .inr (.inr (-2))), (1, .inr (.inr 0)), (2, .inr (.inr 334)), (3, .inl v3)]) (st' := [.inl (m_w32 (v3 + 2)), .inr (.inr (-2)), .inl (xs (m_w32 (v3 + 1))), .inr (.inr 0)]) (h' := h) (cs := []) (by decide +kernel) rfl trivial) ?_
        obtain ⟨hc, hF⟩ := gd_of hF
        refine RK.of (RN.xa (by decide +kernel) hc.1.1 hc.1.2) ?_
        obtain ⟨x58, h57, hG, hF⟩ := bd_of hF
        have hq := rcv_ok (as := [.inl (xs (m_w32 (v3 + 1))), .inl (xs (m_w32 (v3 + 2)))]) (TO.gk (o_0 hL))
        obtain ⟨hN, hL, hQ⟩ := DX11_where (d := 46) hL  hG
        refine RK.of (RN.cv (i := 74) (k := 125) (q2 := iX11_where) (as := [.inr (.inr 0), .inl (xs (m_w32 (v3 + 1))), .inl (xs (m_w32 (v3 + 2)))]) (r := []) (v := some (.inl x58)) (h1 := h57) (by decide +kernel) rfl rfl rfl rfl rfl hq hN) ?_
        have hK := hK.tr hQ
        refine RK.of (RN.blk (ops := [(580, .aload_n 2), (581, .aload_n 0), (582, .iload_n 3), (583, .iconst 1), (584, .iadd)]) (pc' := 585) (lv' := [(0, .inr (.inr (-2))), (1, .inr (.inr 0)), (2, .inr (.inr 334)), (3, .inl v3)]) (st' := [.inl (m_w32 (v3 + 1)), .inr (.inr (-2)), .inr (.inr 334), .inl x58]) (h' := h57) (cs := []) (by decide +kernel) rfl trivial) ?_
        obtain ⟨hc, hF⟩ := gd_of hF
        refine RK.of (RN.xa (by decide +kernel) hc.1.1 hc.1.2) ?_
        refine RK.of (RN.blk (ops := [(586, .aload_n 0), (587, .iload_n 3), (588, .iconst 2), (589, .iadd)]) (pc' := 590) (lv' := [(0, .inr (.inr (-2))), (1, .inr (.inr 0)), (2, .inr (.inr 334)), (3, .inl v3)]) (st' := [.inl (m_w32 (v3 + 2)), .inr (.inr (-2)), .inl (xs (m_w32 (v3 + 1))), .inr (.inr 334), .inl x58]) (h' := h57) (cs := []) (by decide +kernel) rfl trivial) ?_
        obtain ⟨hc, hF⟩ := gd_of hF
        refine RK.of (RN.xa (by decide +kernel) hc.1.1 hc.1.2) ?_
        obtain ⟨x60, h59, hG, hF⟩ := bd_of hF
        have hq := rcv_ok (as := [.inl (xs (m_w32 (v3 + 1))), .inl (xs (m_w32 (v3 + 2)))]) (TO.gk (o_334 hL))
        obtain ⟨hN, hL, hQ⟩ := DX12_where (d := 47) hL  hG
        refine RK.of (RN.cv (i := 77) (k := 235) (q2 := iX12_where) (as := [.inr (.inr 334), .inl (xs (m_w32 (v3 + 1))), .inl (xs (m_w32 (v3 + 2)))]) (r := [.inl x58]) (v := some (.inl x60)) (h1 := h59) (by decide +kernel) rfl rfl rfl rfl rfl hq hN) ?_
        have hK := hK.tr hQ
        rcases it_of hF with ⟨hb, hF⟩ | ⟨hb, hF⟩
        · refine RK.of (RN.ict (cd := .eq) (off := 657) (tgt := 1251) (by decide +kernel) (mif_eq hb)) ?_
          refine RK.of (RN.blk (ops := [(1251, .iinc 3 6)]) (pc' := 1254) (lv' := [(3, .inl (m_w32 (v3 + 6))), (0, .inr (.inr (-2))), (1, .inr (.inr 0)), (2, .inr (.inr 334))]) (st' := []) (h' := h59) (cs := []) (by decide +kernel) rfl trivial) ?_
          refine RK.of (RN.goto (off := -1236) (tgt := 18) (by decide +kernel)) ?_
          exact RK.sub (ih _ _ hL hK hF) (sub_cons rfl (sub_cons rfl (sub_cons rfl (sub_cons rfl sub_nil))))
        · refine RK.of (RN.icf (cd := .eq) (off := 657) (tgt := 1251) (by decide +kernel) (mif_eqn hb)) ?_
          refine RK.of (RN.blk (ops := [(597, .iconst 0)]) (pc' := 598) (lv' := [(0, .inr (.inr (-2))), (1, .inr (.inr 0)), (2, .inr (.inr 334)), (3, .inl v3)]) (st' := [.inl 0]) (h' := h59) (cs := []) (by decide +kernel) rfl trivial) ?_
          exact RK.zR (by decide +kernel) rfl (Or.inl rfl) hL hK hF
      rcases it_of hF with ⟨hb15, hF⟩ | ⟨hb15, hF⟩
      · refine RK.of (fun k9 => RN.tsw (dflt := 1218) (lo := 0) (hi := 38) (offs := #[171, 234, 257, 270, 283, 306, 339, 372, 395, 408, 431, 454, 497, 520, 533, 566, 589, 622, 655, 678, 701, 714, 727, 750, 773, 816, 829, 852, 885, 918, 941, 974, 1017, 1040, 1073, 1096, 1149, 1172, 1195]) (by decide +kernel) (RN.stm hb0 (RN.stm hb1 (RN.stm hb2 (RN.stm hb3 (RN.stm hb4 (RN.stm hb5 (RN.stm hb6 (RN.stm hb7 (RN.stm hb8 (RN.stm hb9 (RN.stm hb10 (RN.stm hb11 (RN.stm hb12 (RN.stm hb13 (RN.stm hb14 (RN.sth hb15 (tgt := 599) rfl k9))))))))))))))))) ?_
        refine RK.of (RN.blk (ops := [(599, .aload_n 1), (600, .aload_n 0), (601, .iload_n 3), (602, .iconst 1), (603, .iadd)]) (pc' := 604) (lv' := [(0, .inr (.inr (-2))), (1, .inr (.inr 0)), (2, .inr (.inr 334)), (3, .inl v3)]) (st' := [.inl (m_w32 (v3 + 1)), .inr (.inr (-2)), .inr (.inr 0)]) (h' := h) (cs := []) (by decide +kernel) rfl trivial) ?_
        obtain ⟨hc, hF⟩ := gd_of hF
        refine RK.of (RN.xa (by decide +kernel) hc.1.1 hc.1.2) ?_
        obtain ⟨x62, h61, hG, hF⟩ := bd_of hF
        have hq := rcv_ok (as := [.inl (xs (m_w32 (v3 + 1)))]) (TO.gk (o_0 hL))
        obtain ⟨hN, hL, hQ⟩ := DX11_may (d := 46) hL  hG
        refine RK.of (RN.cv (i := 78) (k := 126) (q2 := iX11_may) (as := [.inr (.inr 0), .inl (xs (m_w32 (v3 + 1)))]) (r := []) (v := some (.inl x62)) (h1 := h61) (by decide +kernel) rfl rfl rfl rfl rfl hq hN) ?_
        have hK := hK.tr hQ
        refine RK.of (RN.blk (ops := [(608, .aload_n 2), (609, .aload_n 0), (610, .iload_n 3), (611, .iconst 1), (612, .iadd)]) (pc' := 613) (lv' := [(0, .inr (.inr (-2))), (1, .inr (.inr 0)), (2, .inr (.inr 334)), (3, .inl v3)]) (st' := [.inl (m_w32 (v3 + 1)), .inr (.inr (-2)), .inr (.inr 334), .inl x62]) (h' := h61) (cs := []) (by decide +kernel) rfl trivial) ?_
        obtain ⟨hc, hF⟩ := gd_of hF
        refine RK.of (RN.xa (by decide +kernel) hc.1.1 hc.1.2) ?_
        obtain ⟨x64, h63, hG, hF⟩ := bd_of hF
        have hq := rcv_ok (as := [.inl (xs (m_w32 (v3 + 1)))]) (TO.gk (o_334 hL))
        obtain ⟨hN, hL, hQ⟩ := DX12_may (d := 46) hL  hG
        refine RK.of (RN.cv (i := 81) (k := 239) (q2 := iX12_may) (as := [.inr (.inr 334), .inl (xs (m_w32 (v3 + 1)))]) (r := [.inl x62]) (v := some (.inl x64)) (h1 := h63) (by decide +kernel) rfl rfl rfl rfl rfl hq hN) ?_
        have hK := hK.tr hQ
        rcases it_of hF with ⟨hb, hF⟩ | ⟨hb, hF⟩
        · refine RK.of (RN.ict (cd := .eq) (off := 634) (tgt := 1251) (by decide +kernel) (mif_eq hb)) ?_
          refine RK.of (RN.blk (ops := [(1251, .iinc 3 6)]) (pc' := 1254) (lv' := [(3, .inl (m_w32 (v3 + 6))), (0, .inr (.inr (-2))), (1, .inr (.inr 0)), (2, .inr (.inr 334))]) (st' := []) (h' := h63) (cs := []) (by decide +kernel) rfl trivial) ?_
          refine RK.of (RN.goto (off := -1236) (tgt := 18) (by decide +kernel)) ?_
          exact RK.sub (ih _ _ hL hK hF) (sub_cons rfl (sub_cons rfl (sub_cons rfl (sub_cons rfl sub_nil))))
        · refine RK.of (RN.icf (cd := .eq) (off := 634) (tgt := 1251) (by decide +kernel) (mif_eqn hb)) ?_
          refine RK.of (RN.blk (ops := [(620, .iconst 0)]) (pc' := 621) (lv' := [(0, .inr (.inr (-2))), (1, .inr (.inr 0)), (2, .inr (.inr 334)), (3, .inl v3)]) (st' := [.inl 0]) (h' := h63) (cs := []) (by decide +kernel) rfl trivial) ?_
          exact RK.zR (by decide +kernel) rfl (Or.inl rfl) hL hK hF
      rcases it_of hF with ⟨hb16, hF⟩ | ⟨hb16, hF⟩
      · refine RK.of (fun k9 => RN.tsw (dflt := 1218) (lo := 0) (hi := 38) (offs := #[171, 234, 257, 270, 283, 306, 339, 372, 395, 408, 431, 454, 497, 520, 533, 566, 589, 622, 655, 678, 701, 714, 727, 750, 773, 816, 829, 852, 885, 918, 941, 974, 1017, 1040, 1073, 1096, 1149, 1172, 1195]) (by decide +kernel) (RN.stm hb0 (RN.stm hb1 (RN.stm hb2 (RN.stm hb3 (RN.stm hb4 (RN.stm hb5 (RN.stm hb6 (RN.stm hb7 (RN.stm hb8 (RN.stm hb9 (RN.stm hb10 (RN.stm hb11 (RN.stm hb12 (RN.stm hb13 (RN.stm hb14 (RN.stm hb15 (RN.sth hb16 (tgt := 622) rfl k9)))))))))))))))))) ?_
        refine RK.of (RN.blk (ops := [(622, .aload_n 1), (623, .aload_n 0), (624, .iload_n 3), (625, .iconst 1), (626, .iadd)]) (pc' := 627) (lv' := [(0, .inr (.inr (-2))), (1, .inr (.inr 0)), (2, .inr (.inr 334)), (3, .inl v3)]) (st' := [.inl (m_w32 (v3 + 1)), .inr (.inr (-2)), .inr (.inr 0)]) (h' := h) (cs := []) (by decide +kernel) rfl trivial) ?_
        obtain ⟨hc, hF⟩ := gd_of hF
        refine RK.of (RN.xa (by decide +kernel) hc.1.1 hc.1.2) ?_
        refine RK.of (RN.blk (ops := [(628, .aload_n 0), (629, .iload_n 3), (630, .iconst 2), (631, .iadd)]) (pc' := 632) (lv' := [(0, .inr (.inr (-2))), (1, .inr (.inr 0)), (2, .inr (.inr 334)), (3, .inl v3)]) (st' := [.inl (m_w32 (v3 + 2)), .inr (.inr (-2)), .inl (xs (m_w32 (v3 + 1))), .inr (.inr 0)]) (h' := h) (cs := []) (by decide +kernel) rfl trivial) ?_
        obtain ⟨hc, hF⟩ := gd_of hF
        refine RK.of (RN.xa (by decide +kernel) hc.1.1 hc.1.2) ?_
        obtain ⟨x66, h65, hG, hF⟩ := bd_of hF
        have hq := rcv_ok (as := [.inl (xs (m_w32 (v3 + 1))), .inl (xs (m_w32 (v3 + 2)))]) (TO.gk (o_0 hL))
        obtain ⟨hN, hL, hQ⟩ := DX11_read (d := 45) hL  hG
        refine RK.of (RN.cv (i := 82) (k := 127) (q2 := iX11_read) (as := [.inr (.inr 0), .inl (xs (m_w32 (v3 + 1))), .inl (xs (m_w32 (v3 + 2)))]) (r := []) (v := some (.inl x66)) (h1 := h65) (by decide +kernel) rfl rfl rfl rfl rfl hq hN) ?_
        have hK := hK.tr hQ
        refine RK.of (RN.blk (ops := [(636, .aload_n 2), (637, .aload_n 0), (638, .iload_n 3), (639, .iconst 1), (640, .iadd)]) (pc' := 641) (lv' := [(0, .inr (.inr (-2))), (1, .inr (.inr 0)), (2, .inr (.inr 334)), (3, .inl v3)]) (st' := [.inl (m_w32 (v3 + 1)), .inr (.inr (-2)), .inr (.inr 334), .inl x66]) (h' := h65) (cs := []) (by decide +kernel) rfl trivial) ?_
        obtain ⟨hc, hF⟩ := gd_of hF
        refine RK.of (RN.xa (by decide +kernel) hc.1.1 hc.1.2) ?_
        refine RK.of (RN.blk (ops := [(642, .aload_n 0), (643, .iload_n 3), (644, .iconst 2), (645, .iadd)]) (pc' := 646) (lv' := [(0, .inr (.inr (-2))), (1, .inr (.inr 0)), (2, .inr (.inr 334)), (3, .inl v3)]) (st' := [.inl (m_w32 (v3 + 2)), .inr (.inr (-2)), .inl (xs (m_w32 (v3 + 1))), .inr (.inr 334), .inl x66]) (h' := h65) (cs := []) (by decide +kernel) rfl trivial) ?_
        obtain ⟨hc, hF⟩ := gd_of hF
        refine RK.of (RN.xa (by decide +kernel) hc.1.1 hc.1.2) ?_
        obtain ⟨x68, h67, hG, hF⟩ := bd_of hF
        have hq := rcv_ok (as := [.inl (xs (m_w32 (v3 + 1))), .inl (xs (m_w32 (v3 + 2)))]) (TO.gk (o_334 hL))
        obtain ⟨hN, hL, hQ⟩ := DX12_read (d := 45) hL  hG
        refine RK.of (RN.cv (i := 85) (k := 243) (q2 := iX12_read) (as := [.inr (.inr 334), .inl (xs (m_w32 (v3 + 1))), .inl (xs (m_w32 (v3 + 2)))]) (r := [.inl x66]) (v := some (.inl x68)) (h1 := h67) (by decide +kernel) rfl rfl rfl rfl rfl hq hN) ?_
        have hK := hK.tr hQ
        rcases it_of hF with ⟨hb, hF⟩ | ⟨hb, hF⟩
        · refine RK.of (RN.ict (cd := .eq) (off := 601) (tgt := 1251) (by decide +kernel) (mif_eq hb)) ?_
          refine RK.of (RN.blk (ops := [(1251, .iinc 3 6)]) (pc' := 1254) (lv' := [(3, .inl (m_w32 (v3 + 6))), (0, .inr (.inr (-2))), (1, .inr (.inr 0)), (2, .inr (.inr 334))]) (st' := []) (h' := h67) (cs := []) (by decide +kernel) rfl trivial) ?_
          refine RK.of (RN.goto (off := -1236) (tgt := 18) (by decide +kernel)) ?_
          exact RK.sub (ih _ _ hL hK hF) (sub_cons rfl (sub_cons rfl (sub_cons rfl (sub_cons rfl sub_nil))))
        · refine RK.of (RN.icf (cd := .eq) (off := 601) (tgt := 1251) (by decide +kernel) (mif_eqn hb)) ?_
          refine RK.of (RN.blk (ops := [(653, .iconst 0)]) (pc' := 654) (lv' := [(0, .inr (.inr (-2))), (1, .inr (.inr 0)), (2, .inr (.inr 334)), (3, .inl v3)]) (st' := [.inl 0]) (h' := h67) (cs := []) (by decide +kernel) rfl trivial) ?_
          exact RK.zR (by decide +kernel) rfl (Or.inl rfl) hL hK hF
      rcases it_of hF with ⟨hb17, hF⟩ | ⟨hb17, hF⟩
      · refine RK.of (fun k9 => RN.tsw (dflt := 1218) (lo := 0) (hi := 38) (offs := #[171, 234, 257, 270, 283, 306, 339, 372, 395, 408, 431, 454, 497, 520, 533, 566, 589, 622, 655, 678, 701, 714, 727, 750, 773, 816, 829, 852, 885, 918, 941, 974, 1017, 1040, 1073, 1096, 1149, 1172, 1195]) (by decide +kernel) (RN.stm hb0 (RN.stm hb1 (RN.stm hb2 (RN.stm hb3 (RN.stm hb4 (RN.stm hb5 (RN.stm hb6 (RN.stm hb7 (RN.stm hb8 (RN.stm hb9 (RN.stm hb10 (RN.stm hb11 (RN.stm hb12 (RN.stm hb13 (RN.stm hb14 (RN.stm hb15 (RN.stm hb16 (RN.sth hb17 (tgt := 655) rfl k9))))))))))))))))))) ?_
        refine RK.of (RN.blk (ops := [(655, .aload_n 1), (656, .aload_n 0), (657, .iload_n 3), (658, .iconst 1), (659, .iadd)]) (pc' := 660) (lv' := [(0, .inr (.inr (-2))), (1, .inr (.inr 0)), (2, .inr (.inr 334)), (3, .inl v3)]) (st' := [.inl (m_w32 (v3 + 1)), .inr (.inr (-2)), .inr (.inr 0)]) (h' := h) (cs := []) (by decide +kernel) rfl trivial) ?_
        obtain ⟨hc, hF⟩ := gd_of hF
        refine RK.of (RN.xa (by decide +kernel) hc.1.1 hc.1.2) ?_
        refine RK.of (RN.blk (ops := [(661, .aload_n 0), (662, .iload_n 3), (663, .iconst 2), (664, .iadd)]) (pc' := 665) (lv' := [(0, .inr (.inr (-2))), (1, .inr (.inr 0)), (2, .inr (.inr 334)), (3, .inl v3)]) (st' := [.inl (m_w32 (v3 + 2)), .inr (.inr (-2)), .inl (xs (m_w32 (v3 + 1))), .inr (.inr 0)]) (h' := h) (cs := []) (by decide +kernel) rfl trivial) ?_
        obtain ⟨hc, hF⟩ := gd_of hF
        refine RK.of (RN.xa (by decide +kernel) hc.1.1 hc.1.2) ?_
        obtain ⟨x70, h69, hG, hF⟩ := bd_of hF
        have hq := rcv_ok (as := [.inl (xs (m_w32 (v3 + 1))), .inl (xs (m_w32 (v3 + 2)))]) (TO.gk (o_0 hL))
        obtain ⟨hN, hL, hQ⟩ := DX11_codes (d := 46) hL  hG
        refine RK.of (RN.cv (i := 86) (k := 128) (q2 := iX11_codes) (as := [.inr (.inr 0), .inl (xs (m_w32 (v3 + 1))), .inl (xs (m_w32 (v3 + 2)))]) (r := []) (v := some (.inl x70)) (h1 := h69) (by decide +kernel) rfl rfl rfl rfl rfl hq hN) ?_
        have hK := hK.tr hQ
        refine RK.of (RN.blk (ops := [(669, .aload_n 2), (670, .aload_n 0), (671, .iload_n 3), (672, .iconst 1), (673, .iadd)]) (pc' := 674) (lv' := [(0, .inr (.inr (-2))), (1, .inr (.inr 0)), (2, .inr (.inr 334)), (3, .inl v3)]) (st' := [.inl (m_w32 (v3 + 1)), .inr (.inr (-2)), .inr (.inr 334), .inl x70]) (h' := h69) (cs := []) (by decide +kernel) rfl trivial) ?_
        obtain ⟨hc, hF⟩ := gd_of hF
        refine RK.of (RN.xa (by decide +kernel) hc.1.1 hc.1.2) ?_
        refine RK.of (RN.blk (ops := [(675, .aload_n 0), (676, .iload_n 3), (677, .iconst 2), (678, .iadd)]) (pc' := 679) (lv' := [(0, .inr (.inr (-2))), (1, .inr (.inr 0)), (2, .inr (.inr 334)), (3, .inl v3)]) (st' := [.inl (m_w32 (v3 + 2)), .inr (.inr (-2)), .inl (xs (m_w32 (v3 + 1))), .inr (.inr 334), .inl x70]) (h' := h69) (cs := []) (by decide +kernel) rfl trivial) ?_
        obtain ⟨hc, hF⟩ := gd_of hF
        refine RK.of (RN.xa (by decide +kernel) hc.1.1 hc.1.2) ?_
        obtain ⟨x72, h71, hG, hF⟩ := bd_of hF
        have hq := rcv_ok (as := [.inl (xs (m_w32 (v3 + 1))), .inl (xs (m_w32 (v3 + 2)))]) (TO.gk (o_334 hL))
        obtain ⟨hN, hL, hQ⟩ := DX12_codes (d := 46) hL  hG
        refine RK.of (RN.cv (i := 89) (k := 244) (q2 := iX12_codes) (as := [.inr (.inr 334), .inl (xs (m_w32 (v3 + 1))), .inl (xs (m_w32 (v3 + 2)))]) (r := [.inl x70]) (v := some (.inl x72)) (h1 := h71) (by decide +kernel) rfl rfl rfl rfl rfl hq hN) ?_
        have hK := hK.tr hQ
        rcases it_of hF with ⟨hb, hF⟩ | ⟨hb, hF⟩
        · refine RK.of (RN.ict (cd := .eq) (off := 568) (tgt := 1251) (by decide +kernel) (mif_eq hb)) ?_
          refine RK.of (RN.blk (ops := [(1251, .iinc 3 6)]) (pc' := 1254) (lv' := [(3, .inl (m_w32 (v3 + 6))), (0, .inr (.inr (-2))), (1, .inr (.inr 0)), (2, .inr (.inr 334))]) (st' := []) (h' := h71) (cs := []) (by decide +kernel) rfl trivial) ?_
          refine RK.of (RN.goto (off := -1236) (tgt := 18) (by decide +kernel)) ?_
          exact RK.sub (ih _ _ hL hK hF) (sub_cons rfl (sub_cons rfl (sub_cons rfl (sub_cons rfl sub_nil))))
        · refine RK.of (RN.icf (cd := .eq) (off := 568) (tgt := 1251) (by decide +kernel) (mif_eqn hb)) ?_
          refine RK.of (RN.blk (ops := [(686, .iconst 0)]) (pc' := 687) (lv' := [(0, .inr (.inr (-2))), (1, .inr (.inr 0)), (2, .inr (.inr 334)), (3, .inl v3)]) (st' := [.inl 0]) (h' := h71) (cs := []) (by decide +kernel) rfl trivial) ?_
          exact RK.zR (by decide +kernel) rfl (Or.inl rfl) hL hK hF
      rcases it_of hF with ⟨hb18, hF⟩ | ⟨hb18, hF⟩
      · refine RK.of (fun k9 => RN.tsw (dflt := 1218) (lo := 0) (hi := 38) (offs := #[171, 234, 257, 270, 283, 306, 339, 372, 395, 408, 431, 454, 497, 520, 533, 566, 589, 622, 655, 678, 701, 714, 727, 750, 773, 816, 829, 852, 885, 918, 941, 974, 1017, 1040, 1073, 1096, 1149, 1172, 1195]) (by decide +kernel) (RN.stm hb0 (RN.stm hb1 (RN.stm hb2 (RN.stm hb3 (RN.stm hb4 (RN.stm hb5 (RN.stm hb6 (RN.stm hb7 (RN.stm hb8 (RN.stm hb9 (RN.stm hb10 (RN.stm hb11 (RN.stm hb12 (RN.stm hb13 (RN.stm hb14 (RN.stm hb15 (RN.stm hb16 (RN.stm hb17 (RN.sth hb18 (tgt := 688) rfl k9)))))))))))))))))))) ?_
        refine RK.of (RN.blk (ops := [(688, .aload_n 1), (689, .aload_n 0), (690, .iload_n 3), (691, .iconst 1), (692, .iadd)]) (pc' := 693) (lv' := [(0, .inr (.inr (-2))), (1, .inr (.inr 0)), (2, .inr (.inr 334)), (3, .inl v3)]) (st' := [.inl (m_w32 (v3 + 1)), .inr (.inr (-2)), .inr (.inr 0)]) (h' := h) (cs := []) (by decide +kernel) rfl trivial) ?_
        obtain ⟨hc, hF⟩ := gd_of hF
        refine RK.of (RN.xa (by decide +kernel) hc.1.1 hc.1.2) ?_
        obtain ⟨x74, h73, hG, hF⟩ := bd_of hF
        have hq := rcv_ok (as := [.inl (xs (m_w32 (v3 + 1)))]) (TO.gk (o_0 hL))
        obtain ⟨hN, hL, hQ⟩ := DX11_slips (d := 46) hL  hG
        refine RK.of (RN.cv (i := 90) (k := 129) (q2 := iX11_slips) (as := [.inr (.inr 0), .inl (xs (m_w32 (v3 + 1)))]) (r := []) (v := some (.inl x74)) (h1 := h73) (by decide +kernel) rfl rfl rfl rfl rfl hq hN) ?_
        have hK := hK.tr hQ
        refine RK.of (RN.blk (ops := [(697, .aload_n 2), (698, .aload_n 0), (699, .iload_n 3), (700, .iconst 1), (701, .iadd)]) (pc' := 702) (lv' := [(0, .inr (.inr (-2))), (1, .inr (.inr 0)), (2, .inr (.inr 334)), (3, .inl v3)]) (st' := [.inl (m_w32 (v3 + 1)), .inr (.inr (-2)), .inr (.inr 334), .inl x74]) (h' := h73) (cs := []) (by decide +kernel) rfl trivial) ?_
        obtain ⟨hc, hF⟩ := gd_of hF
        refine RK.of (RN.xa (by decide +kernel) hc.1.1 hc.1.2) ?_
        obtain ⟨x76, h75, hG, hF⟩ := bd_of hF
        have hq := rcv_ok (as := [.inl (xs (m_w32 (v3 + 1)))]) (TO.gk (o_334 hL))
        obtain ⟨hN, hL, hQ⟩ := DX12_slips (d := 45) hL  hG
        refine RK.of (RN.cv (i := 93) (k := 246) (q2 := iX12_slips) (as := [.inr (.inr 334), .inl (xs (m_w32 (v3 + 1)))]) (r := [.inl x74]) (v := some (.inl x76)) (h1 := h75) (by decide +kernel) rfl rfl rfl rfl rfl hq hN) ?_
        have hK := hK.tr hQ
        rcases it_of hF with ⟨hb, hF⟩ | ⟨hb, hF⟩
        · refine RK.of (RN.ict (cd := .eq) (off := 545) (tgt := 1251) (by decide +kernel) (mif_eq hb)) ?_
          refine RK.of (RN.blk (ops := [(1251, .iinc 3 6)]) (pc' := 1254) (lv' := [(3, .inl (m_w32 (v3 + 6))), (0, .inr (.inr (-2))), (1, .inr (.inr 0)), (2, .inr (.inr 334))]) (st' := []) (h' := h75) (cs := []) (by decide +kernel) rfl trivial) ?_
          refine RK.of (RN.goto (off := -1236) (tgt := 18) (by decide +kernel)) ?_
          exact RK.sub (ih _ _ hL hK hF) (sub_cons rfl (sub_cons rfl (sub_cons rfl (sub_cons rfl sub_nil))))
        · refine RK.of (RN.icf (cd := .eq) (off := 545) (tgt := 1251) (by decide +kernel) (mif_eqn hb)) ?_
          refine RK.of (RN.blk (ops := [(709, .iconst 0)]) (pc' := 710) (lv' := [(0, .inr (.inr (-2))), (1, .inr (.inr 0)), (2, .inr (.inr 334)), (3, .inl v3)]) (st' := [.inl 0]) (h' := h75) (cs := []) (by decide +kernel) rfl trivial) ?_
          exact RK.zR (by decide +kernel) rfl (Or.inl rfl) hL hK hF
      rcases it_of hF with ⟨hb19, hF⟩ | ⟨hb19, hF⟩
      · refine RK.of (fun k9 => RN.tsw (dflt := 1218) (lo := 0) (hi := 38) (offs := #[171, 234, 257, 270, 283, 306, 339, 372, 395, 408, 431, 454, 497, 520, 533, 566, 589, 622, 655, 678, 701, 714, 727, 750, 773, 816, 829, 852, 885, 918, 941, 974, 1017, 1040, 1073, 1096, 1149, 1172, 1195]) (by decide +kernel) (RN.stm hb0 (RN.stm hb1 (RN.stm hb2 (RN.stm hb3 (RN.stm hb4 (RN.stm hb5 (RN.stm hb6 (RN.stm hb7 (RN.stm hb8 (RN.stm hb9 (RN.stm hb10 (RN.stm hb11 (RN.stm hb12 (RN.stm hb13 (RN.stm hb14 (RN.stm hb15 (RN.stm hb16 (RN.stm hb17 (RN.stm hb18 (RN.sth hb19 (tgt := 711) rfl k9))))))))))))))))))))) ?_
        refine RK.of (RN.blk (ops := [(711, .aload_n 1), (712, .aload_n 0), (713, .iload_n 3), (714, .iconst 1), (715, .iadd)]) (pc' := 716) (lv' := [(0, .inr (.inr (-2))), (1, .inr (.inr 0)), (2, .inr (.inr 334)), (3, .inl v3)]) (st' := [.inl (m_w32 (v3 + 1)), .inr (.inr (-2)), .inr (.inr 0)]) (h' := h) (cs := []) (by decide +kernel) rfl trivial) ?_
        obtain ⟨hc, hF⟩ := gd_of hF
        refine RK.of (RN.xa (by decide +kernel) hc.1.1 hc.1.2) ?_
        obtain ⟨x78, h77, hG, hF⟩ := bd_of hF
        have hq := rcv_ok (as := [.inl (xs (m_w32 (v3 + 1)))]) (TO.gk (o_0 hL))
        obtain ⟨hN, hL, hQ⟩ := DX11_worst (d := 45) hL  hG
        refine RK.of (RN.cv (i := 94) (k := 130) (q2 := iX11_worst) (as := [.inr (.inr 0), .inl (xs (m_w32 (v3 + 1)))]) (r := []) (v := some (.inl x78)) (h1 := h77) (by decide +kernel) rfl rfl rfl rfl rfl hq hN) ?_
        have hK := hK.tr hQ
        refine RK.of (RN.blk (ops := [(720, .aload_n 2), (721, .aload_n 0), (722, .iload_n 3), (723, .iconst 1), (724, .iadd)]) (pc' := 725) (lv' := [(0, .inr (.inr (-2))), (1, .inr (.inr 0)), (2, .inr (.inr 334)), (3, .inl v3)]) (st' := [.inl (m_w32 (v3 + 1)), .inr (.inr (-2)), .inr (.inr 334), .inl x78]) (h' := h77) (cs := []) (by decide +kernel) rfl trivial) ?_
        obtain ⟨hc, hF⟩ := gd_of hF
        refine RK.of (RN.xa (by decide +kernel) hc.1.1 hc.1.2) ?_
        obtain ⟨x80, h79, hG, hF⟩ := bd_of hF
        have hq := rcv_ok (as := [.inl (xs (m_w32 (v3 + 1)))]) (TO.gk (o_334 hL))
        obtain ⟨hN, hL, hQ⟩ := DX12_worst (d := 45) hL  hG
        refine RK.of (RN.cv (i := 97) (k := 247) (q2 := iX12_worst) (as := [.inr (.inr 334), .inl (xs (m_w32 (v3 + 1)))]) (r := [.inl x78]) (v := some (.inl x80)) (h1 := h79) (by decide +kernel) rfl rfl rfl rfl rfl hq hN) ?_
        have hK := hK.tr hQ
        rcases it_of hF with ⟨hb, hF⟩ | ⟨hb, hF⟩
        · refine RK.of (RN.ict (cd := .eq) (off := 522) (tgt := 1251) (by decide +kernel) (mif_eq hb)) ?_
          refine RK.of (RN.blk (ops := [(1251, .iinc 3 6)]) (pc' := 1254) (lv' := [(3, .inl (m_w32 (v3 + 6))), (0, .inr (.inr (-2))), (1, .inr (.inr 0)), (2, .inr (.inr 334))]) (st' := []) (h' := h79) (cs := []) (by decide +kernel) rfl trivial) ?_
          refine RK.of (RN.goto (off := -1236) (tgt := 18) (by decide +kernel)) ?_
          exact RK.sub (ih _ _ hL hK hF) (sub_cons rfl (sub_cons rfl (sub_cons rfl (sub_cons rfl sub_nil))))
        · refine RK.of (RN.icf (cd := .eq) (off := 522) (tgt := 1251) (by decide +kernel) (mif_eqn hb)) ?_
          refine RK.of (RN.blk (ops := [(732, .iconst 0)]) (pc' := 733) (lv' := [(0, .inr (.inr (-2))), (1, .inr (.inr 0)), (2, .inr (.inr 334)), (3, .inl v3)]) (st' := [.inl 0]) (h' := h79) (cs := []) (by decide +kernel) rfl trivial) ?_
          exact RK.zR (by decide +kernel) rfl (Or.inl rfl) hL hK hF
      rcases it_of hF with ⟨hb20, hF⟩ | ⟨hb20, hF⟩
      · refine RK.of (fun k9 => RN.tsw (dflt := 1218) (lo := 0) (hi := 38) (offs := #[171, 234, 257, 270, 283, 306, 339, 372, 395, 408, 431, 454, 497, 520, 533, 566, 589, 622, 655, 678, 701, 714, 727, 750, 773, 816, 829, 852, 885, 918, 941, 974, 1017, 1040, 1073, 1096, 1149, 1172, 1195]) (by decide +kernel) (RN.stm hb0 (RN.stm hb1 (RN.stm hb2 (RN.stm hb3 (RN.stm hb4 (RN.stm hb5 (RN.stm hb6 (RN.stm hb7 (RN.stm hb8 (RN.stm hb9 (RN.stm hb10 (RN.stm hb11 (RN.stm hb12 (RN.stm hb13 (RN.stm hb14 (RN.stm hb15 (RN.stm hb16 (RN.stm hb17 (RN.stm hb18 (RN.stm hb19 (RN.sth hb20 (tgt := 734) rfl k9)))))))))))))))))))))) ?_
        refine RK.of (RN.blk (ops := [(734, .aload_n 1)]) (pc' := 735) (lv' := [(0, .inr (.inr (-2))), (1, .inr (.inr 0)), (2, .inr (.inr 334)), (3, .inl v3)]) (st' := [.inr (.inr 0)]) (h' := h) (cs := []) (by decide +kernel) rfl trivial) ?_
        obtain ⟨x82, h81, hG, hF⟩ := bd_of hF
        have hq := rcv_ok (as := []) (TO.gk (o_0 hL))
        obtain ⟨hN, hL, hQ⟩ := DX11_idle (d := 46) hL  hG
        refine RK.of (RN.cv (i := 98) (k := 131) (q2 := iX11_idle) (as := [.inr (.inr 0)]) (r := []) (v := some (.inl x82)) (h1 := h81) (by decide +kernel) rfl rfl rfl rfl rfl hq hN) ?_
        have hK := hK.tr hQ
        refine RK.of (RN.blk (ops := [(738, .aload_n 2)]) (pc' := 739) (lv' := [(0, .inr (.inr (-2))), (1, .inr (.inr 0)), (2, .inr (.inr 334)), (3, .inl v3)]) (st' := [.inr (.inr 334), .inl x82]) (h' := h81) (cs := []) (by decide +kernel) rfl trivial) ?_
        obtain ⟨x84, h83, hG, hF⟩ := bd_of hF
        have hq := rcv_ok (as := []) (TO.gk (o_334 hL))
        obtain ⟨hN, hL, hQ⟩ := DX12_idle (d := 47) hL  hG
        refine RK.of (RN.cv (i := 101) (k := 248) (q2 := iX12_idle) (as := [.inr (.inr 334)]) (r := [.inl x82]) (v := some (.inl x84)) (h1 := h83) (by decide +kernel) rfl rfl rfl rfl rfl hq hN) ?_
        have hK := hK.tr hQ
        rcases it_of hF with ⟨hb, hF⟩ | ⟨hb, hF⟩
        · refine RK.of (RN.ict (cd := .eq) (off := 509) (tgt := 1251) (by decide +kernel) (mif_eq hb)) ?_
          refine RK.of (RN.blk (ops := [(1251, .iinc 3 6)]) (pc' := 1254) (lv' := [(3, .inl (m_w32 (v3 + 6))), (0, .inr (.inr (-2))), (1, .inr (.inr 0)), (2, .inr (.inr 334))]) (st' := []) (h' := h83) (cs := []) (by decide +kernel) rfl trivial) ?_
          refine RK.of (RN.goto (off := -1236) (tgt := 18) (by decide +kernel)) ?_
          exact RK.sub (ih _ _ hL hK hF) (sub_cons rfl (sub_cons rfl (sub_cons rfl (sub_cons rfl sub_nil))))
        · refine RK.of (RN.icf (cd := .eq) (off := 509) (tgt := 1251) (by decide +kernel) (mif_eqn hb)) ?_
          refine RK.of (RN.blk (ops := [(745, .iconst 0)]) (pc' := 746) (lv' := [(0, .inr (.inr (-2))), (1, .inr (.inr 0)), (2, .inr (.inr 334)), (3, .inl v3)]) (st' := [.inl 0]) (h' := h83) (cs := []) (by decide +kernel) rfl trivial) ?_
          exact RK.zR (by decide +kernel) rfl (Or.inl rfl) hL hK hF
      rcases it_of hF with ⟨hb21, hF⟩ | ⟨hb21, hF⟩
      · refine RK.of (fun k9 => RN.tsw (dflt := 1218) (lo := 0) (hi := 38) (offs := #[171, 234, 257, 270, 283, 306, 339, 372, 395, 408, 431, 454, 497, 520, 533, 566, 589, 622, 655, 678, 701, 714, 727, 750, 773, 816, 829, 852, 885, 918, 941, 974, 1017, 1040, 1073, 1096, 1149, 1172, 1195]) (by decide +kernel) (RN.stm hb0 (RN.stm hb1 (RN.stm hb2 (RN.stm hb3 (RN.stm hb4 (RN.stm hb5 (RN.stm hb6 (RN.stm hb7 (RN.stm hb8 (RN.stm hb9 (RN.stm hb10 (RN.stm hb11 (RN.stm hb12 (RN.stm hb13 (RN.stm hb14 (RN.stm hb15 (RN.stm hb16 (RN.stm hb17 (RN.stm hb18 (RN.stm hb19 (RN.stm hb20 (RN.sth hb21 (tgt := 747) rfl k9))))))))))))))))))))))) ?_
        refine RK.of (RN.blk (ops := [(747, .aload_n 1)]) (pc' := 748) (lv' := [(0, .inr (.inr (-2))), (1, .inr (.inr 0)), (2, .inr (.inr 334)), (3, .inl v3)]) (st' := [.inr (.inr 0)]) (h' := h) (cs := []) (by decide +kernel) rfl trivial) ?_
        obtain ⟨x86, h85, hG, hF⟩ := bd_of hF
        have hq := rcv_ok (as := []) (TO.gk (o_0 hL))
        obtain ⟨hN, hL, hQ⟩ := DX11_least (d := 46) hL  hG
        refine RK.of (RN.cv (i := 102) (k := 132) (q2 := iX11_least) (as := [.inr (.inr 0)]) (r := []) (v := some (.inl x86)) (h1 := h85) (by decide +kernel) rfl rfl rfl rfl rfl hq hN) ?_
        have hK := hK.tr hQ
        refine RK.of (RN.blk (ops := [(751, .aload_n 2)]) (pc' := 752) (lv' := [(0, .inr (.inr (-2))), (1, .inr (.inr 0)), (2, .inr (.inr 334)), (3, .inl v3)]) (st' := [.inr (.inr 334), .inl x86]) (h' := h85) (cs := []) (by decide +kernel) rfl trivial) ?_
        obtain ⟨x88, h87, hG, hF⟩ := bd_of hF
        have hq := rcv_ok (as := []) (TO.gk (o_334 hL))
        obtain ⟨hN, hL, hQ⟩ := DX12_least (d := 45) hL  hG
        refine RK.of (RN.cv (i := 105) (k := 252) (q2 := iX12_least) (as := [.inr (.inr 334)]) (r := [.inl x86]) (v := some (.inl x88)) (h1 := h87) (by decide +kernel) rfl rfl rfl rfl rfl hq hN) ?_
        have hK := hK.tr hQ
        rcases it_of hF with ⟨hb, hF⟩ | ⟨hb, hF⟩
        · refine RK.of (RN.ict (cd := .eq) (off := 496) (tgt := 1251) (by decide +kernel) (mif_eq hb)) ?_
          refine RK.of (RN.blk (ops := [(1251, .iinc 3 6)]) (pc' := 1254) (lv' := [(3, .inl (m_w32 (v3 + 6))), (0, .inr (.inr (-2))), (1, .inr (.inr 0)), (2, .inr (.inr 334))]) (st' := []) (h' := h87) (cs := []) (by decide +kernel) rfl trivial) ?_
          refine RK.of (RN.goto (off := -1236) (tgt := 18) (by decide +kernel)) ?_
          exact RK.sub (ih _ _ hL hK hF) (sub_cons rfl (sub_cons rfl (sub_cons rfl (sub_cons rfl sub_nil))))
        · refine RK.of (RN.icf (cd := .eq) (off := 496) (tgt := 1251) (by decide +kernel) (mif_eqn hb)) ?_
          refine RK.of (RN.blk (ops := [(758, .iconst 0)]) (pc' := 759) (lv' := [(0, .inr (.inr (-2))), (1, .inr (.inr 0)), (2, .inr (.inr 334)), (3, .inl v3)]) (st' := [.inl 0]) (h' := h87) (cs := []) (by decide +kernel) rfl trivial) ?_
          exact RK.zR (by decide +kernel) rfl (Or.inl rfl) hL hK hF
      rcases it_of hF with ⟨hb22, hF⟩ | ⟨hb22, hF⟩
      · refine RK.of (fun k9 => RN.tsw (dflt := 1218) (lo := 0) (hi := 38) (offs := #[171, 234, 257, 270, 283, 306, 339, 372, 395, 408, 431, 454, 497, 520, 533, 566, 589, 622, 655, 678, 701, 714, 727, 750, 773, 816, 829, 852, 885, 918, 941, 974, 1017, 1040, 1073, 1096, 1149, 1172, 1195]) (by decide +kernel) (RN.stm hb0 (RN.stm hb1 (RN.stm hb2 (RN.stm hb3 (RN.stm hb4 (RN.stm hb5 (RN.stm hb6 (RN.stm hb7 (RN.stm hb8 (RN.stm hb9 (RN.stm hb10 (RN.stm hb11 (RN.stm hb12 (RN.stm hb13 (RN.stm hb14 (RN.stm hb15 (RN.stm hb16 (RN.stm hb17 (RN.stm hb18 (RN.stm hb19 (RN.stm hb20 (RN.stm hb21 (RN.sth hb22 (tgt := 760) rfl k9)))))))))))))))))))))))) ?_
        refine RK.of (RN.blk (ops := [(760, .aload_n 1), (761, .aload_n 0), (762, .iload_n 3), (763, .iconst 1), (764, .iadd)]) (pc' := 765) (lv' := [(0, .inr (.inr (-2))), (1, .inr (.inr 0)), (2, .inr (.inr 334)), (3, .inl v3)]) (st' := [.inl (m_w32 (v3 + 1)), .inr (.inr (-2)), .inr (.inr 0)]) (h' := h) (cs := []) (by decide +kernel) rfl trivial) ?_
        obtain ⟨hc, hF⟩ := gd_of hF
        refine RK.of (RN.xa (by decide +kernel) hc.1.1 hc.1.2) ?_
        obtain ⟨x90, h89, hG, hF⟩ := bd_of hF
        have hq := rcv_ok (as := [.inl (xs (m_w32 (v3 + 1)))]) (TO.gk (o_0 hL))
        obtain ⟨hN, hL, hQ⟩ := DX11_one (d := 44) hL  hG
        refine RK.of (RN.cv (i := 106) (k := 133) (q2 := iX11_one) (as := [.inr (.inr 0), .inl (xs (m_w32 (v3 + 1)))]) (r := []) (v := some (.inl x90)) (h1 := h89) (by decide +kernel) rfl rfl rfl rfl rfl hq hN) ?_
        have hK := hK.tr hQ
        refine RK.of (RN.blk (ops := [(769, .aload_n 2), (770, .aload_n 0), (771, .iload_n 3), (772, .iconst 1), (773, .iadd)]) (pc' := 774) (lv' := [(0, .inr (.inr (-2))), (1, .inr (.inr 0)), (2, .inr (.inr 334)), (3, .inl v3)]) (st' := [.inl (m_w32 (v3 + 1)), .inr (.inr (-2)), .inr (.inr 334), .inl x90]) (h' := h89) (cs := []) (by decide +kernel) rfl trivial) ?_
        obtain ⟨hc, hF⟩ := gd_of hF
        refine RK.of (RN.xa (by decide +kernel) hc.1.1 hc.1.2) ?_
        obtain ⟨x92, h91, hG, hF⟩ := bd_of hF
        have hq := rcv_ok (as := [.inl (xs (m_w32 (v3 + 1)))]) (TO.gk (o_334 hL))
        obtain ⟨hN, hL, hQ⟩ := DX12_one (d := 43) hL  hG
        refine RK.of (RN.cv (i := 109) (k := 257) (q2 := iX12_one) (as := [.inr (.inr 334), .inl (xs (m_w32 (v3 + 1)))]) (r := [.inl x90]) (v := some (.inl x92)) (h1 := h91) (by decide +kernel) rfl rfl rfl rfl rfl hq hN) ?_
        have hK := hK.tr hQ
        rcases it_of hF with ⟨hb, hF⟩ | ⟨hb, hF⟩
        · refine RK.of (RN.ict (cd := .eq) (off := 473) (tgt := 1251) (by decide +kernel) (mif_eq hb)) ?_
          refine RK.of (RN.blk (ops := [(1251, .iinc 3 6)]) (pc' := 1254) (lv' := [(3, .inl (m_w32 (v3 + 6))), (0, .inr (.inr (-2))), (1, .inr (.inr 0)), (2, .inr (.inr 334))]) (st' := []) (h' := h91) (cs := []) (by decide +kernel) rfl trivial) ?_
          refine RK.of (RN.goto (off := -1236) (tgt := 18) (by decide +kernel)) ?_
          exact RK.sub (ih _ _ hL hK hF) (sub_cons rfl (sub_cons rfl (sub_cons rfl (sub_cons rfl sub_nil))))
        · refine RK.of (RN.icf (cd := .eq) (off := 473) (tgt := 1251) (by decide +kernel) (mif_eqn hb)) ?_
          refine RK.of (RN.blk (ops := [(781, .iconst 0)]) (pc' := 782) (lv' := [(0, .inr (.inr (-2))), (1, .inr (.inr 0)), (2, .inr (.inr 334)), (3, .inl v3)]) (st' := [.inl 0]) (h' := h91) (cs := []) (by decide +kernel) rfl trivial) ?_
          exact RK.zR (by decide +kernel) rfl (Or.inl rfl) hL hK hF
      rcases it_of hF with ⟨hb23, hF⟩ | ⟨hb23, hF⟩
      · refine RK.of (fun k9 => RN.tsw (dflt := 1218) (lo := 0) (hi := 38) (offs := #[171, 234, 257, 270, 283, 306, 339, 372, 395, 408, 431, 454, 497, 520, 533, 566, 589, 622, 655, 678, 701, 714, 727, 750, 773, 816, 829, 852, 885, 918, 941, 974, 1017, 1040, 1073, 1096, 1149, 1172, 1195]) (by decide +kernel) (RN.stm hb0 (RN.stm hb1 (RN.stm hb2 (RN.stm hb3 (RN.stm hb4 (RN.stm hb5 (RN.stm hb6 (RN.stm hb7 (RN.stm hb8 (RN.stm hb9 (RN.stm hb10 (RN.stm hb11 (RN.stm hb12 (RN.stm hb13 (RN.stm hb14 (RN.stm hb15 (RN.stm hb16 (RN.stm hb17 (RN.stm hb18 (RN.stm hb19 (RN.stm hb20 (RN.stm hb21 (RN.stm hb22 (RN.sth hb23 (tgt := 783) rfl k9))))))))))))))))))))))))) ?_
        refine RK.of (RN.blk (ops := [(783, .aload_n 1), (784, .aload_n 0), (785, .iload_n 3), (786, .iconst 1), (787, .iadd)]) (pc' := 788) (lv' := [(0, .inr (.inr (-2))), (1, .inr (.inr 0)), (2, .inr (.inr 334)), (3, .inl v3)]) (st' := [.inl (m_w32 (v3 + 1)), .inr (.inr (-2)), .inr (.inr 0)]) (h' := h) (cs := []) (by decide +kernel) rfl trivial) ?_
        obtain ⟨hc, hF⟩ := gd_of hF
        refine RK.of (RN.xa (by decide +kernel) hc.1.1 hc.1.2) ?_
        obtain ⟨x94, h93, hG, hF⟩ := bd_of hF
        have hq := rcv_ok (as := [.inl (xs (m_w32 (v3 + 1)))]) (TO.gk (o_0 hL))
        obtain ⟨hN, hL, hQ⟩ := DX11_change (d := 45) hL  hG
        refine RK.of (RN.cv (i := 110) (k := 134) (q2 := iX11_change) (as := [.inr (.inr 0), .inl (xs (m_w32 (v3 + 1)))]) (r := []) (v := some (.inl x94)) (h1 := h93) (by decide +kernel) rfl rfl rfl rfl rfl hq hN) ?_
        have hK := hK.tr hQ
        refine RK.of (RN.blk (ops := [(792, .aload_n 2), (793, .aload_n 0), (794, .iload_n 3), (795, .iconst 1), (796, .iadd)]) (pc' := 797) (lv' := [(0, .inr (.inr (-2))), (1, .inr (.inr 0)), (2, .inr (.inr 334)), (3, .inl v3)]) (st' := [.inl (m_w32 (v3 + 1)), .inr (.inr (-2)), .inr (.inr 334), .inl x94]) (h' := h93) (cs := []) (by decide +kernel) rfl trivial) ?_
        obtain ⟨hc, hF⟩ := gd_of hF
        refine RK.of (RN.xa (by decide +kernel) hc.1.1 hc.1.2) ?_
        obtain ⟨x96, h95, hG, hF⟩ := bd_of hF
        have hq := rcv_ok (as := [.inl (xs (m_w32 (v3 + 1)))]) (TO.gk (o_334 hL))
        obtain ⟨hN, hL, hQ⟩ := DX12_change (d := 44) hL  hG
        refine RK.of (RN.cv (i := 113) (k := 259) (q2 := iX12_change) (as := [.inr (.inr 334), .inl (xs (m_w32 (v3 + 1)))]) (r := [.inl x94]) (v := some (.inl x96)) (h1 := h95) (by decide +kernel) rfl rfl rfl rfl rfl hq hN) ?_
        have hK := hK.tr hQ
        rcases it_of hF with ⟨hb, hF⟩ | ⟨hb, hF⟩
        · refine RK.of (RN.ict (cd := .eq) (off := 450) (tgt := 1251) (by decide +kernel) (mif_eq hb)) ?_
          refine RK.of (RN.blk (ops := [(1251, .iinc 3 6)]) (pc' := 1254) (lv' := [(3, .inl (m_w32 (v3 + 6))), (0, .inr (.inr (-2))), (1, .inr (.inr 0)), (2, .inr (.inr 334))]) (st' := []) (h' := h95) (cs := []) (by decide +kernel) rfl trivial) ?_
          refine RK.of (RN.goto (off := -1236) (tgt := 18) (by decide +kernel)) ?_
          exact RK.sub (ih _ _ hL hK hF) (sub_cons rfl (sub_cons rfl (sub_cons rfl (sub_cons rfl sub_nil))))
        · refine RK.of (RN.icf (cd := .eq) (off := 450) (tgt := 1251) (by decide +kernel) (mif_eqn hb)) ?_
          refine RK.of (RN.blk (ops := [(804, .iconst 0)]) (pc' := 805) (lv' := [(0, .inr (.inr (-2))), (1, .inr (.inr 0)), (2, .inr (.inr 334)), (3, .inl v3)]) (st' := [.inl 0]) (h' := h95) (cs := []) (by decide +kernel) rfl trivial) ?_
          exact RK.zR (by decide +kernel) rfl (Or.inl rfl) hL hK hF
      rcases it_of hF with ⟨hb24, hF⟩ | ⟨hb24, hF⟩
      · refine RK.of (fun k9 => RN.tsw (dflt := 1218) (lo := 0) (hi := 38) (offs := #[171, 234, 257, 270, 283, 306, 339, 372, 395, 408, 431, 454, 497, 520, 533, 566, 589, 622, 655, 678, 701, 714, 727, 750, 773, 816, 829, 852, 885, 918, 941, 974, 1017, 1040, 1073, 1096, 1149, 1172, 1195]) (by decide +kernel) (RN.stm hb0 (RN.stm hb1 (RN.stm hb2 (RN.stm hb3 (RN.stm hb4 (RN.stm hb5 (RN.stm hb6 (RN.stm hb7 (RN.stm hb8 (RN.stm hb9 (RN.stm hb10 (RN.stm hb11 (RN.stm hb12 (RN.stm hb13 (RN.stm hb14 (RN.stm hb15 (RN.stm hb16 (RN.stm hb17 (RN.stm hb18 (RN.stm hb19 (RN.stm hb20 (RN.stm hb21 (RN.stm hb22 (RN.stm hb23 (RN.sth hb24 (tgt := 806) rfl k9)))))))))))))))))))))))))) ?_
        refine RK.of (RN.blk (ops := [(806, .aload_n 1), (807, .aload_n 0), (808, .iload_n 3), (809, .iconst 1), (810, .iadd)]) (pc' := 811) (lv' := [(0, .inr (.inr (-2))), (1, .inr (.inr 0)), (2, .inr (.inr 334)), (3, .inl v3)]) (st' := [.inl (m_w32 (v3 + 1)), .inr (.inr (-2)), .inr (.inr 0)]) (h' := h) (cs := []) (by decide +kernel) rfl trivial) ?_
        obtain ⟨hc, hF⟩ := gd_of hF
        refine RK.of (RN.xa (by decide +kernel) hc.1.1 hc.1.2) ?_
        refine RK.of (RN.blk (ops := [(812, .aload_n 0), (813, .iload_n 3), (814, .iconst 2), (815, .iadd)]) (pc' := 816) (lv' := [(0, .inr (.inr (-2))), (1, .inr (.inr 0)), (2, .inr (.inr 334)), (3, .inl v3)]) (st' := [.inl (m_w32 (v3 + 2)), .inr (.inr (-2)), .inl (xs (m_w32 (v3 + 1))), .inr (.inr 0)]) (h' := h) (cs := []) (by decide +kernel) rfl trivial) ?_
        obtain ⟨hc, hF⟩ := gd_of hF
        refine RK.of (RN.xa (by decide +kernel) hc.1.1 hc.1.2) ?_
        refine RK.of (RN.blk (ops := [(817, .aload_n 0), (818, .iload_n 3), (819, .iconst 3), (820, .iadd)]) (pc' := 821) (lv' := [(0, .inr (.inr (-2))), (1, .inr (.inr 0)), (2, .inr (.inr 334)), (3, .inl v3)]) (st' := [.inl (m_w32 (v3 + 3)), .inr (.inr (-2)), .inl (xs (m_w32 (v3 + 2))), .inl (xs (m_w32 (v3 + 1))), .inr (.inr 0)]) (h' := h) (cs := []) (by decide +kernel) rfl trivial) ?_
        obtain ⟨hc, hF⟩ := gd_of hF
        refine RK.of (RN.xa (by decide +kernel) hc.1.1 hc.1.2) ?_
        obtain ⟨x98, h97, hG, hF⟩ := bd_of hF
        have hq := rcv_ok (as := [.inl (xs (m_w32 (v3 + 1))), .inl (xs (m_w32 (v3 + 2))), .inl (xs (m_w32 (v3 + 3)))]) (TO.gk (o_0 hL))
        obtain ⟨hN, hL, hQ⟩ := DX11_ahead (d := 44) hL  hG
        refine RK.of (RN.cv (i := 114) (k := 135) (q2 := iX11_ahead) (as := [.inr (.inr 0), .inl (xs (m_w32 (v3 + 1))), .inl (xs (m_w32 (v3 + 2))), .inl (xs (m_w32 (v3 + 3)))]) (r := []) (v := some (.inl x98)) (h1 := h97) (by decide +kernel) rfl rfl rfl rfl rfl hq hN) ?_
        have hK := hK.tr hQ
        refine RK.of (RN.blk (ops := [(825, .aload_n 2), (826, .aload_n 0), (827, .iload_n 3), (828, .iconst 1), (829, .iadd)]) (pc' := 830) (lv' := [(0, .inr (.inr (-2))), (1, .inr (.inr 0)), (2, .inr (.inr 334)), (3, .inl v3)]) (st' := [.inl (m_w32 (v3 + 1)), .inr (.inr (-2)), .inr (.inr 334), .inl x98]) (h' := h97) (cs := []) (by decide +kernel) rfl trivial) ?_
        obtain ⟨hc, hF⟩ := gd_of hF
        refine RK.of (RN.xa (by decide +kernel) hc.1.1 hc.1.2) ?_
        refine RK.of (RN.blk (ops := [(831, .aload_n 0), (832, .iload_n 3), (833, .iconst 2), (834, .iadd)]) (pc' := 835) (lv' := [(0, .inr (.inr (-2))), (1, .inr (.inr 0)), (2, .inr (.inr 334)), (3, .inl v3)]) (st' := [.inl (m_w32 (v3 + 2)), .inr (.inr (-2)), .inl (xs (m_w32 (v3 + 1))), .inr (.inr 334), .inl x98]) (h' := h97) (cs := []) (by decide +kernel) rfl trivial) ?_
        obtain ⟨hc, hF⟩ := gd_of hF
        refine RK.of (RN.xa (by decide +kernel) hc.1.1 hc.1.2) ?_
        refine RK.of (RN.blk (ops := [(836, .aload_n 0), (837, .iload_n 3), (838, .iconst 3), (839, .iadd)]) (pc' := 840) (lv' := [(0, .inr (.inr (-2))), (1, .inr (.inr 0)), (2, .inr (.inr 334)), (3, .inl v3)]) (st' := [.inl (m_w32 (v3 + 3)), .inr (.inr (-2)), .inl (xs (m_w32 (v3 + 2))), .inl (xs (m_w32 (v3 + 1))), .inr (.inr 334), .inl x98]) (h' := h97) (cs := []) (by decide +kernel) rfl trivial) ?_
        obtain ⟨hc, hF⟩ := gd_of hF
        refine RK.of (RN.xa (by decide +kernel) hc.1.1 hc.1.2) ?_
        obtain ⟨x100, h99, hG, hF⟩ := bd_of hF
        have hq := rcv_ok (as := [.inl (xs (m_w32 (v3 + 1))), .inl (xs (m_w32 (v3 + 2))), .inl (xs (m_w32 (v3 + 3)))]) (TO.gk (o_334 hL))
        obtain ⟨hN, hL, hQ⟩ := DX12_ahead (d := 42) hL  hG
        refine RK.of (RN.cv (i := 117) (k := 260) (q2 := iX12_ahead) (as := [.inr (.inr 334), .inl (xs (m_w32 (v3 + 1))), .inl (xs (m_w32 (v3 + 2))), .inl (xs (m_w32 (v3 + 3)))]) (r := [.inl x98]) (v := some (.inl x100)) (h1 := h99) (by decide +kernel) rfl rfl rfl rfl rfl hq hN) ?_
        have hK := hK.tr hQ
        rcases it_of hF with ⟨hb, hF⟩ | ⟨hb, hF⟩
        · refine RK.of (RN.ict (cd := .eq) (off := 407) (tgt := 1251) (by decide +kernel) (mif_eq hb)) ?_
          refine RK.of (RN.blk (ops := [(1251, .iinc 3 6)]) (pc' := 1254) (lv' := [(3, .inl (m_w32 (v3 + 6))), (0, .inr (.inr (-2))), (1, .inr (.inr 0)), (2, .inr (.inr 334))]) (st' := []) (h' := h99) (cs := []) (by decide +kernel) rfl trivial) ?_
          refine RK.of (RN.goto (off := -1236) (tgt := 18) (by decide +kernel)) ?_
          exact RK.sub (ih _ _ hL hK hF) (sub_cons rfl (sub_cons rfl (sub_cons rfl (sub_cons rfl sub_nil))))
        · refine RK.of (RN.icf (cd := .eq) (off := 407) (tgt := 1251) (by decide +kernel) (mif_eqn hb)) ?_
          refine RK.of (RN.blk (ops := [(847, .iconst 0)]) (pc' := 848) (lv' := [(0, .inr (.inr (-2))), (1, .inr (.inr 0)), (2, .inr (.inr 334)), (3, .inl v3)]) (st' := [.inl 0]) (h' := h99) (cs := []) (by decide +kernel) rfl trivial) ?_
          exact RK.zR (by decide +kernel) rfl (Or.inl rfl) hL hK hF
      rcases it_of hF with ⟨hb25, hF⟩ | ⟨hb25, hF⟩
      · refine RK.of (fun k9 => RN.tsw (dflt := 1218) (lo := 0) (hi := 38) (offs := #[171, 234, 257, 270, 283, 306, 339, 372, 395, 408, 431, 454, 497, 520, 533, 566, 589, 622, 655, 678, 701, 714, 727, 750, 773, 816, 829, 852, 885, 918, 941, 974, 1017, 1040, 1073, 1096, 1149, 1172, 1195]) (by decide +kernel) (RN.stm hb0 (RN.stm hb1 (RN.stm hb2 (RN.stm hb3 (RN.stm hb4 (RN.stm hb5 (RN.stm hb6 (RN.stm hb7 (RN.stm hb8 (RN.stm hb9 (RN.stm hb10 (RN.stm hb11 (RN.stm hb12 (RN.stm hb13 (RN.stm hb14 (RN.stm hb15 (RN.stm hb16 (RN.stm hb17 (RN.stm hb18 (RN.stm hb19 (RN.stm hb20 (RN.stm hb21 (RN.stm hb22 (RN.stm hb23 (RN.stm hb24 (RN.sth hb25 (tgt := 849) rfl k9))))))))))))))))))))))))))) ?_
        refine RK.of (RN.blk (ops := [(849, .aload_n 1)]) (pc' := 850) (lv' := [(0, .inr (.inr (-2))), (1, .inr (.inr 0)), (2, .inr (.inr 334)), (3, .inl v3)]) (st' := [.inr (.inr 0)]) (h' := h) (cs := []) (by decide +kernel) rfl trivial) ?_
        obtain ⟨x102, h101, hG, hF⟩ := bd_of hF
        have hq := rcv_ok (as := []) (TO.gk (o_0 hL))
        obtain ⟨hN, hL, hQ⟩ := DX11_sorted (d := 44) hL  hG
        refine RK.of (RN.cv (i := 118) (k := 136) (q2 := iX11_sorted) (as := [.inr (.inr 0)]) (r := []) (v := some (.inl x102)) (h1 := h101) (by decide +kernel) rfl rfl rfl rfl rfl hq hN) ?_
        have hK := hK.tr hQ
        refine RK.of (RN.blk (ops := [(853, .aload_n 2)]) (pc' := 854) (lv' := [(0, .inr (.inr (-2))), (1, .inr (.inr 0)), (2, .inr (.inr 334)), (3, .inl v3)]) (st' := [.inr (.inr 334), .inl x102]) (h' := h101) (cs := []) (by decide +kernel) rfl trivial) ?_
        obtain ⟨x104, h103, hG, hF⟩ := bd_of hF
        have hq := rcv_ok (as := []) (TO.gk (o_334 hL))
        obtain ⟨hN, hL, hQ⟩ := DX12_sorted (d := 43) hL  hG
        refine RK.of (RN.cv (i := 121) (k := 261) (q2 := iX12_sorted) (as := [.inr (.inr 334)]) (r := [.inl x102]) (v := some (.inl x104)) (h1 := h103) (by decide +kernel) rfl rfl rfl rfl rfl hq hN) ?_
        have hK := hK.tr hQ
        rcases it_of hF with ⟨hb, hF⟩ | ⟨hb, hF⟩
        · refine RK.of (RN.ict (cd := .eq) (off := 394) (tgt := 1251) (by decide +kernel) (mif_eq hb)) ?_
          refine RK.of (RN.blk (ops := [(1251, .iinc 3 6)]) (pc' := 1254) (lv' := [(3, .inl (m_w32 (v3 + 6))), (0, .inr (.inr (-2))), (1, .inr (.inr 0)), (2, .inr (.inr 334))]) (st' := []) (h' := h103) (cs := []) (by decide +kernel) rfl trivial) ?_
          refine RK.of (RN.goto (off := -1236) (tgt := 18) (by decide +kernel)) ?_
          exact RK.sub (ih _ _ hL hK hF) (sub_cons rfl (sub_cons rfl (sub_cons rfl (sub_cons rfl sub_nil))))
        · refine RK.of (RN.icf (cd := .eq) (off := 394) (tgt := 1251) (by decide +kernel) (mif_eqn hb)) ?_
          refine RK.of (RN.blk (ops := [(860, .iconst 0)]) (pc' := 861) (lv' := [(0, .inr (.inr (-2))), (1, .inr (.inr 0)), (2, .inr (.inr 334)), (3, .inl v3)]) (st' := [.inl 0]) (h' := h103) (cs := []) (by decide +kernel) rfl trivial) ?_
          exact RK.zR (by decide +kernel) rfl (Or.inl rfl) hL hK hF
      rcases it_of hF with ⟨hb26, hF⟩ | ⟨hb26, hF⟩
      · refine RK.of (fun k9 => RN.tsw (dflt := 1218) (lo := 0) (hi := 38) (offs := #[171, 234, 257, 270, 283, 306, 339, 372, 395, 408, 431, 454, 497, 520, 533, 566, 589, 622, 655, 678, 701, 714, 727, 750, 773, 816, 829, 852, 885, 918, 941, 974, 1017, 1040, 1073, 1096, 1149, 1172, 1195]) (by decide +kernel) (RN.stm hb0 (RN.stm hb1 (RN.stm hb2 (RN.stm hb3 (RN.stm hb4 (RN.stm hb5 (RN.stm hb6 (RN.stm hb7 (RN.stm hb8 (RN.stm hb9 (RN.stm hb10 (RN.stm hb11 (RN.stm hb12 (RN.stm hb13 (RN.stm hb14 (RN.stm hb15 (RN.stm hb16 (RN.stm hb17 (RN.stm hb18 (RN.stm hb19 (RN.stm hb20 (RN.stm hb21 (RN.stm hb22 (RN.stm hb23 (RN.stm hb24 (RN.stm hb25 (RN.sth hb26 (tgt := 862) rfl k9)))))))))))))))))))))))))))) ?_
        refine RK.of (RN.blk (ops := [(862, .aload_n 1), (863, .aload_n 0), (864, .iload_n 3), (865, .iconst 1), (866, .iadd)]) (pc' := 867) (lv' := [(0, .inr (.inr (-2))), (1, .inr (.inr 0)), (2, .inr (.inr 334)), (3, .inl v3)]) (st' := [.inl (m_w32 (v3 + 1)), .inr (.inr (-2)), .inr (.inr 0)]) (h' := h) (cs := []) (by decide +kernel) rfl trivial) ?_
        obtain ⟨hc, hF⟩ := gd_of hF
        refine RK.of (RN.xa (by decide +kernel) hc.1.1 hc.1.2) ?_
        obtain ⟨x106, h105, hG, hF⟩ := bd_of hF
        have hq := rcv_ok (as := [.inl (xs (m_w32 (v3 + 1)))]) (TO.gk (o_0 hL))
        obtain ⟨hN, hL, hQ⟩ := DX11_tied (d := 44) hL  hG
        refine RK.of (RN.cv (i := 122) (k := 137) (q2 := iX11_tied) (as := [.inr (.inr 0), .inl (xs (m_w32 (v3 + 1)))]) (r := []) (v := some (.inl x106)) (h1 := h105) (by decide +kernel) rfl rfl rfl rfl rfl hq hN) ?_
        have hK := hK.tr hQ
        refine RK.of (RN.blk (ops := [(871, .aload_n 2), (872, .aload_n 0), (873, .iload_n 3), (874, .iconst 1), (875, .iadd)]) (pc' := 876) (lv' := [(0, .inr (.inr (-2))), (1, .inr (.inr 0)), (2, .inr (.inr 334)), (3, .inl v3)]) (st' := [.inl (m_w32 (v3 + 1)), .inr (.inr (-2)), .inr (.inr 334), .inl x106]) (h' := h105) (cs := []) (by decide +kernel) rfl trivial) ?_
        obtain ⟨hc, hF⟩ := gd_of hF
        refine RK.of (RN.xa (by decide +kernel) hc.1.1 hc.1.2) ?_
        obtain ⟨x108, h107, hG, hF⟩ := bd_of hF
        have hq := rcv_ok (as := [.inl (xs (m_w32 (v3 + 1)))]) (TO.gk (o_334 hL))
        obtain ⟨hN, hL, hQ⟩ := DX12_tied (d := 43) hL  hG
        refine RK.of (RN.cv (i := 125) (k := 262) (q2 := iX12_tied) (as := [.inr (.inr 334), .inl (xs (m_w32 (v3 + 1)))]) (r := [.inl x106]) (v := some (.inl x108)) (h1 := h107) (by decide +kernel) rfl rfl rfl rfl rfl hq hN) ?_
        have hK := hK.tr hQ
        rcases it_of hF with ⟨hb, hF⟩ | ⟨hb, hF⟩
        · refine RK.of (RN.ict (cd := .eq) (off := 371) (tgt := 1251) (by decide +kernel) (mif_eq hb)) ?_
          refine RK.of (RN.blk (ops := [(1251, .iinc 3 6)]) (pc' := 1254) (lv' := [(3, .inl (m_w32 (v3 + 6))), (0, .inr (.inr (-2))), (1, .inr (.inr 0)), (2, .inr (.inr 334))]) (st' := []) (h' := h107) (cs := []) (by decide +kernel) rfl trivial) ?_
          refine RK.of (RN.goto (off := -1236) (tgt := 18) (by decide +kernel)) ?_
          exact RK.sub (ih _ _ hL hK hF) (sub_cons rfl (sub_cons rfl (sub_cons rfl (sub_cons rfl sub_nil))))
        · refine RK.of (RN.icf (cd := .eq) (off := 371) (tgt := 1251) (by decide +kernel) (mif_eqn hb)) ?_
          refine RK.of (RN.blk (ops := [(883, .iconst 0)]) (pc' := 884) (lv' := [(0, .inr (.inr (-2))), (1, .inr (.inr 0)), (2, .inr (.inr 334)), (3, .inl v3)]) (st' := [.inl 0]) (h' := h107) (cs := []) (by decide +kernel) rfl trivial) ?_
          exact RK.zR (by decide +kernel) rfl (Or.inl rfl) hL hK hF
      rcases it_of hF with ⟨hb27, hF⟩ | ⟨hb27, hF⟩
      · refine RK.of (fun k9 => RN.tsw (dflt := 1218) (lo := 0) (hi := 38) (offs := #[171, 234, 257, 270, 283, 306, 339, 372, 395, 408, 431, 454, 497, 520, 533, 566, 589, 622, 655, 678, 701, 714, 727, 750, 773, 816, 829, 852, 885, 918, 941, 974, 1017, 1040, 1073, 1096, 1149, 1172, 1195]) (by decide +kernel) (RN.stm hb0 (RN.stm hb1 (RN.stm hb2 (RN.stm hb3 (RN.stm hb4 (RN.stm hb5 (RN.stm hb6 (RN.stm hb7 (RN.stm hb8 (RN.stm hb9 (RN.stm hb10 (RN.stm hb11 (RN.stm hb12 (RN.stm hb13 (RN.stm hb14 (RN.stm hb15 (RN.stm hb16 (RN.stm hb17 (RN.stm hb18 (RN.stm hb19 (RN.stm hb20 (RN.stm hb21 (RN.stm hb22 (RN.stm hb23 (RN.stm hb24 (RN.stm hb25 (RN.stm hb26 (RN.sth hb27 (tgt := 885) rfl k9))))))))))))))))))))))))))))) ?_
        refine RK.of (RN.blk (ops := [(885, .aload_n 1), (886, .aload_n 0), (887, .iload_n 3), (888, .iconst 1), (889, .iadd)]) (pc' := 890) (lv' := [(0, .inr (.inr (-2))), (1, .inr (.inr 0)), (2, .inr (.inr 334)), (3, .inl v3)]) (st' := [.inl (m_w32 (v3 + 1)), .inr (.inr (-2)), .inr (.inr 0)]) (h' := h) (cs := []) (by decide +kernel) rfl trivial) ?_
        obtain ⟨hc, hF⟩ := gd_of hF
        refine RK.of (RN.xa (by decide +kernel) hc.1.1 hc.1.2) ?_
        refine RK.of (RN.blk (ops := [(891, .aload_n 0), (892, .iload_n 3), (893, .iconst 2), (894, .iadd)]) (pc' := 895) (lv' := [(0, .inr (.inr (-2))), (1, .inr (.inr 0)), (2, .inr (.inr 334)), (3, .inl v3)]) (st' := [.inl (m_w32 (v3 + 2)), .inr (.inr (-2)), .inl (xs (m_w32 (v3 + 1))), .inr (.inr 0)]) (h' := h) (cs := []) (by decide +kernel) rfl trivial) ?_
        obtain ⟨hc, hF⟩ := gd_of hF
        refine RK.of (RN.xa (by decide +kernel) hc.1.1 hc.1.2) ?_
        obtain ⟨x110, h109, hG, hF⟩ := bd_of hF
        have hq := rcv_ok (as := [.inl (xs (m_w32 (v3 + 1))), .inl (xs (m_w32 (v3 + 2)))]) (TO.gk (o_0 hL))
        obtain ⟨hN, hL, hQ⟩ := DX11_enough (d := 44) hL  hG
        refine RK.of (RN.cv (i := 126) (k := 138) (q2 := iX11_enough) (as := [.inr (.inr 0), .inl (xs (m_w32 (v3 + 1))), .inl (xs (m_w32 (v3 + 2)))]) (r := []) (v := some (.inl x110)) (h1 := h109) (by decide +kernel) rfl rfl rfl rfl rfl hq hN) ?_
        have hK := hK.tr hQ
        refine RK.of (RN.blk (ops := [(899, .aload_n 2), (900, .aload_n 0), (901, .iload_n 3), (902, .iconst 1), (903, .iadd)]) (pc' := 904) (lv' := [(0, .inr (.inr (-2))), (1, .inr (.inr 0)), (2, .inr (.inr 334)), (3, .inl v3)]) (st' := [.inl (m_w32 (v3 + 1)), .inr (.inr (-2)), .inr (.inr 334), .inl x110]) (h' := h109) (cs := []) (by decide +kernel) rfl trivial) ?_
        obtain ⟨hc, hF⟩ := gd_of hF
        refine RK.of (RN.xa (by decide +kernel) hc.1.1 hc.1.2) ?_
        refine RK.of (RN.blk (ops := [(905, .aload_n 0), (906, .iload_n 3), (907, .iconst 2), (908, .iadd)]) (pc' := 909) (lv' := [(0, .inr (.inr (-2))), (1, .inr (.inr 0)), (2, .inr (.inr 334)), (3, .inl v3)]) (st' := [.inl (m_w32 (v3 + 2)), .inr (.inr (-2)), .inl (xs (m_w32 (v3 + 1))), .inr (.inr 334), .inl x110]) (h' := h109) (cs := []) (by decide +kernel) rfl trivial) ?_
        obtain ⟨hc, hF⟩ := gd_of hF
        refine RK.of (RN.xa (by decide +kernel) hc.1.1 hc.1.2) ?_
        obtain ⟨x112, h111, hG, hF⟩ := bd_of hF
        have hq := rcv_ok (as := [.inl (xs (m_w32 (v3 + 1))), .inl (xs (m_w32 (v3 + 2)))]) (TO.gk (o_334 hL))
        obtain ⟨hN, hL, hQ⟩ := DX12_enough (d := 42) hL  hG
        refine RK.of (RN.cv (i := 129) (k := 264) (q2 := iX12_enough) (as := [.inr (.inr 334), .inl (xs (m_w32 (v3 + 1))), .inl (xs (m_w32 (v3 + 2)))]) (r := [.inl x110]) (v := some (.inl x112)) (h1 := h111) (by decide +kernel) rfl rfl rfl rfl rfl hq hN) ?_
        have hK := hK.tr hQ
        rcases it_of hF with ⟨hb, hF⟩ | ⟨hb, hF⟩
        · refine RK.of (RN.ict (cd := .eq) (off := 338) (tgt := 1251) (by decide +kernel) (mif_eq hb)) ?_
          refine RK.of (RN.blk (ops := [(1251, .iinc 3 6)]) (pc' := 1254) (lv' := [(3, .inl (m_w32 (v3 + 6))), (0, .inr (.inr (-2))), (1, .inr (.inr 0)), (2, .inr (.inr 334))]) (st' := []) (h' := h111) (cs := []) (by decide +kernel) rfl trivial) ?_
          refine RK.of (RN.goto (off := -1236) (tgt := 18) (by decide +kernel)) ?_
          exact RK.sub (ih _ _ hL hK hF) (sub_cons rfl (sub_cons rfl (sub_cons rfl (sub_cons rfl sub_nil))))
        · refine RK.of (RN.icf (cd := .eq) (off := 338) (tgt := 1251) (by decide +kernel) (mif_eqn hb)) ?_
          refine RK.of (RN.blk (ops := [(916, .iconst 0)]) (pc' := 917) (lv' := [(0, .inr (.inr (-2))), (1, .inr (.inr 0)), (2, .inr (.inr 334)), (3, .inl v3)]) (st' := [.inl 0]) (h' := h111) (cs := []) (by decide +kernel) rfl trivial) ?_
          exact RK.zR (by decide +kernel) rfl (Or.inl rfl) hL hK hF
      rcases it_of hF with ⟨hb28, hF⟩ | ⟨hb28, hF⟩
      · refine RK.of (fun k9 => RN.tsw (dflt := 1218) (lo := 0) (hi := 38) (offs := #[171, 234, 257, 270, 283, 306, 339, 372, 395, 408, 431, 454, 497, 520, 533, 566, 589, 622, 655, 678, 701, 714, 727, 750, 773, 816, 829, 852, 885, 918, 941, 974, 1017, 1040, 1073, 1096, 1149, 1172, 1195]) (by decide +kernel) (RN.stm hb0 (RN.stm hb1 (RN.stm hb2 (RN.stm hb3 (RN.stm hb4 (RN.stm hb5 (RN.stm hb6 (RN.stm hb7 (RN.stm hb8 (RN.stm hb9 (RN.stm hb10 (RN.stm hb11 (RN.stm hb12 (RN.stm hb13 (RN.stm hb14 (RN.stm hb15 (RN.stm hb16 (RN.stm hb17 (RN.stm hb18 (RN.stm hb19 (RN.stm hb20 (RN.stm hb21 (RN.stm hb22 (RN.stm hb23 (RN.stm hb24 (RN.stm hb25 (RN.stm hb26 (RN.stm hb27 (RN.sth hb28 (tgt := 918) rfl k9)))))))))))))))))))))))))))))) ?_
        refine RK.of (RN.blk (ops := [(918, .aload_n 1), (919, .aload_n 0), (920, .iload_n 3), (921, .iconst 1), (922, .iadd)]) (pc' := 923) (lv' := [(0, .inr (.inr (-2))), (1, .inr (.inr 0)), (2, .inr (.inr 334)), (3, .inl v3)]) (st' := [.inl (m_w32 (v3 + 1)), .inr (.inr (-2)), .inr (.inr 0)]) (h' := h) (cs := []) (by decide +kernel) rfl trivial) ?_
        obtain ⟨hc, hF⟩ := gd_of hF
        refine RK.of (RN.xa (by decide +kernel) hc.1.1 hc.1.2) ?_
        refine RK.of (RN.blk (ops := [(924, .aload_n 0), (925, .iload_n 3), (926, .iconst 2), (927, .iadd)]) (pc' := 928) (lv' := [(0, .inr (.inr (-2))), (1, .inr (.inr 0)), (2, .inr (.inr 334)), (3, .inl v3)]) (st' := [.inl (m_w32 (v3 + 2)), .inr (.inr (-2)), .inl (xs (m_w32 (v3 + 1))), .inr (.inr 0)]) (h' := h) (cs := []) (by decide +kernel) rfl trivial) ?_
        obtain ⟨hc, hF⟩ := gd_of hF
        refine RK.of (RN.xa (by decide +kernel) hc.1.1 hc.1.2) ?_
        obtain ⟨x114, h113, hG, hF⟩ := bd_of hF
        have hq := rcv_ok (as := [.inl (xs (m_w32 (v3 + 1))), .inl (xs (m_w32 (v3 + 2)))]) (TO.gk (o_0 hL))
        obtain ⟨hN, hL, hQ⟩ := DX11_said (d := 44) hL  hG
        refine RK.of (RN.cv (i := 130) (k := 139) (q2 := iX11_said) (as := [.inr (.inr 0), .inl (xs (m_w32 (v3 + 1))), .inl (xs (m_w32 (v3 + 2)))]) (r := []) (v := some (.inl x114)) (h1 := h113) (by decide +kernel) rfl rfl rfl rfl rfl hq hN) ?_
        have hK := hK.tr hQ
        refine RK.of (RN.blk (ops := [(932, .aload_n 2), (933, .aload_n 0), (934, .iload_n 3), (935, .iconst 1), (936, .iadd)]) (pc' := 937) (lv' := [(0, .inr (.inr (-2))), (1, .inr (.inr 0)), (2, .inr (.inr 334)), (3, .inl v3)]) (st' := [.inl (m_w32 (v3 + 1)), .inr (.inr (-2)), .inr (.inr 334), .inl x114]) (h' := h113) (cs := []) (by decide +kernel) rfl trivial) ?_
        obtain ⟨hc, hF⟩ := gd_of hF
        refine RK.of (RN.xa (by decide +kernel) hc.1.1 hc.1.2) ?_
        refine RK.of (RN.blk (ops := [(938, .aload_n 0), (939, .iload_n 3), (940, .iconst 2), (941, .iadd)]) (pc' := 942) (lv' := [(0, .inr (.inr (-2))), (1, .inr (.inr 0)), (2, .inr (.inr 334)), (3, .inl v3)]) (st' := [.inl (m_w32 (v3 + 2)), .inr (.inr (-2)), .inl (xs (m_w32 (v3 + 1))), .inr (.inr 334), .inl x114]) (h' := h113) (cs := []) (by decide +kernel) rfl trivial) ?_
        obtain ⟨hc, hF⟩ := gd_of hF
        refine RK.of (RN.xa (by decide +kernel) hc.1.1 hc.1.2) ?_
        obtain ⟨x116, h115, hG, hF⟩ := bd_of hF
        have hq := rcv_ok (as := [.inl (xs (m_w32 (v3 + 1))), .inl (xs (m_w32 (v3 + 2)))]) (TO.gk (o_334 hL))
        obtain ⟨hN, hL, hQ⟩ := DX12_said (d := 41) hL  hG
        refine RK.of (RN.cv (i := 133) (k := 274) (q2 := iX12_said) (as := [.inr (.inr 334), .inl (xs (m_w32 (v3 + 1))), .inl (xs (m_w32 (v3 + 2)))]) (r := [.inl x114]) (v := some (.inl x116)) (h1 := h115) (by decide +kernel) rfl rfl rfl rfl rfl hq hN) ?_
        have hK := hK.tr hQ
        rcases it_of hF with ⟨hb, hF⟩ | ⟨hb, hF⟩
        · refine RK.of (RN.ict (cd := .eq) (off := 305) (tgt := 1251) (by decide +kernel) (mif_eq hb)) ?_
          refine RK.of (RN.blk (ops := [(1251, .iinc 3 6)]) (pc' := 1254) (lv' := [(3, .inl (m_w32 (v3 + 6))), (0, .inr (.inr (-2))), (1, .inr (.inr 0)), (2, .inr (.inr 334))]) (st' := []) (h' := h115) (cs := []) (by decide +kernel) rfl trivial) ?_
          refine RK.of (RN.goto (off := -1236) (tgt := 18) (by decide +kernel)) ?_
          exact RK.sub (ih _ _ hL hK hF) (sub_cons rfl (sub_cons rfl (sub_cons rfl (sub_cons rfl sub_nil))))
        · refine RK.of (RN.icf (cd := .eq) (off := 305) (tgt := 1251) (by decide +kernel) (mif_eqn hb)) ?_
          refine RK.of (RN.blk (ops := [(949, .iconst 0)]) (pc' := 950) (lv' := [(0, .inr (.inr (-2))), (1, .inr (.inr 0)), (2, .inr (.inr 334)), (3, .inl v3)]) (st' := [.inl 0]) (h' := h115) (cs := []) (by decide +kernel) rfl trivial) ?_
          exact RK.zR (by decide +kernel) rfl (Or.inl rfl) hL hK hF
      rcases it_of hF with ⟨hb29, hF⟩ | ⟨hb29, hF⟩
      · refine RK.of (fun k9 => RN.tsw (dflt := 1218) (lo := 0) (hi := 38) (offs := #[171, 234, 257, 270, 283, 306, 339, 372, 395, 408, 431, 454, 497, 520, 533, 566, 589, 622, 655, 678, 701, 714, 727, 750, 773, 816, 829, 852, 885, 918, 941, 974, 1017, 1040, 1073, 1096, 1149, 1172, 1195]) (by decide +kernel) (RN.stm hb0 (RN.stm hb1 (RN.stm hb2 (RN.stm hb3 (RN.stm hb4 (RN.stm hb5 (RN.stm hb6 (RN.stm hb7 (RN.stm hb8 (RN.stm hb9 (RN.stm hb10 (RN.stm hb11 (RN.stm hb12 (RN.stm hb13 (RN.stm hb14 (RN.stm hb15 (RN.stm hb16 (RN.stm hb17 (RN.stm hb18 (RN.stm hb19 (RN.stm hb20 (RN.stm hb21 (RN.stm hb22 (RN.stm hb23 (RN.stm hb24 (RN.stm hb25 (RN.stm hb26 (RN.stm hb27 (RN.stm hb28 (RN.sth hb29 (tgt := 951) rfl k9))))))))))))))))))))))))))))))) ?_
        refine RK.of (RN.blk (ops := [(951, .aload_n 1), (952, .aload_n 0), (953, .iload_n 3), (954, .iconst 1), (955, .iadd)]) (pc' := 956) (lv' := [(0, .inr (.inr (-2))), (1, .inr (.inr 0)), (2, .inr (.inr 334)), (3, .inl v3)]) (st' := [.inl (m_w32 (v3 + 1)), .inr (.inr (-2)), .inr (.inr 0)]) (h' := h) (cs := []) (by decide +kernel) rfl trivial) ?_
        obtain ⟨hc, hF⟩ := gd_of hF
        refine RK.of (RN.xa (by decide +kernel) hc.1.1 hc.1.2) ?_
        obtain ⟨x118, h117, hG, hF⟩ := bd_of hF
        have hq := rcv_ok (as := [.inl (xs (m_w32 (v3 + 1)))]) (TO.gk (o_0 hL))
        obtain ⟨hN, hL, hQ⟩ := DX11_sent (d := 44) hL  hG
        refine RK.of (RN.cv (i := 134) (k := 140) (q2 := iX11_sent) (as := [.inr (.inr 0), .inl (xs (m_w32 (v3 + 1)))]) (r := []) (v := some (.inl x118)) (h1 := h117) (by decide +kernel) rfl rfl rfl rfl rfl hq hN) ?_
        have hK := hK.tr hQ
        refine RK.of (RN.blk (ops := [(960, .aload_n 2), (961, .aload_n 0), (962, .iload_n 3), (963, .iconst 1), (964, .iadd)]) (pc' := 965) (lv' := [(0, .inr (.inr (-2))), (1, .inr (.inr 0)), (2, .inr (.inr 334)), (3, .inl v3)]) (st' := [.inl (m_w32 (v3 + 1)), .inr (.inr (-2)), .inr (.inr 334), .inl x118]) (h' := h117) (cs := []) (by decide +kernel) rfl trivial) ?_
        obtain ⟨hc, hF⟩ := gd_of hF
        refine RK.of (RN.xa (by decide +kernel) hc.1.1 hc.1.2) ?_
        obtain ⟨x120, h119, hG, hF⟩ := bd_of hF
        have hq := rcv_ok (as := [.inl (xs (m_w32 (v3 + 1)))]) (TO.gk (o_334 hL))
        obtain ⟨hN, hL, hQ⟩ := DX12_sent (d := 41) hL  hG
        refine RK.of (RN.cv (i := 137) (k := 275) (q2 := iX12_sent) (as := [.inr (.inr 334), .inl (xs (m_w32 (v3 + 1)))]) (r := [.inl x118]) (v := some (.inl x120)) (h1 := h119) (by decide +kernel) rfl rfl rfl rfl rfl hq hN) ?_
        have hK := hK.tr hQ
        rcases it_of hF with ⟨hb, hF⟩ | ⟨hb, hF⟩
        · refine RK.of (RN.ict (cd := .eq) (off := 282) (tgt := 1251) (by decide +kernel) (mif_eq hb)) ?_
          refine RK.of (RN.blk (ops := [(1251, .iinc 3 6)]) (pc' := 1254) (lv' := [(3, .inl (m_w32 (v3 + 6))), (0, .inr (.inr (-2))), (1, .inr (.inr 0)), (2, .inr (.inr 334))]) (st' := []) (h' := h119) (cs := []) (by decide +kernel) rfl trivial) ?_
          refine RK.of (RN.goto (off := -1236) (tgt := 18) (by decide +kernel)) ?_
          exact RK.sub (ih _ _ hL hK hF) (sub_cons rfl (sub_cons rfl (sub_cons rfl (sub_cons rfl sub_nil))))
        · refine RK.of (RN.icf (cd := .eq) (off := 282) (tgt := 1251) (by decide +kernel) (mif_eqn hb)) ?_
          refine RK.of (RN.blk (ops := [(972, .iconst 0)]) (pc' := 973) (lv' := [(0, .inr (.inr (-2))), (1, .inr (.inr 0)), (2, .inr (.inr 334)), (3, .inl v3)]) (st' := [.inl 0]) (h' := h119) (cs := []) (by decide +kernel) rfl trivial) ?_
          exact RK.zR (by decide +kernel) rfl (Or.inl rfl) hL hK hF
      rcases it_of hF with ⟨hb30, hF⟩ | ⟨hb30, hF⟩
      · refine RK.of (fun k9 => RN.tsw (dflt := 1218) (lo := 0) (hi := 38) (offs := #[171, 234, 257, 270, 283, 306, 339, 372, 395, 408, 431, 454, 497, 520, 533, 566, 589, 622, 655, 678, 701, 714, 727, 750, 773, 816, 829, 852, 885, 918, 941, 974, 1017, 1040, 1073, 1096, 1149, 1172, 1195]) (by decide +kernel) (RN.stm hb0 (RN.stm hb1 (RN.stm hb2 (RN.stm hb3 (RN.stm hb4 (RN.stm hb5 (RN.stm hb6 (RN.stm hb7 (RN.stm hb8 (RN.stm hb9 (RN.stm hb10 (RN.stm hb11 (RN.stm hb12 (RN.stm hb13 (RN.stm hb14 (RN.stm hb15 (RN.stm hb16 (RN.stm hb17 (RN.stm hb18 (RN.stm hb19 (RN.stm hb20 (RN.stm hb21 (RN.stm hb22 (RN.stm hb23 (RN.stm hb24 (RN.stm hb25 (RN.stm hb26 (RN.stm hb27 (RN.stm hb28 (RN.stm hb29 (RN.sth hb30 (tgt := 974) rfl k9)))))))))))))))))))))))))))))))) ?_
        refine RK.of (RN.blk (ops := [(974, .aload_n 1), (975, .aload_n 0), (976, .iload_n 3), (977, .iconst 1), (978, .iadd)]) (pc' := 979) (lv' := [(0, .inr (.inr (-2))), (1, .inr (.inr 0)), (2, .inr (.inr 334)), (3, .inl v3)]) (st' := [.inl (m_w32 (v3 + 1)), .inr (.inr (-2)), .inr (.inr 0)]) (h' := h) (cs := []) (by decide +kernel) rfl trivial) ?_
        obtain ⟨hc, hF⟩ := gd_of hF
        refine RK.of (RN.xa (by decide +kernel) hc.1.1 hc.1.2) ?_
        refine RK.of (RN.blk (ops := [(980, .aload_n 0), (981, .iload_n 3), (982, .iconst 2), (983, .iadd)]) (pc' := 984) (lv' := [(0, .inr (.inr (-2))), (1, .inr (.inr 0)), (2, .inr (.inr 334)), (3, .inl v3)]) (st' := [.inl (m_w32 (v3 + 2)), .inr (.inr (-2)), .inl (xs (m_w32 (v3 + 1))), .inr (.inr 0)]) (h' := h) (cs := []) (by decide +kernel) rfl trivial) ?_
        obtain ⟨hc, hF⟩ := gd_of hF
        refine RK.of (RN.xa (by decide +kernel) hc.1.1 hc.1.2) ?_
        obtain ⟨x122, h121, hG, hF⟩ := bd_of hF
        have hq := rcv_ok (as := [.inl (xs (m_w32 (v3 + 1))), .inl (xs (m_w32 (v3 + 2)))]) (TO.gk (o_0 hL))
        obtain ⟨hN, hL, hQ⟩ := DX11_pence (d := 47) hL  hG
        refine RK.of (RN.cv (i := 138) (k := 141) (q2 := iX11_pence) (as := [.inr (.inr 0), .inl (xs (m_w32 (v3 + 1))), .inl (xs (m_w32 (v3 + 2)))]) (r := []) (v := some (.inl x122)) (h1 := h121) (by decide +kernel) rfl rfl rfl rfl rfl hq hN) ?_
        have hK := hK.tr hQ
        refine RK.of (RN.blk (ops := [(988, .aload_n 2), (989, .aload_n 0), (990, .iload_n 3), (991, .iconst 1), (992, .iadd)]) (pc' := 993) (lv' := [(0, .inr (.inr (-2))), (1, .inr (.inr 0)), (2, .inr (.inr 334)), (3, .inl v3)]) (st' := [.inl (m_w32 (v3 + 1)), .inr (.inr (-2)), .inr (.inr 334), .inl x122]) (h' := h121) (cs := []) (by decide +kernel) rfl trivial) ?_
        obtain ⟨hc, hF⟩ := gd_of hF
        refine RK.of (RN.xa (by decide +kernel) hc.1.1 hc.1.2) ?_
        refine RK.of (RN.blk (ops := [(994, .aload_n 0), (995, .iload_n 3), (996, .iconst 2), (997, .iadd)]) (pc' := 998) (lv' := [(0, .inr (.inr (-2))), (1, .inr (.inr 0)), (2, .inr (.inr 334)), (3, .inl v3)]) (st' := [.inl (m_w32 (v3 + 2)), .inr (.inr (-2)), .inl (xs (m_w32 (v3 + 1))), .inr (.inr 334), .inl x122]) (h' := h121) (cs := []) (by decide +kernel) rfl trivial) ?_
        obtain ⟨hc, hF⟩ := gd_of hF
        refine RK.of (RN.xa (by decide +kernel) hc.1.1 hc.1.2) ?_
        obtain ⟨x124, h123, hG, hF⟩ := bd_of hF
        have hq := rcv_ok (as := [.inl (xs (m_w32 (v3 + 1))), .inl (xs (m_w32 (v3 + 2)))]) (TO.gk (o_334 hL))
        obtain ⟨hN, hL, hQ⟩ := DX12_pence (d := 49) hL  hG
        refine RK.of (RN.cv (i := 141) (k := 265) (q2 := iX12_pence) (as := [.inr (.inr 334), .inl (xs (m_w32 (v3 + 1))), .inl (xs (m_w32 (v3 + 2)))]) (r := [.inl x122]) (v := some (.inl x124)) (h1 := h123) (by decide +kernel) rfl rfl rfl rfl rfl hq hN) ?_
        have hK := hK.tr hQ
        rcases it_of hF with ⟨hb, hF⟩ | ⟨hb, hF⟩
        · refine RK.of (RN.ict (cd := .eq) (off := 249) (tgt := 1251) (by decide +kernel) (mif_eq hb)) ?_
          refine RK.of (RN.blk (ops := [(1251, .iinc 3 6)]) (pc' := 1254) (lv' := [(3, .inl (m_w32 (v3 + 6))), (0, .inr (.inr (-2))), (1, .inr (.inr 0)), (2, .inr (.inr 334))]) (st' := []) (h' := h123) (cs := []) (by decide +kernel) rfl trivial) ?_
          refine RK.of (RN.goto (off := -1236) (tgt := 18) (by decide +kernel)) ?_
          exact RK.sub (ih _ _ hL hK hF) (sub_cons rfl (sub_cons rfl (sub_cons rfl (sub_cons rfl sub_nil))))
        · refine RK.of (RN.icf (cd := .eq) (off := 249) (tgt := 1251) (by decide +kernel) (mif_eqn hb)) ?_
          refine RK.of (RN.blk (ops := [(1005, .iconst 0)]) (pc' := 1006) (lv' := [(0, .inr (.inr (-2))), (1, .inr (.inr 0)), (2, .inr (.inr 334)), (3, .inl v3)]) (st' := [.inl 0]) (h' := h123) (cs := []) (by decide +kernel) rfl trivial) ?_
          exact RK.zR (by decide +kernel) rfl (Or.inl rfl) hL hK hF
      rcases it_of hF with ⟨hb31, hF⟩ | ⟨hb31, hF⟩
      · refine RK.of (fun k9 => RN.tsw (dflt := 1218) (lo := 0) (hi := 38) (offs := #[171, 234, 257, 270, 283, 306, 339, 372, 395, 408, 431, 454, 497, 520, 533, 566, 589, 622, 655, 678, 701, 714, 727, 750, 773, 816, 829, 852, 885, 918, 941, 974, 1017, 1040, 1073, 1096, 1149, 1172, 1195]) (by decide +kernel) (RN.stm hb0 (RN.stm hb1 (RN.stm hb2 (RN.stm hb3 (RN.stm hb4 (RN.stm hb5 (RN.stm hb6 (RN.stm hb7 (RN.stm hb8 (RN.stm hb9 (RN.stm hb10 (RN.stm hb11 (RN.stm hb12 (RN.stm hb13 (RN.stm hb14 (RN.stm hb15 (RN.stm hb16 (RN.stm hb17 (RN.stm hb18 (RN.stm hb19 (RN.stm hb20 (RN.stm hb21 (RN.stm hb22 (RN.stm hb23 (RN.stm hb24 (RN.stm hb25 (RN.stm hb26 (RN.stm hb27 (RN.stm hb28 (RN.stm hb29 (RN.stm hb30 (RN.sth hb31 (tgt := 1007) rfl k9))))))))))))))))))))))))))))))))) ?_
        refine RK.of (RN.blk (ops := [(1007, .aload_n 1), (1008, .aload_n 0), (1009, .iload_n 3), (1010, .iconst 1), (1011, .iadd)]) (pc' := 1012) (lv' := [(0, .inr (.inr (-2))), (1, .inr (.inr 0)), (2, .inr (.inr 334)), (3, .inl v3)]) (st' := [.inl (m_w32 (v3 + 1)), .inr (.inr (-2)), .inr (.inr 0)]) (h' := h) (cs := []) (by decide +kernel) rfl trivial) ?_
        obtain ⟨hc, hF⟩ := gd_of hF
        refine RK.of (RN.xa (by decide +kernel) hc.1.1 hc.1.2) ?_
        refine RK.of (RN.blk (ops := [(1013, .aload_n 0), (1014, .iload_n 3), (1015, .iconst 2), (1016, .iadd)]) (pc' := 1017) (lv' := [(0, .inr (.inr (-2))), (1, .inr (.inr 0)), (2, .inr (.inr 334)), (3, .inl v3)]) (st' := [.inl (m_w32 (v3 + 2)), .inr (.inr (-2)), .inl (xs (m_w32 (v3 + 1))), .inr (.inr 0)]) (h' := h) (cs := []) (by decide +kernel) rfl trivial) ?_
        obtain ⟨hc, hF⟩ := gd_of hF
        refine RK.of (RN.xa (by decide +kernel) hc.1.1 hc.1.2) ?_
        refine RK.of (RN.blk (ops := [(1018, .aload_n 0), (1019, .iload_n 3), (1020, .iconst 3), (1021, .iadd)]) (pc' := 1022) (lv' := [(0, .inr (.inr (-2))), (1, .inr (.inr 0)), (2, .inr (.inr 334)), (3, .inl v3)]) (st' := [.inl (m_w32 (v3 + 3)), .inr (.inr (-2)), .inl (xs (m_w32 (v3 + 2))), .inl (xs (m_w32 (v3 + 1))), .inr (.inr 0)]) (h' := h) (cs := []) (by decide +kernel) rfl trivial) ?_
        obtain ⟨hc, hF⟩ := gd_of hF
        refine RK.of (RN.xa (by decide +kernel) hc.1.1 hc.1.2) ?_
        obtain ⟨x126, h125, hG, hF⟩ := bd_of hF
        have hq := rcv_ok (as := [.inl (xs (m_w32 (v3 + 1))), .inl (xs (m_w32 (v3 + 2))), .inl (xs (m_w32 (v3 + 3)))]) (TO.gk (o_0 hL))
        obtain ⟨hN, hL, hQ⟩ := DX11_note (d := 49) hL  hG
        refine RK.of (RN.cv (i := 142) (k := 142) (q2 := iX11_note) (as := [.inr (.inr 0), .inl (xs (m_w32 (v3 + 1))), .inl (xs (m_w32 (v3 + 2))), .inl (xs (m_w32 (v3 + 3)))]) (r := []) (v := some (.inl x126)) (h1 := h125) (by decide +kernel) rfl rfl rfl rfl rfl hq hN) ?_
        have hK := hK.tr hQ
        refine RK.of (RN.blk (ops := [(1026, .aload_n 2), (1027, .aload_n 0), (1028, .iload_n 3), (1029, .iconst 1), (1030, .iadd)]) (pc' := 1031) (lv' := [(0, .inr (.inr (-2))), (1, .inr (.inr 0)), (2, .inr (.inr 334)), (3, .inl v3)]) (st' := [.inl (m_w32 (v3 + 1)), .inr (.inr (-2)), .inr (.inr 334), .inl x126]) (h' := h125) (cs := []) (by decide +kernel) rfl trivial) ?_
        obtain ⟨hc, hF⟩ := gd_of hF
        refine RK.of (RN.xa (by decide +kernel) hc.1.1 hc.1.2) ?_
        refine RK.of (RN.blk (ops := [(1032, .aload_n 0), (1033, .iload_n 3), (1034, .iconst 2), (1035, .iadd)]) (pc' := 1036) (lv' := [(0, .inr (.inr (-2))), (1, .inr (.inr 0)), (2, .inr (.inr 334)), (3, .inl v3)]) (st' := [.inl (m_w32 (v3 + 2)), .inr (.inr (-2)), .inl (xs (m_w32 (v3 + 1))), .inr (.inr 334), .inl x126]) (h' := h125) (cs := []) (by decide +kernel) rfl trivial) ?_
        obtain ⟨hc, hF⟩ := gd_of hF
        refine RK.of (RN.xa (by decide +kernel) hc.1.1 hc.1.2) ?_
        refine RK.of (RN.blk (ops := [(1037, .aload_n 0), (1038, .iload_n 3), (1039, .iconst 3), (1040, .iadd)]) (pc' := 1041) (lv' := [(0, .inr (.inr (-2))), (1, .inr (.inr 0)), (2, .inr (.inr 334)), (3, .inl v3)]) (st' := [.inl (m_w32 (v3 + 3)), .inr (.inr (-2)), .inl (xs (m_w32 (v3 + 2))), .inl (xs (m_w32 (v3 + 1))), .inr (.inr 334), .inl x126]) (h' := h125) (cs := []) (by decide +kernel) rfl trivial) ?_
        obtain ⟨hc, hF⟩ := gd_of hF
        refine RK.of (RN.xa (by decide +kernel) hc.1.1 hc.1.2) ?_
        obtain ⟨x128, h127, hG, hF⟩ := bd_of hF
        have hq := rcv_ok (as := [.inl (xs (m_w32 (v3 + 1))), .inl (xs (m_w32 (v3 + 2))), .inl (xs (m_w32 (v3 + 3)))]) (TO.gk (o_334 hL))
        obtain ⟨hN, hL, hQ⟩ := DX12_note (d := 49) hL  hG
        refine RK.of (RN.cv (i := 145) (k := 266) (q2 := iX12_note) (as := [.inr (.inr 334), .inl (xs (m_w32 (v3 + 1))), .inl (xs (m_w32 (v3 + 2))), .inl (xs (m_w32 (v3 + 3)))]) (r := [.inl x126]) (v := some (.inl x128)) (h1 := h127) (by decide +kernel) rfl rfl rfl rfl rfl hq hN) ?_
        have hK := hK.tr hQ
        rcases it_of hF with ⟨hb, hF⟩ | ⟨hb, hF⟩
        · refine RK.of (RN.ict (cd := .eq) (off := 206) (tgt := 1251) (by decide +kernel) (mif_eq hb)) ?_
          refine RK.of (RN.blk (ops := [(1251, .iinc 3 6)]) (pc' := 1254) (lv' := [(3, .inl (m_w32 (v3 + 6))), (0, .inr (.inr (-2))), (1, .inr (.inr 0)), (2, .inr (.inr 334))]) (st' := []) (h' := h127) (cs := []) (by decide +kernel) rfl trivial) ?_
          refine RK.of (RN.goto (off := -1236) (tgt := 18) (by decide +kernel)) ?_
          exact RK.sub (ih _ _ hL hK hF) (sub_cons rfl (sub_cons rfl (sub_cons rfl (sub_cons rfl sub_nil))))
        · refine RK.of (RN.icf (cd := .eq) (off := 206) (tgt := 1251) (by decide +kernel) (mif_eqn hb)) ?_
          refine RK.of (RN.blk (ops := [(1048, .iconst 0)]) (pc' := 1049) (lv' := [(0, .inr (.inr (-2))), (1, .inr (.inr 0)), (2, .inr (.inr 334)), (3, .inl v3)]) (st' := [.inl 0]) (h' := h127) (cs := []) (by decide +kernel) rfl trivial) ?_
          exact RK.zR (by decide +kernel) rfl (Or.inl rfl) hL hK hF
      rcases it_of hF with ⟨hb32, hF⟩ | ⟨hb32, hF⟩
      · refine RK.of (fun k9 => RN.tsw (dflt := 1218) (lo := 0) (hi := 38) (offs := #[171, 234, 257, 270, 283, 306, 339, 372, 395, 408, 431, 454, 497, 520, 533, 566, 589, 622, 655, 678, 701, 714, 727, 750, 773, 816, 829, 852, 885, 918, 941, 974, 1017, 1040, 1073, 1096, 1149, 1172, 1195]) (by decide +kernel) (RN.stm hb0 (RN.stm hb1 (RN.stm hb2 (RN.stm hb3 (RN.stm hb4 (RN.stm hb5 (RN.stm hb6 (RN.stm hb7 (RN.stm hb8 (RN.stm hb9 (RN.stm hb10 (RN.stm hb11 (RN.stm hb12 (RN.stm hb13 (RN.stm hb14 (RN.stm hb15 (RN.stm hb16 (RN.stm hb17 (RN.stm hb18 (RN.stm hb19 (RN.stm hb20 (RN.stm hb21 (RN.stm hb22 (RN.stm hb23 (RN.stm hb24 (RN.stm hb25 (RN.stm hb26 (RN.stm hb27 (RN.stm hb28 (RN.stm hb29 (RN.stm hb30 (RN.stm hb31 (RN.sth hb32 (tgt := 1050) rfl k9)))))))))))))))))))))))))))))))))) ?_
        refine RK.of (RN.blk (ops := [(1050, .aload_n 1), (1051, .aload_n 0), (1052, .iload_n 3), (1053, .iconst 1), (1054, .iadd)]) (pc' := 1055) (lv' := [(0, .inr (.inr (-2))), (1, .inr (.inr 0)), (2, .inr (.inr 334)), (3, .inl v3)]) (st' := [.inl (m_w32 (v3 + 1)), .inr (.inr (-2)), .inr (.inr 0)]) (h' := h) (cs := []) (by decide +kernel) rfl trivial) ?_
        obtain ⟨hc, hF⟩ := gd_of hF
        refine RK.of (RN.xa (by decide +kernel) hc.1.1 hc.1.2) ?_
        obtain ⟨x130, h129, hG, hF⟩ := bd_of hF
        have hq := rcv_ok (as := [.inl (xs (m_w32 (v3 + 1)))]) (TO.gk (o_0 hL))
        obtain ⟨hN, hL, hQ⟩ := DX11_ruled (d := 44) hL  hG
        refine RK.of (RN.cv (i := 146) (k := 143) (q2 := iX11_ruled) (as := [.inr (.inr 0), .inl (xs (m_w32 (v3 + 1)))]) (r := []) (v := some (.inl x130)) (h1 := h129) (by decide +kernel) rfl rfl rfl rfl rfl hq hN) ?_
        have hK := hK.tr hQ
        refine RK.of (RN.blk (ops := [(1059, .aload_n 2), (1060, .aload_n 0), (1061, .iload_n 3), (1062, .iconst 1), (1063, .iadd)]) (pc' := 1064) (lv' := [(0, .inr (.inr (-2))), (1, .inr (.inr 0)), (2, .inr (.inr 334)), (3, .inl v3)]) (st' := [.inl (m_w32 (v3 + 1)), .inr (.inr (-2)), .inr (.inr 334), .inl x130]) (h' := h129) (cs := []) (by decide +kernel) rfl trivial) ?_
        obtain ⟨hc, hF⟩ := gd_of hF
        refine RK.of (RN.xa (by decide +kernel) hc.1.1 hc.1.2) ?_
        obtain ⟨x132, h131, hG, hF⟩ := bd_of hF
        have hq := rcv_ok (as := [.inl (xs (m_w32 (v3 + 1)))]) (TO.gk (o_334 hL))
        obtain ⟨hN, hL, hQ⟩ := DX12_ruled (d := 41) hL  hG
        refine RK.of (RN.cv (i := 149) (k := 270) (q2 := iX12_ruled) (as := [.inr (.inr 334), .inl (xs (m_w32 (v3 + 1)))]) (r := [.inl x130]) (v := some (.inl x132)) (h1 := h131) (by decide +kernel) rfl rfl rfl rfl rfl hq hN) ?_
        have hK := hK.tr hQ
        rcases it_of hF with ⟨hb, hF⟩ | ⟨hb, hF⟩
        · refine RK.of (RN.ict (cd := .eq) (off := 183) (tgt := 1251) (by decide +kernel) (mif_eq hb)) ?_
          refine RK.of (RN.blk (ops := [(1251, .iinc 3 6)]) (pc' := 1254) (lv' := [(3, .inl (m_w32 (v3 + 6))), (0, .inr (.inr (-2))), (1, .inr (.inr 0)), (2, .inr (.inr 334))]) (st' := []) (h' := h131) (cs := []) (by decide +kernel) rfl trivial) ?_
          refine RK.of (RN.goto (off := -1236) (tgt := 18) (by decide +kernel)) ?_
          exact RK.sub (ih _ _ hL hK hF) (sub_cons rfl (sub_cons rfl (sub_cons rfl (sub_cons rfl sub_nil))))
        · refine RK.of (RN.icf (cd := .eq) (off := 183) (tgt := 1251) (by decide +kernel) (mif_eqn hb)) ?_
          refine RK.of (RN.blk (ops := [(1071, .iconst 0)]) (pc' := 1072) (lv' := [(0, .inr (.inr (-2))), (1, .inr (.inr 0)), (2, .inr (.inr 334)), (3, .inl v3)]) (st' := [.inl 0]) (h' := h131) (cs := []) (by decide +kernel) rfl trivial) ?_
          exact RK.zR (by decide +kernel) rfl (Or.inl rfl) hL hK hF
      rcases it_of hF with ⟨hb33, hF⟩ | ⟨hb33, hF⟩
      · refine RK.of (fun k9 => RN.tsw (dflt := 1218) (lo := 0) (hi := 38) (offs := #[171, 234, 257, 270, 283, 306, 339, 372, 395, 408, 431, 454, 497, 520, 533, 566, 589, 622, 655, 678, 701, 714, 727, 750, 773, 816, 829, 852, 885, 918, 941, 974, 1017, 1040, 1073, 1096, 1149, 1172, 1195]) (by decide +kernel) (RN.stm hb0 (RN.stm hb1 (RN.stm hb2 (RN.stm hb3 (RN.stm hb4 (RN.stm hb5 (RN.stm hb6 (RN.stm hb7 (RN.stm hb8 (RN.stm hb9 (RN.stm hb10 (RN.stm hb11 (RN.stm hb12 (RN.stm hb13 (RN.stm hb14 (RN.stm hb15 (RN.stm hb16 (RN.stm hb17 (RN.stm hb18 (RN.stm hb19 (RN.stm hb20 (RN.stm hb21 (RN.stm hb22 (RN.stm hb23 (RN.stm hb24 (RN.stm hb25 (RN.stm hb26 (RN.stm hb27 (RN.stm hb28 (RN.stm hb29 (RN.stm hb30 (RN.stm hb31 (RN.stm hb32 (RN.sth hb33 (tgt := 1073) rfl k9))))))))))))))))))))))))))))))))))) ?_
        refine RK.of (RN.blk (ops := [(1073, .aload_n 1), (1074, .aload_n 0), (1075, .iload_n 3), (1076, .iconst 1), (1077, .iadd)]) (pc' := 1078) (lv' := [(0, .inr (.inr (-2))), (1, .inr (.inr 0)), (2, .inr (.inr 334)), (3, .inl v3)]) (st' := [.inl (m_w32 (v3 + 1)), .inr (.inr (-2)), .inr (.inr 0)]) (h' := h) (cs := []) (by decide +kernel) rfl trivial) ?_
        obtain ⟨hc, hF⟩ := gd_of hF
        refine RK.of (RN.xa (by decide +kernel) hc.1.1 hc.1.2) ?_
        refine RK.of (RN.blk (ops := [(1079, .aload_n 0), (1080, .iload_n 3), (1081, .iconst 2), (1082, .iadd)]) (pc' := 1083) (lv' := [(0, .inr (.inr (-2))), (1, .inr (.inr 0)), (2, .inr (.inr 334)), (3, .inl v3)]) (st' := [.inl (m_w32 (v3 + 2)), .inr (.inr (-2)), .inl (xs (m_w32 (v3 + 1))), .inr (.inr 0)]) (h' := h) (cs := []) (by decide +kernel) rfl trivial) ?_
        obtain ⟨hc, hF⟩ := gd_of hF
        refine RK.of (RN.xa (by decide +kernel) hc.1.1 hc.1.2) ?_
        obtain ⟨x134, h133, hG, hF⟩ := bd_of hF
        have hq := rcv_ok (as := [.inl (xs (m_w32 (v3 + 1))), .inl (xs (m_w32 (v3 + 2)))]) (TO.gk (o_0 hL))
        obtain ⟨hN, hL, hQ⟩ := DX11_look (d := 44) hL  hG
        refine RK.of (RN.cv (i := 150) (k := 144) (q2 := iX11_look) (as := [.inr (.inr 0), .inl (xs (m_w32 (v3 + 1))), .inl (xs (m_w32 (v3 + 2)))]) (r := []) (v := some (.inl x134)) (h1 := h133) (by decide +kernel) rfl rfl rfl rfl rfl hq hN) ?_
        have hK := hK.tr hQ
        refine RK.of (RN.blk (ops := [(1087, .aload_n 2), (1088, .aload_n 0), (1089, .iload_n 3), (1090, .iconst 1), (1091, .iadd)]) (pc' := 1092) (lv' := [(0, .inr (.inr (-2))), (1, .inr (.inr 0)), (2, .inr (.inr 334)), (3, .inl v3)]) (st' := [.inl (m_w32 (v3 + 1)), .inr (.inr (-2)), .inr (.inr 334), .inl x134]) (h' := h133) (cs := []) (by decide +kernel) rfl trivial) ?_
        obtain ⟨hc, hF⟩ := gd_of hF
        refine RK.of (RN.xa (by decide +kernel) hc.1.1 hc.1.2) ?_
        refine RK.of (RN.blk (ops := [(1093, .aload_n 0), (1094, .iload_n 3), (1095, .iconst 2), (1096, .iadd)]) (pc' := 1097) (lv' := [(0, .inr (.inr (-2))), (1, .inr (.inr 0)), (2, .inr (.inr 334)), (3, .inl v3)]) (st' := [.inl (m_w32 (v3 + 2)), .inr (.inr (-2)), .inl (xs (m_w32 (v3 + 1))), .inr (.inr 334), .inl x134]) (h' := h133) (cs := []) (by decide +kernel) rfl trivial) ?_
        obtain ⟨hc, hF⟩ := gd_of hF
        refine RK.of (RN.xa (by decide +kernel) hc.1.1 hc.1.2) ?_
        obtain ⟨x136, h135, hG, hF⟩ := bd_of hF
        have hq := rcv_ok (as := [.inl (xs (m_w32 (v3 + 1))), .inl (xs (m_w32 (v3 + 2)))]) (TO.gk (o_334 hL))
        obtain ⟨hN, hL, hQ⟩ := DX12_look (d := 41) hL  hG
        refine RK.of (RN.cv (i := 153) (k := 272) (q2 := iX12_look) (as := [.inr (.inr 334), .inl (xs (m_w32 (v3 + 1))), .inl (xs (m_w32 (v3 + 2)))]) (r := [.inl x134]) (v := some (.inl x136)) (h1 := h135) (by decide +kernel) rfl rfl rfl rfl rfl hq hN) ?_
        have hK := hK.tr hQ
        rcases it_of hF with ⟨hb, hF⟩ | ⟨hb, hF⟩
        · refine RK.of (RN.ict (cd := .eq) (off := 150) (tgt := 1251) (by decide +kernel) (mif_eq hb)) ?_
          refine RK.of (RN.blk (ops := [(1251, .iinc 3 6)]) (pc' := 1254) (lv' := [(3, .inl (m_w32 (v3 + 6))), (0, .inr (.inr (-2))), (1, .inr (.inr 0)), (2, .inr (.inr 334))]) (st' := []) (h' := h135) (cs := []) (by decide +kernel) rfl trivial) ?_
          refine RK.of (RN.goto (off := -1236) (tgt := 18) (by decide +kernel)) ?_
          exact RK.sub (ih _ _ hL hK hF) (sub_cons rfl (sub_cons rfl (sub_cons rfl (sub_cons rfl sub_nil))))
        · refine RK.of (RN.icf (cd := .eq) (off := 150) (tgt := 1251) (by decide +kernel) (mif_eqn hb)) ?_
          refine RK.of (RN.blk (ops := [(1104, .iconst 0)]) (pc' := 1105) (lv' := [(0, .inr (.inr (-2))), (1, .inr (.inr 0)), (2, .inr (.inr 334)), (3, .inl v3)]) (st' := [.inl 0]) (h' := h135) (cs := []) (by decide +kernel) rfl trivial) ?_
          exact RK.zR (by decide +kernel) rfl (Or.inl rfl) hL hK hF
      rcases it_of hF with ⟨hb34, hF⟩ | ⟨hb34, hF⟩
      · refine RK.of (fun k9 => RN.tsw (dflt := 1218) (lo := 0) (hi := 38) (offs := #[171, 234, 257, 270, 283, 306, 339, 372, 395, 408, 431, 454, 497, 520, 533, 566, 589, 622, 655, 678, 701, 714, 727, 750, 773, 816, 829, 852, 885, 918, 941, 974, 1017, 1040, 1073, 1096, 1149, 1172, 1195]) (by decide +kernel) (RN.stm hb0 (RN.stm hb1 (RN.stm hb2 (RN.stm hb3 (RN.stm hb4 (RN.stm hb5 (RN.stm hb6 (RN.stm hb7 (RN.stm hb8 (RN.stm hb9 (RN.stm hb10 (RN.stm hb11 (RN.stm hb12 (RN.stm hb13 (RN.stm hb14 (RN.stm hb15 (RN.stm hb16 (RN.stm hb17 (RN.stm hb18 (RN.stm hb19 (RN.stm hb20 (RN.stm hb21 (RN.stm hb22 (RN.stm hb23 (RN.stm hb24 (RN.stm hb25 (RN.stm hb26 (RN.stm hb27 (RN.stm hb28 (RN.stm hb29 (RN.stm hb30 (RN.stm hb31 (RN.stm hb32 (RN.stm hb33 (RN.sth hb34 (tgt := 1106) rfl k9)))))))))))))))))))))))))))))))))))) ?_
        refine RK.of (RN.blk (ops := [(1106, .aload_n 1), (1107, .aload_n 0), (1108, .iload_n 3), (1109, .iconst 1), (1110, .iadd)]) (pc' := 1111) (lv' := [(0, .inr (.inr (-2))), (1, .inr (.inr 0)), (2, .inr (.inr 334)), (3, .inl v3)]) (st' := [.inl (m_w32 (v3 + 1)), .inr (.inr (-2)), .inr (.inr 0)]) (h' := h) (cs := []) (by decide +kernel) rfl trivial) ?_
        obtain ⟨hc, hF⟩ := gd_of hF
        refine RK.of (RN.xa (by decide +kernel) hc.1.1 hc.1.2) ?_
        obtain ⟨x138, h137, hG, hF⟩ := bd_of hF
        have hq := rcv_ok (as := [.inl (xs (m_w32 (v3 + 1)))]) (TO.gk (o_0 hL))
        obtain ⟨hN, hL, hQ⟩ := DX11_seed (d := 50) hL  hG
        refine RK.of (RN.cv (i := 154) (k := 145) (q2 := iX11_seed) (as := [.inr (.inr 0), .inl (xs (m_w32 (v3 + 1)))]) (r := []) (v := some (.inl x138)) (h1 := h137) (by decide +kernel) rfl rfl rfl rfl rfl hq hN) ?_
        have hK := hK.tr hQ
        refine RK.of (RN.blk (ops := [(1115, .aload_n 2), (1116, .aload_n 0), (1117, .iload_n 3), (1118, .iconst 1), (1119, .iadd)]) (pc' := 1120) (lv' := [(0, .inr (.inr (-2))), (1, .inr (.inr 0)), (2, .inr (.inr 334)), (3, .inl v3)]) (st' := [.inl (m_w32 (v3 + 1)), .inr (.inr (-2)), .inr (.inr 334), .inl x138]) (h' := h137) (cs := []) (by decide +kernel) rfl trivial) ?_
        obtain ⟨hc, hF⟩ := gd_of hF
        refine RK.of (RN.xa (by decide +kernel) hc.1.1 hc.1.2) ?_
        obtain ⟨x140, h139, hG, hF⟩ := bd_of hF
        have hq := rcv_ok (as := [.inl (xs (m_w32 (v3 + 1)))]) (TO.gk (o_334 hL))
        obtain ⟨hN, hL, hQ⟩ := DX12_seed (d := 50) hL  hG
        refine RK.of (RN.cv (i := 157) (k := 276) (q2 := iX12_seed) (as := [.inr (.inr 334), .inl (xs (m_w32 (v3 + 1)))]) (r := [.inl x138]) (v := some (.inl x140)) (h1 := h139) (by decide +kernel) rfl rfl rfl rfl rfl hq hN) ?_
        have hK := hK.tr hQ
        rcases it_of hF with ⟨hb, hF⟩ | ⟨hb, hF⟩
        · refine RK.of (RN.ict (cd := .eq) (off := 127) (tgt := 1251) (by decide +kernel) (mif_eq hb)) ?_
          refine RK.of (RN.blk (ops := [(1251, .iinc 3 6)]) (pc' := 1254) (lv' := [(3, .inl (m_w32 (v3 + 6))), (0, .inr (.inr (-2))), (1, .inr (.inr 0)), (2, .inr (.inr 334))]) (st' := []) (h' := h139) (cs := []) (by decide +kernel) rfl trivial) ?_
          refine RK.of (RN.goto (off := -1236) (tgt := 18) (by decide +kernel)) ?_
          exact RK.sub (ih _ _ hL hK hF) (sub_cons rfl (sub_cons rfl (sub_cons rfl (sub_cons rfl sub_nil))))
        · refine RK.of (RN.icf (cd := .eq) (off := 127) (tgt := 1251) (by decide +kernel) (mif_eqn hb)) ?_
          refine RK.of (RN.blk (ops := [(1127, .iconst 0)]) (pc' := 1128) (lv' := [(0, .inr (.inr (-2))), (1, .inr (.inr 0)), (2, .inr (.inr 334)), (3, .inl v3)]) (st' := [.inl 0]) (h' := h139) (cs := []) (by decide +kernel) rfl trivial) ?_
          exact RK.zR (by decide +kernel) rfl (Or.inl rfl) hL hK hF
      rcases it_of hF with ⟨hb35, hF⟩ | ⟨hb35, hF⟩
      · refine RK.of (fun k9 => RN.tsw (dflt := 1218) (lo := 0) (hi := 38) (offs := #[171, 234, 257, 270, 283, 306, 339, 372, 395, 408, 431, 454, 497, 520, 533, 566, 589, 622, 655, 678, 701, 714, 727, 750, 773, 816, 829, 852, 885, 918, 941, 974, 1017, 1040, 1073, 1096, 1149, 1172, 1195]) (by decide +kernel) (RN.stm hb0 (RN.stm hb1 (RN.stm hb2 (RN.stm hb3 (RN.stm hb4 (RN.stm hb5 (RN.stm hb6 (RN.stm hb7 (RN.stm hb8 (RN.stm hb9 (RN.stm hb10 (RN.stm hb11 (RN.stm hb12 (RN.stm hb13 (RN.stm hb14 (RN.stm hb15 (RN.stm hb16 (RN.stm hb17 (RN.stm hb18 (RN.stm hb19 (RN.stm hb20 (RN.stm hb21 (RN.stm hb22 (RN.stm hb23 (RN.stm hb24 (RN.stm hb25 (RN.stm hb26 (RN.stm hb27 (RN.stm hb28 (RN.stm hb29 (RN.stm hb30 (RN.stm hb31 (RN.stm hb32 (RN.stm hb33 (RN.stm hb34 (RN.sth hb35 (tgt := 1129) rfl k9))))))))))))))))))))))))))))))))))))) ?_
        refine RK.of (RN.blk (ops := [(1129, .aload_n 1), (1130, .aload_n 0), (1131, .iload_n 3), (1132, .iconst 1), (1133, .iadd)]) (pc' := 1134) (lv' := [(0, .inr (.inr (-2))), (1, .inr (.inr 0)), (2, .inr (.inr 334)), (3, .inl v3)]) (st' := [.inl (m_w32 (v3 + 1)), .inr (.inr (-2)), .inr (.inr 0)]) (h' := h) (cs := []) (by decide +kernel) rfl trivial) ?_
        obtain ⟨hc, hF⟩ := gd_of hF
        refine RK.of (RN.xa (by decide +kernel) hc.1.1 hc.1.2) ?_
        refine RK.of (RN.blk (ops := [(1135, .aload_n 0), (1136, .iload_n 3), (1137, .iconst 2), (1138, .iadd)]) (pc' := 1139) (lv' := [(0, .inr (.inr (-2))), (1, .inr (.inr 0)), (2, .inr (.inr 334)), (3, .inl v3)]) (st' := [.inl (m_w32 (v3 + 2)), .inr (.inr (-2)), .inl (xs (m_w32 (v3 + 1))), .inr (.inr 0)]) (h' := h) (cs := []) (by decide +kernel) rfl trivial) ?_
        obtain ⟨hc, hF⟩ := gd_of hF
        refine RK.of (RN.xa (by decide +kernel) hc.1.1 hc.1.2) ?_
        refine RK.of (RN.blk (ops := [(1140, .aload_n 0), (1141, .iload_n 3), (1142, .iconst 3), (1143, .iadd)]) (pc' := 1144) (lv' := [(0, .inr (.inr (-2))), (1, .inr (.inr 0)), (2, .inr (.inr 334)), (3, .inl v3)]) (st' := [.inl (m_w32 (v3 + 3)), .inr (.inr (-2)), .inl (xs (m_w32 (v3 + 2))), .inl (xs (m_w32 (v3 + 1))), .inr (.inr 0)]) (h' := h) (cs := []) (by decide +kernel) rfl trivial) ?_
        obtain ⟨hc, hF⟩ := gd_of hF
        refine RK.of (RN.xa (by decide +kernel) hc.1.1 hc.1.2) ?_
        refine RK.of (RN.blk (ops := [(1145, .aload_n 0), (1146, .iload_n 3), (1147, .iconst 4), (1148, .iadd)]) (pc' := 1149) (lv' := [(0, .inr (.inr (-2))), (1, .inr (.inr 0)), (2, .inr (.inr 334)), (3, .inl v3)]) (st' := [.inl (m_w32 (v3 + 4)), .inr (.inr (-2)), .inl (xs (m_w32 (v3 + 3))), .inl (xs (m_w32 (v3 + 2))), .inl (xs (m_w32 (v3 + 1))), .inr (.inr 0)]) (h' := h) (cs := []) (by decide +kernel) rfl trivial) ?_
        obtain ⟨hc, hF⟩ := gd_of hF
        refine RK.of (RN.xa (by decide +kernel) hc.1.1 hc.1.2) ?_
        obtain ⟨x142, h141, hG, hF⟩ := bd_of hF
        have hq := rcv_ok (as := [.inl (xs (m_w32 (v3 + 1))), .inl (xs (m_w32 (v3 + 2))), .inl (xs (m_w32 (v3 + 3))), .inl (xs (m_w32 (v3 + 4)))]) (TO.gk (o_0 hL))
        obtain ⟨hN, hL, hQ⟩ := DX11_posts (d := 44) hL  hG
        refine RK.of (RN.cv (i := 158) (k := 146) (q2 := iX11_posts) (as := [.inr (.inr 0), .inl (xs (m_w32 (v3 + 1))), .inl (xs (m_w32 (v3 + 2))), .inl (xs (m_w32 (v3 + 3))), .inl (xs (m_w32 (v3 + 4)))]) (r := []) (v := some (.inl x142)) (h1 := h141) (by decide +kernel) rfl rfl rfl rfl rfl hq hN) ?_
        have hK := hK.tr hQ
        refine RK.of (RN.blk (ops := [(1153, .aload_n 2), (1154, .aload_n 0), (1155, .iload_n 3), (1156, .iconst 1), (1157, .iadd)]) (pc' := 1158) (lv' := [(0, .inr (.inr (-2))), (1, .inr (.inr 0)), (2, .inr (.inr 334)), (3, .inl v3)]) (st' := [.inl (m_w32 (v3 + 1)), .inr (.inr (-2)), .inr (.inr 334), .inl x142]) (h' := h141) (cs := []) (by decide +kernel) rfl trivial) ?_
        obtain ⟨hc, hF⟩ := gd_of hF
        refine RK.of (RN.xa (by decide +kernel) hc.1.1 hc.1.2) ?_
        refine RK.of (RN.blk (ops := [(1159, .aload_n 0), (1160, .iload_n 3), (1161, .iconst 2), (1162, .iadd)]) (pc' := 1163) (lv' := [(0, .inr (.inr (-2))), (1, .inr (.inr 0)), (2, .inr (.inr 334)), (3, .inl v3)]) (st' := [.inl (m_w32 (v3 + 2)), .inr (.inr (-2)), .inl (xs (m_w32 (v3 + 1))), .inr (.inr 334), .inl x142]) (h' := h141) (cs := []) (by decide +kernel) rfl trivial) ?_
        obtain ⟨hc, hF⟩ := gd_of hF
        refine RK.of (RN.xa (by decide +kernel) hc.1.1 hc.1.2) ?_
        refine RK.of (RN.blk (ops := [(1164, .aload_n 0), (1165, .iload_n 3), (1166, .iconst 3), (1167, .iadd)]) (pc' := 1168) (lv' := [(0, .inr (.inr (-2))), (1, .inr (.inr 0)), (2, .inr (.inr 334)), (3, .inl v3)]) (st' := [.inl (m_w32 (v3 + 3)), .inr (.inr (-2)), .inl (xs (m_w32 (v3 + 2))), .inl (xs (m_w32 (v3 + 1))), .inr (.inr 334), .inl x142]) (h' := h141) (cs := []) (by decide +kernel) rfl trivial) ?_
        obtain ⟨hc, hF⟩ := gd_of hF
        refine RK.of (RN.xa (by decide +kernel) hc.1.1 hc.1.2) ?_
        refine RK.of (RN.blk (ops := [(1169, .aload_n 0), (1170, .iload_n 3), (1171, .iconst 4), (1172, .iadd)]) (pc' := 1173) (lv' := [(0, .inr (.inr (-2))), (1, .inr (.inr 0)), (2, .inr (.inr 334)), (3, .inl v3)]) (st' := [.inl (m_w32 (v3 + 4)), .inr (.inr (-2)), .inl (xs (m_w32 (v3 + 3))), .inl (xs (m_w32 (v3 + 2))), .inl (xs (m_w32 (v3 + 1))), .inr (.inr 334), .inl x142]) (h' := h141) (cs := []) (by decide +kernel) rfl trivial) ?_
        obtain ⟨hc, hF⟩ := gd_of hF
        refine RK.of (RN.xa (by decide +kernel) hc.1.1 hc.1.2) ?_
        obtain ⟨x144, h143, hG, hF⟩ := bd_of hF
        have hq := rcv_ok (as := [.inl (xs (m_w32 (v3 + 1))), .inl (xs (m_w32 (v3 + 2))), .inl (xs (m_w32 (v3 + 3))), .inl (xs (m_w32 (v3 + 4)))]) (TO.gk (o_334 hL))
        obtain ⟨hN, hL, hQ⟩ := DX12_posts (d := 43) hL  hG
        refine RK.of (RN.cv (i := 162) (k := 278) (q2 := iX12_posts) (as := [.inr (.inr 334), .inl (xs (m_w32 (v3 + 1))), .inl (xs (m_w32 (v3 + 2))), .inl (xs (m_w32 (v3 + 3))), .inl (xs (m_w32 (v3 + 4)))]) (r := [.inl x142]) (v := some (.inl x144)) (h1 := h143) (by decide +kernel) rfl rfl rfl rfl rfl hq hN) ?_
        have hK := hK.tr hQ
        rcases it_of hF with ⟨hb, hF⟩ | ⟨hb, hF⟩
        · refine RK.of (RN.ict (cd := .eq) (off := 74) (tgt := 1251) (by decide +kernel) (mif_eq hb)) ?_
          refine RK.of (RN.blk (ops := [(1251, .iinc 3 6)]) (pc' := 1254) (lv' := [(3, .inl (m_w32 (v3 + 6))), (0, .inr (.inr (-2))), (1, .inr (.inr 0)), (2, .inr (.inr 334))]) (st' := []) (h' := h143) (cs := []) (by decide +kernel) rfl trivial) ?_
          refine RK.of (RN.goto (off := -1236) (tgt := 18) (by decide +kernel)) ?_
          exact RK.sub (ih _ _ hL hK hF) (sub_cons rfl (sub_cons rfl (sub_cons rfl (sub_cons rfl sub_nil))))
        · refine RK.of (RN.icf (cd := .eq) (off := 74) (tgt := 1251) (by decide +kernel) (mif_eqn hb)) ?_
          refine RK.of (RN.blk (ops := [(1180, .iconst 0)]) (pc' := 1181) (lv' := [(0, .inr (.inr (-2))), (1, .inr (.inr 0)), (2, .inr (.inr 334)), (3, .inl v3)]) (st' := [.inl 0]) (h' := h143) (cs := []) (by decide +kernel) rfl trivial) ?_
          exact RK.zR (by decide +kernel) rfl (Or.inl rfl) hL hK hF
      rcases it_of hF with ⟨hb36, hF⟩ | ⟨hb36, hF⟩
      · refine RK.of (fun k9 => RN.tsw (dflt := 1218) (lo := 0) (hi := 38) (offs := #[171, 234, 257, 270, 283, 306, 339, 372, 395, 408, 431, 454, 497, 520, 533, 566, 589, 622, 655, 678, 701, 714, 727, 750, 773, 816, 829, 852, 885, 918, 941, 974, 1017, 1040, 1073, 1096, 1149, 1172, 1195]) (by decide +kernel) (RN.stm hb0 (RN.stm hb1 (RN.stm hb2 (RN.stm hb3 (RN.stm hb4 (RN.stm hb5 (RN.stm hb6 (RN.stm hb7 (RN.stm hb8 (RN.stm hb9 (RN.stm hb10 (RN.stm hb11 (RN.stm hb12 (RN.stm hb13 (RN.stm hb14 (RN.stm hb15 (RN.stm hb16 (RN.stm hb17 (RN.stm hb18 (RN.stm hb19 (RN.stm hb20 (RN.stm hb21 (RN.stm hb22 (RN.stm hb23 (RN.stm hb24 (RN.stm hb25 (RN.stm hb26 (RN.stm hb27 (RN.stm hb28 (RN.stm hb29 (RN.stm hb30 (RN.stm hb31 (RN.stm hb32 (RN.stm hb33 (RN.stm hb34 (RN.stm hb35 (RN.sth hb36 (tgt := 1182) rfl k9)))))))))))))))))))))))))))))))))))))) ?_
        refine RK.of (RN.blk (ops := [(1182, .aload_n 1), (1183, .aload_n 0), (1184, .iload_n 3), (1185, .iconst 1), (1186, .iadd)]) (pc' := 1187) (lv' := [(0, .inr (.inr (-2))), (1, .inr (.inr 0)), (2, .inr (.inr 334)), (3, .inl v3)]) (st' := [.inl (m_w32 (v3 + 1)), .inr (.inr (-2)), .inr (.inr 0)]) (h' := h) (cs := []) (by decide +kernel) rfl trivial) ?_
        obtain ⟨hc, hF⟩ := gd_of hF
        refine RK.of (RN.xa (by decide +kernel) hc.1.1 hc.1.2) ?_
        obtain ⟨x146, h145, hG, hF⟩ := bd_of hF
        have hq := rcv_ok (as := [.inl (xs (m_w32 (v3 + 1)))]) (TO.gk (o_0 hL))
        obtain ⟨hN, hL, hQ⟩ := DX11_count (d := 48) hL  hG
        refine RK.of (RN.cv (i := 163) (k := 118) (q2 := iX11_count) (as := [.inr (.inr 0), .inl (xs (m_w32 (v3 + 1)))]) (r := []) (v := some (.inl x146)) (h1 := h145) (by decide +kernel) rfl rfl rfl rfl rfl hq hN) ?_
        have hK := hK.tr hQ
        refine RK.of (RN.blk (ops := [(1191, .aload_n 2), (1192, .aload_n 0), (1193, .iload_n 3), (1194, .iconst 1), (1195, .iadd)]) (pc' := 1196) (lv' := [(0, .inr (.inr (-2))), (1, .inr (.inr 0)), (2, .inr (.inr 334)), (3, .inl v3)]) (st' := [.inl (m_w32 (v3 + 1)), .inr (.inr (-2)), .inr (.inr 334), .inl x146]) (h' := h145) (cs := []) (by decide +kernel) rfl trivial) ?_
        obtain ⟨hc, hF⟩ := gd_of hF
        refine RK.of (RN.xa (by decide +kernel) hc.1.1 hc.1.2) ?_
        obtain ⟨x148, h147, hG, hF⟩ := bd_of hF
        have hq := rcv_ok (as := [.inl (xs (m_w32 (v3 + 1)))]) (TO.gk (o_334 hL))
        obtain ⟨hN, hL, hQ⟩ := DX12_count (d := 49) hL  hG
        refine RK.of (RN.cv (i := 166) (k := 279) (q2 := iX12_count) (as := [.inr (.inr 334), .inl (xs (m_w32 (v3 + 1)))]) (r := [.inl x146]) (v := some (.inl x148)) (h1 := h147) (by decide +kernel) rfl rfl rfl rfl rfl hq hN) ?_
        have hK := hK.tr hQ
        rcases it_of hF with ⟨hb, hF⟩ | ⟨hb, hF⟩
        · refine RK.of (RN.ict (cd := .eq) (off := 51) (tgt := 1251) (by decide +kernel) (mif_eq hb)) ?_
          refine RK.of (RN.blk (ops := [(1251, .iinc 3 6)]) (pc' := 1254) (lv' := [(3, .inl (m_w32 (v3 + 6))), (0, .inr (.inr (-2))), (1, .inr (.inr 0)), (2, .inr (.inr 334))]) (st' := []) (h' := h147) (cs := []) (by decide +kernel) rfl trivial) ?_
          refine RK.of (RN.goto (off := -1236) (tgt := 18) (by decide +kernel)) ?_
          exact RK.sub (ih _ _ hL hK hF) (sub_cons rfl (sub_cons rfl (sub_cons rfl (sub_cons rfl sub_nil))))
        · refine RK.of (RN.icf (cd := .eq) (off := 51) (tgt := 1251) (by decide +kernel) (mif_eqn hb)) ?_
          refine RK.of (RN.blk (ops := [(1203, .iconst 0)]) (pc' := 1204) (lv' := [(0, .inr (.inr (-2))), (1, .inr (.inr 0)), (2, .inr (.inr 334)), (3, .inl v3)]) (st' := [.inl 0]) (h' := h147) (cs := []) (by decide +kernel) rfl trivial) ?_
          exact RK.zR (by decide +kernel) rfl (Or.inl rfl) hL hK hF
      rcases it_of hF with ⟨hb37, hF⟩ | ⟨hb37, hF⟩
      · refine RK.of (fun k9 => RN.tsw (dflt := 1218) (lo := 0) (hi := 38) (offs := #[171, 234, 257, 270, 283, 306, 339, 372, 395, 408, 431, 454, 497, 520, 533, 566, 589, 622, 655, 678, 701, 714, 727, 750, 773, 816, 829, 852, 885, 918, 941, 974, 1017, 1040, 1073, 1096, 1149, 1172, 1195]) (by decide +kernel) (RN.stm hb0 (RN.stm hb1 (RN.stm hb2 (RN.stm hb3 (RN.stm hb4 (RN.stm hb5 (RN.stm hb6 (RN.stm hb7 (RN.stm hb8 (RN.stm hb9 (RN.stm hb10 (RN.stm hb11 (RN.stm hb12 (RN.stm hb13 (RN.stm hb14 (RN.stm hb15 (RN.stm hb16 (RN.stm hb17 (RN.stm hb18 (RN.stm hb19 (RN.stm hb20 (RN.stm hb21 (RN.stm hb22 (RN.stm hb23 (RN.stm hb24 (RN.stm hb25 (RN.stm hb26 (RN.stm hb27 (RN.stm hb28 (RN.stm hb29 (RN.stm hb30 (RN.stm hb31 (RN.stm hb32 (RN.stm hb33 (RN.stm hb34 (RN.stm hb35 (RN.stm hb36 (RN.sth hb37 (tgt := 1205) rfl k9))))))))))))))))))))))))))))))))))))))) ?_
        refine RK.of (RN.blk (ops := [(1205, .aload_n 1), (1206, .aload_n 0), (1207, .iload_n 3), (1208, .iconst 1), (1209, .iadd)]) (pc' := 1210) (lv' := [(0, .inr (.inr (-2))), (1, .inr (.inr 0)), (2, .inr (.inr 334)), (3, .inl v3)]) (st' := [.inl (m_w32 (v3 + 1)), .inr (.inr (-2)), .inr (.inr 0)]) (h' := h) (cs := []) (by decide +kernel) rfl trivial) ?_
        obtain ⟨hc, hF⟩ := gd_of hF
        refine RK.of (RN.xa (by decide +kernel) hc.1.1 hc.1.2) ?_
        obtain ⟨x150, h149, hG, hF⟩ := bd_of hF
        have hq := rcv_ok (as := [.inl (xs (m_w32 (v3 + 1)))]) (TO.gk (o_0 hL))
        obtain ⟨hN, hL, hQ⟩ := DX11_image (d := 46) hL  hG
        refine RK.of (RN.cv (i := 167) (k := 147) (q2 := iX11_image) (as := [.inr (.inr 0), .inl (xs (m_w32 (v3 + 1)))]) (r := []) (v := some (.inl x150)) (h1 := h149) (by decide +kernel) rfl rfl rfl rfl rfl hq hN) ?_
        have hK := hK.tr hQ
        refine RK.of (RN.blk (ops := [(1214, .aload_n 2), (1215, .aload_n 0), (1216, .iload_n 3), (1217, .iconst 1), (1218, .iadd)]) (pc' := 1219) (lv' := [(0, .inr (.inr (-2))), (1, .inr (.inr 0)), (2, .inr (.inr 334)), (3, .inl v3)]) (st' := [.inl (m_w32 (v3 + 1)), .inr (.inr (-2)), .inr (.inr 334), .inl x150]) (h' := h149) (cs := []) (by decide +kernel) rfl trivial) ?_
        obtain ⟨hc, hF⟩ := gd_of hF
        refine RK.of (RN.xa (by decide +kernel) hc.1.1 hc.1.2) ?_
        obtain ⟨x152, h151, hG, hF⟩ := bd_of hF
        have hq := rcv_ok (as := [.inl (xs (m_w32 (v3 + 1)))]) (TO.gk (o_334 hL))
        obtain ⟨hN, hL, hQ⟩ := DX12_image (d := 49) hL  hG
        refine RK.of (RN.cv (i := 170) (k := 280) (q2 := iX12_image) (as := [.inr (.inr 334), .inl (xs (m_w32 (v3 + 1)))]) (r := [.inl x150]) (v := some (.inl x152)) (h1 := h151) (by decide +kernel) rfl rfl rfl rfl rfl hq hN) ?_
        have hK := hK.tr hQ
        rcases it_of hF with ⟨hb, hF⟩ | ⟨hb, hF⟩
        · refine RK.of (RN.ict (cd := .eq) (off := 28) (tgt := 1251) (by decide +kernel) (mif_eq hb)) ?_
          refine RK.of (RN.blk (ops := [(1251, .iinc 3 6)]) (pc' := 1254) (lv' := [(3, .inl (m_w32 (v3 + 6))), (0, .inr (.inr (-2))), (1, .inr (.inr 0)), (2, .inr (.inr 334))]) (st' := []) (h' := h151) (cs := []) (by decide +kernel) rfl trivial) ?_
          refine RK.of (RN.goto (off := -1236) (tgt := 18) (by decide +kernel)) ?_
          exact RK.sub (ih _ _ hL hK hF) (sub_cons rfl (sub_cons rfl (sub_cons rfl (sub_cons rfl sub_nil))))
        · refine RK.of (RN.icf (cd := .eq) (off := 28) (tgt := 1251) (by decide +kernel) (mif_eqn hb)) ?_
          refine RK.of (RN.blk (ops := [(1226, .iconst 0)]) (pc' := 1227) (lv' := [(0, .inr (.inr (-2))), (1, .inr (.inr 0)), (2, .inr (.inr 334)), (3, .inl v3)]) (st' := [.inl 0]) (h' := h151) (cs := []) (by decide +kernel) rfl trivial) ?_
          exact RK.zR (by decide +kernel) rfl (Or.inl rfl) hL hK hF
      rcases it_of hF with ⟨hb38, hF⟩ | ⟨hb38, hF⟩
      · refine RK.of (fun k9 => RN.tsw (dflt := 1218) (lo := 0) (hi := 38) (offs := #[171, 234, 257, 270, 283, 306, 339, 372, 395, 408, 431, 454, 497, 520, 533, 566, 589, 622, 655, 678, 701, 714, 727, 750, 773, 816, 829, 852, 885, 918, 941, 974, 1017, 1040, 1073, 1096, 1149, 1172, 1195]) (by decide +kernel) (RN.stm hb0 (RN.stm hb1 (RN.stm hb2 (RN.stm hb3 (RN.stm hb4 (RN.stm hb5 (RN.stm hb6 (RN.stm hb7 (RN.stm hb8 (RN.stm hb9 (RN.stm hb10 (RN.stm hb11 (RN.stm hb12 (RN.stm hb13 (RN.stm hb14 (RN.stm hb15 (RN.stm hb16 (RN.stm hb17 (RN.stm hb18 (RN.stm hb19 (RN.stm hb20 (RN.stm hb21 (RN.stm hb22 (RN.stm hb23 (RN.stm hb24 (RN.stm hb25 (RN.stm hb26 (RN.stm hb27 (RN.stm hb28 (RN.stm hb29 (RN.stm hb30 (RN.stm hb31 (RN.stm hb32 (RN.stm hb33 (RN.stm hb34 (RN.stm hb35 (RN.stm hb36 (RN.stm hb37 (RN.sth hb38 (tgt := 1228) rfl k9)))))))))))))))))))))))))))))))))))))))) ?_
        refine RK.of (RN.blk (ops := [(1228, .aload_n 1), (1229, .aload_n 0), (1230, .iload_n 3), (1231, .iconst 1), (1232, .iadd)]) (pc' := 1233) (lv' := [(0, .inr (.inr (-2))), (1, .inr (.inr 0)), (2, .inr (.inr 334)), (3, .inl v3)]) (st' := [.inl (m_w32 (v3 + 1)), .inr (.inr (-2)), .inr (.inr 0)]) (h' := h) (cs := []) (by decide +kernel) rfl trivial) ?_
        obtain ⟨hc, hF⟩ := gd_of hF
        refine RK.of (RN.xa (by decide +kernel) hc.1.1 hc.1.2) ?_
        obtain ⟨x154, h153, hG, hF⟩ := bd_of hF
        have hq := rcv_ok (as := [.inl (xs (m_w32 (v3 + 1)))]) (TO.gk (o_0 hL))
        obtain ⟨hN, hL, hQ⟩ := DX11_back (d := 46) hL  hG
        refine RK.of (RN.cv (i := 171) (k := 148) (q2 := iX11_back) (as := [.inr (.inr 0), .inl (xs (m_w32 (v3 + 1)))]) (r := []) (v := some (.inl x154)) (h1 := h153) (by decide +kernel) rfl rfl rfl rfl rfl hq hN) ?_
        have hK := hK.tr hQ
        refine RK.of (RN.blk (ops := [(1237, .aload_n 2), (1238, .aload_n 0), (1239, .iload_n 3), (1240, .iconst 1), (1241, .iadd)]) (pc' := 1242) (lv' := [(0, .inr (.inr (-2))), (1, .inr (.inr 0)), (2, .inr (.inr 334)), (3, .inl v3)]) (st' := [.inl (m_w32 (v3 + 1)), .inr (.inr (-2)), .inr (.inr 334), .inl x154]) (h' := h153) (cs := []) (by decide +kernel) rfl trivial) ?_
        obtain ⟨hc, hF⟩ := gd_of hF
        refine RK.of (RN.xa (by decide +kernel) hc.1.1 hc.1.2) ?_
        obtain ⟨x156, h155, hG, hF⟩ := bd_of hF
        have hq := rcv_ok (as := [.inl (xs (m_w32 (v3 + 1)))]) (TO.gk (o_334 hL))
        obtain ⟨hN, hL, hQ⟩ := DX12_back (d := 49) hL  hG
        refine RK.of (RN.cv (i := 174) (k := 281) (q2 := iX12_back) (as := [.inr (.inr 334), .inl (xs (m_w32 (v3 + 1)))]) (r := [.inl x154]) (v := some (.inl x156)) (h1 := h155) (by decide +kernel) rfl rfl rfl rfl rfl hq hN) ?_
        have hK := hK.tr hQ
        rcases it_of hF with ⟨hb, hF⟩ | ⟨hb, hF⟩
        · refine RK.of (RN.ict (cd := .eq) (off := 5) (tgt := 1251) (by decide +kernel) (mif_eq hb)) ?_
          refine RK.of (RN.blk (ops := [(1251, .iinc 3 6)]) (pc' := 1254) (lv' := [(3, .inl (m_w32 (v3 + 6))), (0, .inr (.inr (-2))), (1, .inr (.inr 0)), (2, .inr (.inr 334))]) (st' := []) (h' := h155) (cs := []) (by decide +kernel) rfl trivial) ?_
          refine RK.of (RN.goto (off := -1236) (tgt := 18) (by decide +kernel)) ?_
          exact RK.sub (ih _ _ hL hK hF) (sub_cons rfl (sub_cons rfl (sub_cons rfl (sub_cons rfl sub_nil))))
        · refine RK.of (RN.icf (cd := .eq) (off := 5) (tgt := 1251) (by decide +kernel) (mif_eqn hb)) ?_
          refine RK.of (RN.blk (ops := [(1249, .iconst 0)]) (pc' := 1250) (lv' := [(0, .inr (.inr (-2))), (1, .inr (.inr 0)), (2, .inr (.inr 334)), (3, .inl v3)]) (st' := [.inl 0]) (h' := h155) (cs := []) (by decide +kernel) rfl trivial) ?_
          exact RK.zR (by decide +kernel) rfl (Or.inl rfl) hL hK hF
      refine RK.of (fun k9 => RN.tsw (dflt := 1218) (lo := 0) (hi := 38) (offs := #[171, 234, 257, 270, 283, 306, 339, 372, 395, 408, 431, 454, 497, 520, 533, 566, 589, 622, 655, 678, 701, 714, 727, 750, 773, 816, 829, 852, 885, 918, 941, 974, 1017, 1040, 1073, 1096, 1149, 1172, 1195]) (by decide +kernel) (RN.stm hb0 (RN.stm hb1 (RN.stm hb2 (RN.stm hb3 (RN.stm hb4 (RN.stm hb5 (RN.stm hb6 (RN.stm hb7 (RN.stm hb8 (RN.stm hb9 (RN.stm hb10 (RN.stm hb11 (RN.stm hb12 (RN.stm hb13 (RN.stm hb14 (RN.stm hb15 (RN.stm hb16 (RN.stm hb17 (RN.stm hb18 (RN.stm hb19 (RN.stm hb20 (RN.stm hb21 (RN.stm hb22 (RN.stm hb23 (RN.stm hb24 (RN.stm hb25 (RN.stm hb26 (RN.stm hb27 (RN.stm hb28 (RN.stm hb29 (RN.stm hb30 (RN.stm hb31 (RN.stm hb32 (RN.stm hb33 (RN.stm hb34 (RN.stm hb35 (RN.stm hb36 (RN.stm hb37 (RN.stm hb38 (RN.std (tgt := 1251) rfl k9))))))))))))))))))))))))))))))))))))))))) ?_
      refine RK.of (RN.blk (ops := [(1251, .iinc 3 6)]) (pc' := 1254) (lv' := [(3, .inl (m_w32 (v3 + 6))), (0, .inr (.inr (-2))), (1, .inr (.inr 0)), (2, .inr (.inr 334))]) (st' := []) (h' := h) (cs := []) (by decide +kernel) rfl trivial) ?_
      refine RK.of (RN.goto (off := -1236) (tgt := 18) (by decide +kernel)) ?_
      exact RK.sub (ih _ _ hL hK hF) (sub_cons rfl (sub_cons rfl (sub_cons rfl (sub_cons rfl sub_nil))))
end Gl
