/-- the classes whose objects the worlds hold, by their numbers -/
abbrev vwCl : List vw_C := [(RX0, TX0, 7), (RX1, TX1, 4), (RX2, TX2, 4), (RX3, TX3, 5), (RX4, TX4, 6), (RX5, TX5, 9), (RX6, TX6, 3), (RX7, TX7, 2), (RX8, TX8, 9), (RX9, TX9, 13)]
